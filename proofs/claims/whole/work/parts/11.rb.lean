theorem o34_0 : tm_op 34 0 = some (.aload_n 0, (0, 0, 0, 0)) := rfl
theorem r34_0 (d : Nat) (v : Nat) (st : List Value) (h : tm_H) (K : Option Value → tm_H → Prop) : tm_A d 34 0 [some (.ref v)] st h K ↔ tm_A d 34 1 [some (.ref v)] (.ref v :: st) h K := tm_s o34_0 rfl rfl rfl
theorem o34_1 : tm_op 34 1 = some (.invokespecial 3, (4, 0, 0, 0)) := rfl
theorem r34_1 (d : Nat) (a : Nat) (ls : tm_Lo) (st : List Value) (h : tm_H) (K : Option Value → tm_H → Prop) : tm_A (d + 1) 34 1 ls (.ref a :: st) h K ↔ tm_cs st ∧ tm_A (d + 1) 34 4 ls st h K := tm_obj o34_1 rfl rfl
theorem o34_4 : tm_op 34 4 = some (.aload_n 0, (0, 0, 0, 0)) := rfl
theorem r34_4 (d : Nat) (v : Nat) (st : List Value) (h : tm_H) (K : Option Value → tm_H → Prop) : tm_A d 34 4 [some (.ref v)] st h K ↔ tm_A d 34 5 [some (.ref v)] (.ref v :: st) h K := tm_s o34_4 rfl rfl rfl
theorem o34_5 : tm_op 34 5 = some (.bipush 10, (0, 0, 0, 0)) := rfl
theorem r34_5 (d : Nat) (ls : tm_Lo) (st : List Value) (h : tm_H) (K : Option Value → tm_H → Prop) : tm_A d 34 5 ls st h K ↔ tm_A d 34 7 ls (.int (10 : Int32) :: st) h K := tm_bp o34_5 (by decide)
theorem o34_7 : tm_op 34 7 = some (.bipush 10, (0, 0, 0, 0)) := rfl
theorem r34_7 (d : Nat) (ls : tm_Lo) (st : List Value) (h : tm_H) (K : Option Value → tm_H → Prop) : tm_A d 34 7 ls st h K ↔ tm_A d 34 9 ls (.int (10 : Int32) :: st) h K := tm_bp o34_7 (by decide)
theorem o34_9 : tm_op 34 9 = some (.multianewarray 9 2, (3, 0, 0, 0)) := rfl
theorem r34_9 (d : Nat) (v u : Int32) (ls : tm_Lo) (st : List Value) (G : tm_G) (I : Nat → Nat → Int32) (J : Nat → Nat → Int64) (R : Nat → Nat → Option Nat) (K : Option Value → tm_H → Prop) : tm_A d 34 9 ls (.int v :: .int u :: st) (G, I, J, R) K ↔ (¬ u < 0 ∧ ¬ v < 0 ∧ (tm_ix u) ≤ 1000 ∧ (tm_ix v) ≤ 1000) ∧ tm_A d 34 13 ls (.ref G.1 :: st) (tm_mn (tm_ix u) (tm_ix v) (G, I, J, R)) K := tm_mnew o34_9
theorem o34_13 : tm_op 34 13 = some (.putfield 11, (2, 3, 0, 0)) := rfl
theorem r34_13 (d : Nat) (v : Nat) (a : Nat) (ls : tm_Lo) (st : List Value) (G : tm_G) (I : Nat → Nat → Int32) (J : Nat → Nat → Int64) (R : Nat → Nat → Option Nat) (K : Option Value → tm_H → Prop) : tm_A d 34 13 ls (.ref v :: .ref a :: st) (G, I, J, R) K ↔ G.2.2 a = (0, 3) ∧ tm_A d 34 16 ls st (G, I, J, up2 R a 0 (some v)) K := tm_putR o34_13
theorem o34_16 : tm_op 34 16 = some (.return_, (0, 0, 0, 0)) := rfl
theorem r34_16 (d : Nat) (ls : tm_Lo) (h : tm_H) (K : Option Value → tm_H → Prop) : tm_A d 34 16 ls [] h K ↔ K none h := tm_retv o34_16 rfl
theorem o35_0 : tm_op 35 0 = some (.iload_n 0, (0, 0, 0, 0)) := rfl
theorem r35_0 (d : Nat) (v : Int32) (l1 : Option Value) (st : List Value) (h : tm_H) (K : Option Value → tm_H → Prop) : tm_A d 35 0 [some (.int v), l1] st h K ↔ tm_A d 35 1 [some (.int v), l1] (.int v :: st) h K := tm_s o35_0 rfl rfl rfl
theorem o35_1 : tm_op 35 1 = some (.ifCond .lt 23, (0, 0, 0, 0)) := rfl
theorem r35_1 (d : Nat) (x : Int32) (ls : tm_Lo) (st : List Value) (h : tm_H) (K : Option Value → tm_H → Prop) : tm_A d 35 1 ls (.int x :: st) h K ↔ if x < 0 then tm_A d 35 24 ls st h K else tm_A d 35 4 ls st h K := tm_b o35_1 rfl rfl rfl rfl
theorem o35_4 : tm_op 35 4 = some (.iload_n 0, (0, 0, 0, 0)) := rfl
theorem r35_4 (d : Nat) (v : Int32) (l1 : Option Value) (st : List Value) (h : tm_H) (K : Option Value → tm_H → Prop) : tm_A d 35 4 [some (.int v), l1] st h K ↔ tm_A d 35 5 [some (.int v), l1] (.int v :: st) h K := tm_s o35_4 rfl rfl rfl
theorem o35_5 : tm_op 35 5 = some (.bipush 10, (0, 0, 0, 0)) := rfl
theorem r35_5 (d : Nat) (ls : tm_Lo) (st : List Value) (h : tm_H) (K : Option Value → tm_H → Prop) : tm_A d 35 5 ls st h K ↔ tm_A d 35 7 ls (.int (10 : Int32) :: st) h K := tm_bp o35_5 (by decide)
theorem o35_7 : tm_op 35 7 = some (.if_icmp .ge 17, (0, 0, 0, 0)) := rfl
theorem r35_7 (d : Nat) (y x : Int32) (ls : tm_Lo) (st : List Value) (h : tm_H) (K : Option Value → tm_H → Prop) : tm_A d 35 7 ls (.int y :: .int x :: st) h K ↔ if y ≤ x then tm_A d 35 24 ls st h K else tm_A d 35 10 ls st h K := tm_b o35_7 rfl rfl rfl rfl
theorem o35_10 : tm_op 35 10 = some (.iload_n 1, (0, 0, 0, 0)) := rfl
theorem r35_10 (d : Nat) (v : Int32) (l0 : Option Value) (st : List Value) (h : tm_H) (K : Option Value → tm_H → Prop) : tm_A d 35 10 [l0, some (.int v)] st h K ↔ tm_A d 35 11 [l0, some (.int v)] (.int v :: st) h K := tm_s o35_10 rfl rfl rfl
theorem o35_11 : tm_op 35 11 = some (.ifCond .lt 13, (0, 0, 0, 0)) := rfl
theorem r35_11 (d : Nat) (x : Int32) (ls : tm_Lo) (st : List Value) (h : tm_H) (K : Option Value → tm_H → Prop) : tm_A d 35 11 ls (.int x :: st) h K ↔ if x < 0 then tm_A d 35 24 ls st h K else tm_A d 35 14 ls st h K := tm_b o35_11 rfl rfl rfl rfl
theorem o35_14 : tm_op 35 14 = some (.iload_n 1, (0, 0, 0, 0)) := rfl
theorem r35_14 (d : Nat) (v : Int32) (l0 : Option Value) (st : List Value) (h : tm_H) (K : Option Value → tm_H → Prop) : tm_A d 35 14 [l0, some (.int v)] st h K ↔ tm_A d 35 15 [l0, some (.int v)] (.int v :: st) h K := tm_s o35_14 rfl rfl rfl
theorem o35_15 : tm_op 35 15 = some (.bipush 10, (0, 0, 0, 0)) := rfl
theorem r35_15 (d : Nat) (ls : tm_Lo) (st : List Value) (h : tm_H) (K : Option Value → tm_H → Prop) : tm_A d 35 15 ls st h K ↔ tm_A d 35 17 ls (.int (10 : Int32) :: st) h K := tm_bp o35_15 (by decide)
theorem o35_17 : tm_op 35 17 = some (.if_icmp .ge 7, (0, 0, 0, 0)) := rfl
theorem r35_17 (d : Nat) (y x : Int32) (ls : tm_Lo) (st : List Value) (h : tm_H) (K : Option Value → tm_H → Prop) : tm_A d 35 17 ls (.int y :: .int x :: st) h K ↔ if y ≤ x then tm_A d 35 24 ls st h K else tm_A d 35 20 ls st h K := tm_b o35_17 rfl rfl rfl rfl
theorem o35_20 : tm_op 35 20 = some (.iconst 1, (0, 0, 0, 0)) := rfl
theorem r35_20 (d : Nat) (ls : tm_Lo) (st : List Value) (h : tm_H) (K : Option Value → tm_H → Prop) : tm_A d 35 20 ls st h K ↔ tm_A d 35 21 ls (.int (1 : Int32) :: st) h K := tm_ic o35_20 (by decide)
theorem o35_21 : tm_op 35 21 = some (.goto 4, (0, 0, 0, 0)) := rfl
theorem r35_21 (d : Nat) (ls : tm_Lo) (st : List Value) (h : tm_H) (K : Option Value → tm_H → Prop) : tm_A d 35 21 ls st h K ↔ tm_A d 35 25 ls st h K := tm_s o35_21 rfl rfl rfl
theorem o35_24 : tm_op 35 24 = some (.iconst 0, (0, 0, 0, 0)) := rfl
theorem r35_24 (d : Nat) (ls : tm_Lo) (st : List Value) (h : tm_H) (K : Option Value → tm_H → Prop) : tm_A d 35 24 ls st h K ↔ tm_A d 35 25 ls (.int (0 : Int32) :: st) h K := tm_ic o35_24 (by decide)
theorem o35_25 : tm_op 35 25 = some (.ireturn, (0, 0, 0, 0)) := rfl
theorem r35_25 (d : Nat) (v : Int32) (ls : tm_Lo) (h : tm_H) (K : Option Value → tm_H → Prop) : tm_A d 35 25 ls [.int v] h K ↔ (v = 0 ∨ v = 1) ∧ K (some (.int v)) h := tm_retz o35_25 rfl
theorem o36_0 : tm_op 36 0 = some (.iload_n 1, (0, 0, 0, 0)) := rfl
theorem r36_0 (d : Nat) (v : Int32) (l0 l2 l3 : Option Value) (st : List Value) (h : tm_H) (K : Option Value → tm_H → Prop) : tm_A d 36 0 [l0, some (.int v), l2, l3] st h K ↔ tm_A d 36 1 [l0, some (.int v), l2, l3] (.int v :: st) h K := tm_s o36_0 rfl rfl rfl
theorem o36_1 : tm_op 36 1 = some (.iload_n 2, (0, 0, 0, 0)) := rfl
theorem r36_1 (d : Nat) (v : Int32) (l0 l1 l3 : Option Value) (st : List Value) (h : tm_H) (K : Option Value → tm_H → Prop) : tm_A d 36 1 [l0, l1, some (.int v), l3] st h K ↔ tm_A d 36 2 [l0, l1, some (.int v), l3] (.int v :: st) h K := tm_s o36_1 rfl rfl rfl
theorem o36_2 : tm_op 36 2 = some (.invokestatic 16, (1, 35, 2, 0)) := rfl
theorem r36_2 (d : Nat) (v0 : Int32) (v1 : Int32) (ls : tm_Lo) (st : List Value) (h : tm_H) (K : Option Value → tm_H → Prop) : tm_A (d + 1) 36 2 ls (.int v1 :: .int v0 :: st) h K ↔ tm_cs st ∧ tm_R d 35 [.int v0, .int v1] h (fun r h' => tm_A (d + 1) 36 5 ls (r.toList ++ st) h' K) := tm_callS (as := [.int v0, .int v1]) o36_2 rfl rfl rfl rfl
theorem o36_5 : tm_op 36 5 = some (.ifCond .eq 21, (0, 0, 0, 0)) := rfl
theorem r36_5 (d : Nat) (x : Int32) (ls : tm_Lo) (st : List Value) (h : tm_H) (K : Option Value → tm_H → Prop) : tm_A d 36 5 ls (.int x :: st) h K ↔ if x = 0 then tm_A d 36 26 ls st h K else tm_A d 36 8 ls st h K := tm_b o36_5 rfl rfl rfl rfl
theorem o36_8 : tm_op 36 8 = some (.aload_n 0, (0, 0, 0, 0)) := rfl
theorem r36_8 (d : Nat) (v : Nat) (l1 l2 l3 : Option Value) (st : List Value) (h : tm_H) (K : Option Value → tm_H → Prop) : tm_A d 36 8 [some (.ref v), l1, l2, l3] st h K ↔ tm_A d 36 9 [some (.ref v), l1, l2, l3] (.ref v :: st) h K := tm_s o36_8 rfl rfl rfl
theorem o36_9 : tm_op 36 9 = some (.getfield 11, (2, 3, 0, 0)) := rfl
theorem r36_9 (d : Nat) (a : Nat) (ls : tm_Lo) (st : List Value) (G : tm_G) (I : Nat → Nat → Int32) (J : Nat → Nat → Int64) (R : Nat → Nat → Option Nat) (K : Option Value → tm_H → Prop) : tm_A d 36 9 ls (.ref a :: st) (G, I, J, R) K ↔ G.2.2 a = (0, 3) ∧ tm_A d 36 12 ls (tm_rf (R a 0) :: st) (G, I, J, R) K := tm_getR o36_9
theorem o36_12 : tm_op 36 12 = some (.iload_n 1, (0, 0, 0, 0)) := rfl
theorem r36_12 (d : Nat) (v : Int32) (l0 l2 l3 : Option Value) (st : List Value) (h : tm_H) (K : Option Value → tm_H → Prop) : tm_A d 36 12 [l0, some (.int v), l2, l3] st h K ↔ tm_A d 36 13 [l0, some (.int v), l2, l3] (.int v :: st) h K := tm_s o36_12 rfl rfl rfl
theorem o36_13 : tm_op 36 13 = some (.aaload, (0, 0, 0, 0)) := rfl
theorem r36_13 (d : Nat) (v : Int32) (a : Nat) (ls : tm_Lo) (st : List Value) (G : tm_G) (I : Nat → Nat → Int32) (J : Nat → Nat → Int64) (R : Nat → Nat → Option Nat) (K : Option Value → tm_H → Prop) : tm_A d 36 13 ls (.int v :: .ref a :: st) (G, I, J, R) K ↔ (((G.2.2 a).1 = 3 ∨ (G.2.2 a).1 = 4 ∨ (G.2.2 a).1 = 5) ∧ tm_in v (G.2.2 a).2) ∧ tm_A d 36 14 ls (tm_rf (R a (tm_ix v)) :: st) (G, I, J, R) K := tm_aald o36_13
theorem o36_14 : tm_op 36 14 = some (.iload_n 2, (0, 0, 0, 0)) := rfl
theorem r36_14 (d : Nat) (v : Int32) (l0 l1 l3 : Option Value) (st : List Value) (h : tm_H) (K : Option Value → tm_H → Prop) : tm_A d 36 14 [l0, l1, some (.int v), l3] st h K ↔ tm_A d 36 15 [l0, l1, some (.int v), l3] (.int v :: st) h K := tm_s o36_14 rfl rfl rfl
theorem o36_15 : tm_op 36 15 = some (.iload_n 3, (0, 0, 0, 0)) := rfl
theorem r36_15 (d : Nat) (v : Int32) (l0 l1 l2 : Option Value) (st : List Value) (h : tm_H) (K : Option Value → tm_H → Prop) : tm_A d 36 15 [l0, l1, l2, some (.int v)] st h K ↔ tm_A d 36 16 [l0, l1, l2, some (.int v)] (.int v :: st) h K := tm_s o36_15 rfl rfl rfl
theorem o36_16 : tm_op 36 16 = some (.iastore, (0, 0, 0, 0)) := rfl
theorem r36_16 (d : Nat) (u v : Int32) (a : Nat) (ls : tm_Lo) (st : List Value) (G : tm_G) (I : Nat → Nat → Int32) (J : Nat → Nat → Int64) (R : Nat → Nat → Option Nat) (K : Option Value → tm_H → Prop) : tm_A d 36 16 ls (.int u :: .int v :: .ref a :: st) (G, I, J, R) K ↔ (3 ≤ a ∧ (G.2.2 a).1 = 1 ∧ tm_in v (G.2.2 a).2) ∧ tm_A d 36 17 ls st (G, up2 I a (tm_ix v) u, J, R) K := tm_iast o36_16
theorem o36_17 : tm_op 36 17 = some (.aload_n 0, (0, 0, 0, 0)) := rfl
theorem r36_17 (d : Nat) (v : Nat) (l1 l2 l3 : Option Value) (st : List Value) (h : tm_H) (K : Option Value → tm_H → Prop) : tm_A d 36 17 [some (.ref v), l1, l2, l3] st h K ↔ tm_A d 36 18 [some (.ref v), l1, l2, l3] (.ref v :: st) h K := tm_s o36_17 rfl rfl rfl
theorem o36_18 : tm_op 36 18 = some (.getfield 11, (2, 3, 0, 0)) := rfl
theorem r36_18 (d : Nat) (a : Nat) (ls : tm_Lo) (st : List Value) (G : tm_G) (I : Nat → Nat → Int32) (J : Nat → Nat → Int64) (R : Nat → Nat → Option Nat) (K : Option Value → tm_H → Prop) : tm_A d 36 18 ls (.ref a :: st) (G, I, J, R) K ↔ G.2.2 a = (0, 3) ∧ tm_A d 36 21 ls (tm_rf (R a 0) :: st) (G, I, J, R) K := tm_getR o36_18
theorem o36_21 : tm_op 36 21 = some (.iload_n 2, (0, 0, 0, 0)) := rfl
theorem r36_21 (d : Nat) (v : Int32) (l0 l1 l3 : Option Value) (st : List Value) (h : tm_H) (K : Option Value → tm_H → Prop) : tm_A d 36 21 [l0, l1, some (.int v), l3] st h K ↔ tm_A d 36 22 [l0, l1, some (.int v), l3] (.int v :: st) h K := tm_s o36_21 rfl rfl rfl
theorem o36_22 : tm_op 36 22 = some (.aaload, (0, 0, 0, 0)) := rfl
theorem r36_22 (d : Nat) (v : Int32) (a : Nat) (ls : tm_Lo) (st : List Value) (G : tm_G) (I : Nat → Nat → Int32) (J : Nat → Nat → Int64) (R : Nat → Nat → Option Nat) (K : Option Value → tm_H → Prop) : tm_A d 36 22 ls (.int v :: .ref a :: st) (G, I, J, R) K ↔ (((G.2.2 a).1 = 3 ∨ (G.2.2 a).1 = 4 ∨ (G.2.2 a).1 = 5) ∧ tm_in v (G.2.2 a).2) ∧ tm_A d 36 23 ls (tm_rf (R a (tm_ix v)) :: st) (G, I, J, R) K := tm_aald o36_22
theorem o36_23 : tm_op 36 23 = some (.iload_n 1, (0, 0, 0, 0)) := rfl
theorem r36_23 (d : Nat) (v : Int32) (l0 l2 l3 : Option Value) (st : List Value) (h : tm_H) (K : Option Value → tm_H → Prop) : tm_A d 36 23 [l0, some (.int v), l2, l3] st h K ↔ tm_A d 36 24 [l0, some (.int v), l2, l3] (.int v :: st) h K := tm_s o36_23 rfl rfl rfl
theorem o36_24 : tm_op 36 24 = some (.iload_n 3, (0, 0, 0, 0)) := rfl
theorem r36_24 (d : Nat) (v : Int32) (l0 l1 l2 : Option Value) (st : List Value) (h : tm_H) (K : Option Value → tm_H → Prop) : tm_A d 36 24 [l0, l1, l2, some (.int v)] st h K ↔ tm_A d 36 25 [l0, l1, l2, some (.int v)] (.int v :: st) h K := tm_s o36_24 rfl rfl rfl
theorem o36_25 : tm_op 36 25 = some (.iastore, (0, 0, 0, 0)) := rfl
theorem r36_25 (d : Nat) (u v : Int32) (a : Nat) (ls : tm_Lo) (st : List Value) (G : tm_G) (I : Nat → Nat → Int32) (J : Nat → Nat → Int64) (R : Nat → Nat → Option Nat) (K : Option Value → tm_H → Prop) : tm_A d 36 25 ls (.int u :: .int v :: .ref a :: st) (G, I, J, R) K ↔ (3 ≤ a ∧ (G.2.2 a).1 = 1 ∧ tm_in v (G.2.2 a).2) ∧ tm_A d 36 26 ls st (G, up2 I a (tm_ix v) u, J, R) K := tm_iast o36_25
theorem o36_26 : tm_op 36 26 = some (.return_, (0, 0, 0, 0)) := rfl
theorem r36_26 (d : Nat) (ls : tm_Lo) (h : tm_H) (K : Option Value → tm_H → Prop) : tm_A d 36 26 ls [] h K ↔ K none h := tm_retv o36_26 rfl
theorem o37_0 : tm_op 37 0 = some (.iload_n 1, (0, 0, 0, 0)) := rfl
theorem r37_0 (d : Nat) (v : Int32) (l0 l2 : Option Value) (st : List Value) (h : tm_H) (K : Option Value → tm_H → Prop) : tm_A d 37 0 [l0, some (.int v), l2] st h K ↔ tm_A d 37 1 [l0, some (.int v), l2] (.int v :: st) h K := tm_s o37_0 rfl rfl rfl
theorem o37_1 : tm_op 37 1 = some (.iload_n 2, (0, 0, 0, 0)) := rfl
theorem r37_1 (d : Nat) (v : Int32) (l0 l1 : Option Value) (st : List Value) (h : tm_H) (K : Option Value → tm_H → Prop) : tm_A d 37 1 [l0, l1, some (.int v)] st h K ↔ tm_A d 37 2 [l0, l1, some (.int v)] (.int v :: st) h K := tm_s o37_1 rfl rfl rfl
theorem o37_2 : tm_op 37 2 = some (.invokestatic 16, (1, 35, 2, 0)) := rfl
theorem r37_2 (d : Nat) (v0 : Int32) (v1 : Int32) (ls : tm_Lo) (st : List Value) (h : tm_H) (K : Option Value → tm_H → Prop) : tm_A (d + 1) 37 2 ls (.int v1 :: .int v0 :: st) h K ↔ tm_cs st ∧ tm_R d 35 [.int v0, .int v1] h (fun r h' => tm_A (d + 1) 37 5 ls (r.toList ++ st) h' K) := tm_callS (as := [.int v0, .int v1]) o37_2 rfl rfl rfl rfl
theorem o37_5 : tm_op 37 5 = some (.ifCond .eq 14, (0, 0, 0, 0)) := rfl
theorem r37_5 (d : Nat) (x : Int32) (ls : tm_Lo) (st : List Value) (h : tm_H) (K : Option Value → tm_H → Prop) : tm_A d 37 5 ls (.int x :: st) h K ↔ if x = 0 then tm_A d 37 19 ls st h K else tm_A d 37 8 ls st h K := tm_b o37_5 rfl rfl rfl rfl
theorem o37_8 : tm_op 37 8 = some (.aload_n 0, (0, 0, 0, 0)) := rfl
theorem r37_8 (d : Nat) (v : Nat) (l1 l2 : Option Value) (st : List Value) (h : tm_H) (K : Option Value → tm_H → Prop) : tm_A d 37 8 [some (.ref v), l1, l2] st h K ↔ tm_A d 37 9 [some (.ref v), l1, l2] (.ref v :: st) h K := tm_s o37_8 rfl rfl rfl
theorem o37_9 : tm_op 37 9 = some (.getfield 11, (2, 3, 0, 0)) := rfl
theorem r37_9 (d : Nat) (a : Nat) (ls : tm_Lo) (st : List Value) (G : tm_G) (I : Nat → Nat → Int32) (J : Nat → Nat → Int64) (R : Nat → Nat → Option Nat) (K : Option Value → tm_H → Prop) : tm_A d 37 9 ls (.ref a :: st) (G, I, J, R) K ↔ G.2.2 a = (0, 3) ∧ tm_A d 37 12 ls (tm_rf (R a 0) :: st) (G, I, J, R) K := tm_getR o37_9
theorem o37_12 : tm_op 37 12 = some (.iload_n 1, (0, 0, 0, 0)) := rfl
theorem r37_12 (d : Nat) (v : Int32) (l0 l2 : Option Value) (st : List Value) (h : tm_H) (K : Option Value → tm_H → Prop) : tm_A d 37 12 [l0, some (.int v), l2] st h K ↔ tm_A d 37 13 [l0, some (.int v), l2] (.int v :: st) h K := tm_s o37_12 rfl rfl rfl
theorem o37_13 : tm_op 37 13 = some (.aaload, (0, 0, 0, 0)) := rfl
theorem r37_13 (d : Nat) (v : Int32) (a : Nat) (ls : tm_Lo) (st : List Value) (G : tm_G) (I : Nat → Nat → Int32) (J : Nat → Nat → Int64) (R : Nat → Nat → Option Nat) (K : Option Value → tm_H → Prop) : tm_A d 37 13 ls (.int v :: .ref a :: st) (G, I, J, R) K ↔ (((G.2.2 a).1 = 3 ∨ (G.2.2 a).1 = 4 ∨ (G.2.2 a).1 = 5) ∧ tm_in v (G.2.2 a).2) ∧ tm_A d 37 14 ls (tm_rf (R a (tm_ix v)) :: st) (G, I, J, R) K := tm_aald o37_13
theorem o37_14 : tm_op 37 14 = some (.iload_n 2, (0, 0, 0, 0)) := rfl
theorem r37_14 (d : Nat) (v : Int32) (l0 l1 : Option Value) (st : List Value) (h : tm_H) (K : Option Value → tm_H → Prop) : tm_A d 37 14 [l0, l1, some (.int v)] st h K ↔ tm_A d 37 15 [l0, l1, some (.int v)] (.int v :: st) h K := tm_s o37_14 rfl rfl rfl
theorem o37_15 : tm_op 37 15 = some (.iaload, (0, 0, 0, 0)) := rfl
theorem r37_15 (d : Nat) (v : Int32) (a : Nat) (ls : tm_Lo) (st : List Value) (G : tm_G) (I : Nat → Nat → Int32) (J : Nat → Nat → Int64) (R : Nat → Nat → Option Nat) (K : Option Value → tm_H → Prop) : tm_A d 37 15 ls (.int v :: .ref a :: st) (G, I, J, R) K ↔ ((G.2.2 a).1 = 1 ∧ tm_in v (G.2.2 a).2) ∧ tm_A d 37 16 ls (.int (I a (tm_ix v)) :: st) (G, I, J, R) K := tm_iald o37_15
theorem o37_16 : tm_op 37 16 = some (.goto 4, (0, 0, 0, 0)) := rfl
theorem r37_16 (d : Nat) (ls : tm_Lo) (st : List Value) (h : tm_H) (K : Option Value → tm_H → Prop) : tm_A d 37 16 ls st h K ↔ tm_A d 37 20 ls st h K := tm_s o37_16 rfl rfl rfl
theorem o37_19 : tm_op 37 19 = some (.iconst 0, (0, 0, 0, 0)) := rfl
theorem r37_19 (d : Nat) (ls : tm_Lo) (st : List Value) (h : tm_H) (K : Option Value → tm_H → Prop) : tm_A d 37 19 ls st h K ↔ tm_A d 37 20 ls (.int (0 : Int32) :: st) h K := tm_ic o37_19 (by decide)
theorem o37_20 : tm_op 37 20 = some (.ireturn, (0, 0, 0, 0)) := rfl
theorem r37_20 (d : Nat) (v : Int32) (ls : tm_Lo) (h : tm_H) (K : Option Value → tm_H → Prop) : tm_A d 37 20 ls [.int v] h K ↔ K (some (.int v)) h := tm_reti o37_20 rfl
theorem o38_0 : tm_op 38 0 = some (.iconst 0, (0, 0, 0, 0)) := rfl
theorem r38_0 (d : Nat) (ls : tm_Lo) (st : List Value) (h : tm_H) (K : Option Value → tm_H → Prop) : tm_A d 38 0 ls st h K ↔ tm_A d 38 1 ls (.int (0 : Int32) :: st) h K := tm_ic o38_0 (by decide)
theorem o38_1 : tm_op 38 1 = some (.istore_n 2, (0, 0, 0, 0)) := rfl
theorem r38_1 (d : Nat) (v : Int32) (l0 l1 l2 l3 l4 : Option Value) (st : List Value) (h : tm_H) (K : Option Value → tm_H → Prop) : tm_A d 38 1 [l0, l1, l2, l3, l4] (.int v :: st) h K ↔ tm_A d 38 2 [l0, l1, some (.int v), l3, l4] st h K := tm_s o38_1 rfl rfl rfl
theorem o38_2 : tm_op 38 2 = some (.iconst 0, (0, 0, 0, 0)) := rfl
theorem r38_2 (d : Nat) (ls : tm_Lo) (st : List Value) (h : tm_H) (K : Option Value → tm_H → Prop) : tm_A d 38 2 ls st h K ↔ tm_A d 38 3 ls (.int (0 : Int32) :: st) h K := tm_ic o38_2 (by decide)
theorem o38_3 : tm_op 38 3 = some (.istore_n 3, (0, 0, 0, 0)) := rfl
theorem r38_3 (d : Nat) (v : Int32) (l0 l1 l2 l3 l4 : Option Value) (st : List Value) (h : tm_H) (K : Option Value → tm_H → Prop) : tm_A d 38 3 [l0, l1, l2, l3, l4] (.int v :: st) h K ↔ tm_A d 38 4 [l0, l1, l2, some (.int v), l4] st h K := tm_s o38_3 rfl rfl rfl
theorem o38_4 : tm_op 38 4 = some (.iload_n 3, (0, 0, 0, 0)) := rfl
theorem r38_4 (d : Nat) (v : Int32) (l0 l1 l2 l4 : Option Value) (st : List Value) (h : tm_H) (K : Option Value → tm_H → Prop) : tm_A d 38 4 [l0, l1, l2, some (.int v), l4] st h K ↔ tm_A d 38 5 [l0, l1, l2, some (.int v), l4] (.int v :: st) h K := tm_s o38_4 rfl rfl rfl
theorem o38_5 : tm_op 38 5 = some (.bipush 10, (0, 0, 0, 0)) := rfl
theorem r38_5 (d : Nat) (ls : tm_Lo) (st : List Value) (h : tm_H) (K : Option Value → tm_H → Prop) : tm_A d 38 5 ls st h K ↔ tm_A d 38 7 ls (.int (10 : Int32) :: st) h K := tm_bp o38_5 (by decide)
theorem o38_7 : tm_op 38 7 = some (.if_icmp .ge 43, (0, 0, 0, 0)) := rfl
theorem r38_7 (d : Nat) (y x : Int32) (ls : tm_Lo) (st : List Value) (h : tm_H) (K : Option Value → tm_H → Prop) : tm_A d 38 7 ls (.int y :: .int x :: st) h K ↔ if y ≤ x then tm_A d 38 50 ls st h K else tm_A d 38 10 ls st h K := tm_b o38_7 rfl rfl rfl rfl
theorem o38_10 : tm_op 38 10 = some (.iload_n 3, (0, 0, 0, 0)) := rfl
theorem r38_10 (d : Nat) (v : Int32) (l0 l1 l2 l4 : Option Value) (st : List Value) (h : tm_H) (K : Option Value → tm_H → Prop) : tm_A d 38 10 [l0, l1, l2, some (.int v), l4] st h K ↔ tm_A d 38 11 [l0, l1, l2, some (.int v), l4] (.int v :: st) h K := tm_s o38_10 rfl rfl rfl
theorem o38_11 : tm_op 38 11 = some (.iconst 1, (0, 0, 0, 0)) := rfl
theorem r38_11 (d : Nat) (ls : tm_Lo) (st : List Value) (h : tm_H) (K : Option Value → tm_H → Prop) : tm_A d 38 11 ls st h K ↔ tm_A d 38 12 ls (.int (1 : Int32) :: st) h K := tm_ic o38_11 (by decide)
theorem o38_12 : tm_op 38 12 = some (.iadd, (0, 0, 0, 0)) := rfl
theorem r38_12 (d : Nat) (u v : Int32) (ls : tm_Lo) (st : List Value) (h : tm_H) (K : Option Value → tm_H → Prop) : tm_A d 38 12 ls (.int u :: .int v :: st) h K ↔ tm_A d 38 13 ls (.int (v + u) :: st) h K := tm_s o38_12 rfl rfl rfl
theorem o38_13 : tm_op 38 13 = some (.istore 4, (0, 0, 0, 0)) := rfl
theorem r38_13 (d : Nat) (v : Int32) (l0 l1 l2 l3 l4 : Option Value) (st : List Value) (h : tm_H) (K : Option Value → tm_H → Prop) : tm_A d 38 13 [l0, l1, l2, l3, l4] (.int v :: st) h K ↔ tm_A d 38 15 [l0, l1, l2, l3, some (.int v)] st h K := tm_s o38_13 rfl rfl rfl
theorem o38_15 : tm_op 38 15 = some (.iload 4, (0, 0, 0, 0)) := rfl
theorem r38_15 (d : Nat) (v : Int32) (l0 l1 l2 l3 : Option Value) (st : List Value) (h : tm_H) (K : Option Value → tm_H → Prop) : tm_A d 38 15 [l0, l1, l2, l3, some (.int v)] st h K ↔ tm_A d 38 17 [l0, l1, l2, l3, some (.int v)] (.int v :: st) h K := tm_s o38_15 rfl rfl rfl
theorem o38_17 : tm_op 38 17 = some (.bipush 10, (0, 0, 0, 0)) := rfl
theorem r38_17 (d : Nat) (ls : tm_Lo) (st : List Value) (h : tm_H) (K : Option Value → tm_H → Prop) : tm_A d 38 17 ls st h K ↔ tm_A d 38 19 ls (.int (10 : Int32) :: st) h K := tm_bp o38_17 (by decide)
theorem o38_19 : tm_op 38 19 = some (.if_icmp .ge 25, (0, 0, 0, 0)) := rfl
theorem r38_19 (d : Nat) (y x : Int32) (ls : tm_Lo) (st : List Value) (h : tm_H) (K : Option Value → tm_H → Prop) : tm_A d 38 19 ls (.int y :: .int x :: st) h K ↔ if y ≤ x then tm_A d 38 44 ls st h K else tm_A d 38 22 ls st h K := tm_b o38_19 rfl rfl rfl rfl
theorem o38_22 : tm_op 38 22 = some (.aload_n 0, (0, 0, 0, 0)) := rfl
theorem r38_22 (d : Nat) (v : Nat) (l1 l2 l3 l4 : Option Value) (st : List Value) (h : tm_H) (K : Option Value → tm_H → Prop) : tm_A d 38 22 [some (.ref v), l1, l2, l3, l4] st h K ↔ tm_A d 38 23 [some (.ref v), l1, l2, l3, l4] (.ref v :: st) h K := tm_s o38_22 rfl rfl rfl
theorem o38_23 : tm_op 38 23 = some (.getfield 11, (2, 3, 0, 0)) := rfl
theorem r38_23 (d : Nat) (a : Nat) (ls : tm_Lo) (st : List Value) (G : tm_G) (I : Nat → Nat → Int32) (J : Nat → Nat → Int64) (R : Nat → Nat → Option Nat) (K : Option Value → tm_H → Prop) : tm_A d 38 23 ls (.ref a :: st) (G, I, J, R) K ↔ G.2.2 a = (0, 3) ∧ tm_A d 38 26 ls (tm_rf (R a 0) :: st) (G, I, J, R) K := tm_getR o38_23
theorem o38_26 : tm_op 38 26 = some (.iload_n 3, (0, 0, 0, 0)) := rfl
theorem r38_26 (d : Nat) (v : Int32) (l0 l1 l2 l4 : Option Value) (st : List Value) (h : tm_H) (K : Option Value → tm_H → Prop) : tm_A d 38 26 [l0, l1, l2, some (.int v), l4] st h K ↔ tm_A d 38 27 [l0, l1, l2, some (.int v), l4] (.int v :: st) h K := tm_s o38_26 rfl rfl rfl
theorem o38_27 : tm_op 38 27 = some (.aaload, (0, 0, 0, 0)) := rfl
theorem r38_27 (d : Nat) (v : Int32) (a : Nat) (ls : tm_Lo) (st : List Value) (G : tm_G) (I : Nat → Nat → Int32) (J : Nat → Nat → Int64) (R : Nat → Nat → Option Nat) (K : Option Value → tm_H → Prop) : tm_A d 38 27 ls (.int v :: .ref a :: st) (G, I, J, R) K ↔ (((G.2.2 a).1 = 3 ∨ (G.2.2 a).1 = 4 ∨ (G.2.2 a).1 = 5) ∧ tm_in v (G.2.2 a).2) ∧ tm_A d 38 28 ls (tm_rf (R a (tm_ix v)) :: st) (G, I, J, R) K := tm_aald o38_27
theorem o38_28 : tm_op 38 28 = some (.iload 4, (0, 0, 0, 0)) := rfl
theorem r38_28 (d : Nat) (v : Int32) (l0 l1 l2 l3 : Option Value) (st : List Value) (h : tm_H) (K : Option Value → tm_H → Prop) : tm_A d 38 28 [l0, l1, l2, l3, some (.int v)] st h K ↔ tm_A d 38 30 [l0, l1, l2, l3, some (.int v)] (.int v :: st) h K := tm_s o38_28 rfl rfl rfl
theorem o38_30 : tm_op 38 30 = some (.iaload, (0, 0, 0, 0)) := rfl
theorem r38_30 (d : Nat) (v : Int32) (a : Nat) (ls : tm_Lo) (st : List Value) (G : tm_G) (I : Nat → Nat → Int32) (J : Nat → Nat → Int64) (R : Nat → Nat → Option Nat) (K : Option Value → tm_H → Prop) : tm_A d 38 30 ls (.int v :: .ref a :: st) (G, I, J, R) K ↔ ((G.2.2 a).1 = 1 ∧ tm_in v (G.2.2 a).2) ∧ tm_A d 38 31 ls (.int (I a (tm_ix v)) :: st) (G, I, J, R) K := tm_iald o38_30
theorem o38_31 : tm_op 38 31 = some (.iload_n 1, (0, 0, 0, 0)) := rfl
theorem r38_31 (d : Nat) (v : Int32) (l0 l2 l3 l4 : Option Value) (st : List Value) (h : tm_H) (K : Option Value → tm_H → Prop) : tm_A d 38 31 [l0, some (.int v), l2, l3, l4] st h K ↔ tm_A d 38 32 [l0, some (.int v), l2, l3, l4] (.int v :: st) h K := tm_s o38_31 rfl rfl rfl
theorem o38_32 : tm_op 38 32 = some (.if_icmp .ne 6, (0, 0, 0, 0)) := rfl
theorem r38_32 (d : Nat) (y x : Int32) (ls : tm_Lo) (st : List Value) (h : tm_H) (K : Option Value → tm_H → Prop) : tm_A d 38 32 ls (.int y :: .int x :: st) h K ↔ if ¬ x = y then tm_A d 38 38 ls st h K else tm_A d 38 35 ls st h K := tm_b o38_32 rfl rfl rfl rfl
theorem o38_35 : tm_op 38 35 = some (.iinc 2 1, (0, 0, 0, 0)) := rfl
theorem r38_35 (d : Nat) (v : Int32) (l0 l1 l3 l4 : Option Value) (st : List Value) (h : tm_H) (K : Option Value → tm_H → Prop) : tm_A d 38 35 [l0, l1, some (.int v), l3, l4] st h K ↔ tm_A d 38 38 [l0, l1, some (.int (v + (1 : Int32))), l3, l4] st h K := tm_s o38_35 rfl rfl rfl
theorem o38_38 : tm_op 38 38 = some (.iinc 4 1, (0, 0, 0, 0)) := rfl
theorem r38_38 (d : Nat) (v : Int32) (l0 l1 l2 l3 : Option Value) (st : List Value) (h : tm_H) (K : Option Value → tm_H → Prop) : tm_A d 38 38 [l0, l1, l2, l3, some (.int v)] st h K ↔ tm_A d 38 41 [l0, l1, l2, l3, some (.int (v + (1 : Int32)))] st h K := tm_s o38_38 rfl rfl rfl
theorem o38_41 : tm_op 38 41 = some (.goto (-26), (0, 0, 0, 0)) := rfl
theorem r38_41 (d : Nat) (ls : tm_Lo) (st : List Value) (h : tm_H) (K : Option Value → tm_H → Prop) : tm_A d 38 41 ls st h K ↔ tm_A d 38 15 ls st h K := tm_s o38_41 rfl rfl rfl
theorem o38_44 : tm_op 38 44 = some (.iinc 3 1, (0, 0, 0, 0)) := rfl
theorem r38_44 (d : Nat) (v : Int32) (l0 l1 l2 l4 : Option Value) (st : List Value) (h : tm_H) (K : Option Value → tm_H → Prop) : tm_A d 38 44 [l0, l1, l2, some (.int v), l4] st h K ↔ tm_A d 38 47 [l0, l1, l2, some (.int (v + (1 : Int32))), l4] st h K := tm_s o38_44 rfl rfl rfl
theorem o38_47 : tm_op 38 47 = some (.goto (-43), (0, 0, 0, 0)) := rfl
theorem r38_47 (d : Nat) (ls : tm_Lo) (st : List Value) (h : tm_H) (K : Option Value → tm_H → Prop) : tm_A d 38 47 ls st h K ↔ tm_A d 38 4 ls st h K := tm_s o38_47 rfl rfl rfl
theorem o38_50 : tm_op 38 50 = some (.iload_n 2, (0, 0, 0, 0)) := rfl
theorem r38_50 (d : Nat) (v : Int32) (l0 l1 l3 l4 : Option Value) (st : List Value) (h : tm_H) (K : Option Value → tm_H → Prop) : tm_A d 38 50 [l0, l1, some (.int v), l3, l4] st h K ↔ tm_A d 38 51 [l0, l1, some (.int v), l3, l4] (.int v :: st) h K := tm_s o38_50 rfl rfl rfl
theorem o38_51 : tm_op 38 51 = some (.ireturn, (0, 0, 0, 0)) := rfl
theorem r38_51 (d : Nat) (v : Int32) (ls : tm_Lo) (h : tm_H) (K : Option Value → tm_H → Prop) : tm_A d 38 51 ls [.int v] h K ↔ K (some (.int v)) h := tm_reti o38_51 rfl
theorem o39_0 : tm_op 39 0 = some (.aload_n 0, (0, 0, 0, 0)) := rfl
theorem r39_0 (d : Nat) (v : Nat) (l1 : Option Value) (st : List Value) (h : tm_H) (K : Option Value → tm_H → Prop) : tm_A d 39 0 [some (.ref v), l1] st h K ↔ tm_A d 39 1 [some (.ref v), l1] (.ref v :: st) h K := tm_s o39_0 rfl rfl rfl
theorem o39_1 : tm_op 39 1 = some (.invokespecial 3, (4, 0, 0, 0)) := rfl
theorem r39_1 (d : Nat) (a : Nat) (ls : tm_Lo) (st : List Value) (h : tm_H) (K : Option Value → tm_H → Prop) : tm_A (d + 1) 39 1 ls (.ref a :: st) h K ↔ tm_cs st ∧ tm_A (d + 1) 39 4 ls st h K := tm_obj o39_1 rfl rfl
theorem o39_4 : tm_op 39 4 = some (.aload_n 0, (0, 0, 0, 0)) := rfl
theorem r39_4 (d : Nat) (v : Nat) (l1 : Option Value) (st : List Value) (h : tm_H) (K : Option Value → tm_H → Prop) : tm_A d 39 4 [some (.ref v), l1] st h K ↔ tm_A d 39 5 [some (.ref v), l1] (.ref v :: st) h K := tm_s o39_4 rfl rfl rfl
theorem o39_5 : tm_op 39 5 = some (.bipush 10, (0, 0, 0, 0)) := rfl
theorem r39_5 (d : Nat) (ls : tm_Lo) (st : List Value) (h : tm_H) (K : Option Value → tm_H → Prop) : tm_A d 39 5 ls st h K ↔ tm_A d 39 7 ls (.int (10 : Int32) :: st) h K := tm_bp o39_5 (by decide)
theorem o39_7 : tm_op 39 7 = some (.anewarray 9, (5, 0, 0, 0)) := rfl
theorem r39_7 (d : Nat) (v : Int32) (ls : tm_Lo) (st : List Value) (G : tm_G) (I : Nat → Nat → Int32) (J : Nat → Nat → Int64) (R : Nat → Nat → Option Nat) (K : Option Value → tm_H → Prop) : tm_A d 39 7 ls (.int v :: st) (G, I, J, R) K ↔ (¬ v < 0 ∧ (tm_ix v) ≤ 100000) ∧ tm_A d 39 10 ls (.ref G.1 :: st) (tm_nw (5, (tm_ix v)) (tm_ix v) (G, I, J, R)) K := tm_anew o39_7
theorem o39_10 : tm_op 39 10 = some (.putfield 11, (2, 4, 0, 0)) := rfl
theorem r39_10 (d : Nat) (v : Nat) (a : Nat) (ls : tm_Lo) (st : List Value) (G : tm_G) (I : Nat → Nat → Int32) (J : Nat → Nat → Int64) (R : Nat → Nat → Option Nat) (K : Option Value → tm_H → Prop) : tm_A d 39 10 ls (.ref v :: .ref a :: st) (G, I, J, R) K ↔ G.2.2 a = (0, 4) ∧ tm_A d 39 13 ls st (G, I, J, up2 R a 0 (some v)) K := tm_putR o39_10
theorem o39_13 : tm_op 39 13 = some (.iconst 0, (0, 0, 0, 0)) := rfl
theorem r39_13 (d : Nat) (ls : tm_Lo) (st : List Value) (h : tm_H) (K : Option Value → tm_H → Prop) : tm_A d 39 13 ls st h K ↔ tm_A d 39 14 ls (.int (0 : Int32) :: st) h K := tm_ic o39_13 (by decide)
theorem o39_14 : tm_op 39 14 = some (.istore_n 1, (0, 0, 0, 0)) := rfl
theorem r39_14 (d : Nat) (v : Int32) (l0 l1 : Option Value) (st : List Value) (h : tm_H) (K : Option Value → tm_H → Prop) : tm_A d 39 14 [l0, l1] (.int v :: st) h K ↔ tm_A d 39 15 [l0, some (.int v)] st h K := tm_s o39_14 rfl rfl rfl
theorem o39_15 : tm_op 39 15 = some (.iload_n 1, (0, 0, 0, 0)) := rfl
theorem r39_15 (d : Nat) (v : Int32) (l0 : Option Value) (st : List Value) (h : tm_H) (K : Option Value → tm_H → Prop) : tm_A d 39 15 [l0, some (.int v)] st h K ↔ tm_A d 39 16 [l0, some (.int v)] (.int v :: st) h K := tm_s o39_15 rfl rfl rfl
theorem o39_16 : tm_op 39 16 = some (.bipush 10, (0, 0, 0, 0)) := rfl
theorem r39_16 (d : Nat) (ls : tm_Lo) (st : List Value) (h : tm_H) (K : Option Value → tm_H → Prop) : tm_A d 39 16 ls st h K ↔ tm_A d 39 18 ls (.int (10 : Int32) :: st) h K := tm_bp o39_16 (by decide)
theorem o39_18 : tm_op 39 18 = some (.if_icmp .ge 22, (0, 0, 0, 0)) := rfl
theorem r39_18 (d : Nat) (y x : Int32) (ls : tm_Lo) (st : List Value) (h : tm_H) (K : Option Value → tm_H → Prop) : tm_A d 39 18 ls (.int y :: .int x :: st) h K ↔ if y ≤ x then tm_A d 39 40 ls st h K else tm_A d 39 21 ls st h K := tm_b o39_18 rfl rfl rfl rfl
theorem o39_21 : tm_op 39 21 = some (.aload_n 0, (0, 0, 0, 0)) := rfl
theorem r39_21 (d : Nat) (v : Nat) (l1 : Option Value) (st : List Value) (h : tm_H) (K : Option Value → tm_H → Prop) : tm_A d 39 21 [some (.ref v), l1] st h K ↔ tm_A d 39 22 [some (.ref v), l1] (.ref v :: st) h K := tm_s o39_21 rfl rfl rfl
theorem o39_22 : tm_op 39 22 = some (.getfield 11, (2, 4, 0, 0)) := rfl
theorem r39_22 (d : Nat) (a : Nat) (ls : tm_Lo) (st : List Value) (G : tm_G) (I : Nat → Nat → Int32) (J : Nat → Nat → Int64) (R : Nat → Nat → Option Nat) (K : Option Value → tm_H → Prop) : tm_A d 39 22 ls (.ref a :: st) (G, I, J, R) K ↔ G.2.2 a = (0, 4) ∧ tm_A d 39 25 ls (tm_rf (R a 0) :: st) (G, I, J, R) K := tm_getR o39_22
theorem o39_25 : tm_op 39 25 = some (.iload_n 1, (0, 0, 0, 0)) := rfl
theorem r39_25 (d : Nat) (v : Int32) (l0 : Option Value) (st : List Value) (h : tm_H) (K : Option Value → tm_H → Prop) : tm_A d 39 25 [l0, some (.int v)] st h K ↔ tm_A d 39 26 [l0, some (.int v)] (.int v :: st) h K := tm_s o39_25 rfl rfl rfl
theorem o39_26 : tm_op 39 26 = some (.new 9, (0, 0, 4, 0)) := rfl
theorem r39_26 (d : Nat) (ls : tm_Lo) (st : List Value) (G : tm_G) (I : Nat → Nat → Int32) (J : Nat → Nat → Int64) (R : Nat → Nat → Option Nat) (K : Option Value → tm_H → Prop) : tm_A d 39 26 ls st (G, I, J, R) K ↔ tm_A d 39 29 ls (.ref G.1 :: st) (tm_nw (0, 0) 4 (G, I, J, R)) K := tm_s o39_26 rfl rfl rfl
theorem o39_29 : tm_op 39 29 = some (.dup, (0, 0, 0, 0)) := rfl
theorem r39_29 (d : Nat) (v : Nat) (ls : tm_Lo) (st : List Value) (h : tm_H) (K : Option Value → tm_H → Prop) : tm_A d 39 29 ls (.ref v :: st) h K ↔ tm_A d 39 30 ls (.ref v :: .ref v :: st) h K := tm_s o39_29 rfl rfl rfl
theorem r39_29i (d : Nat) (v : Int32) (ls : tm_Lo) (st : List Value) (h : tm_H) (K : Option Value → tm_H → Prop) : tm_A d 39 29 ls (.int v :: st) h K ↔ tm_A d 39 30 ls (.int v :: .int v :: st) h K := tm_s o39_29 rfl rfl rfl
theorem o39_30 : tm_op 39 30 = some (.invokespecial 17, (3, 0, 1, 0)) := rfl
theorem r39_30 (d : Nat) (a : Nat) (ls : tm_Lo) (st : List Value) (h : tm_H) (K : Option Value → tm_H → Prop) : tm_A (d + 1) 39 30 ls (.ref a :: st) h K ↔ tm_cs st ∧ tm_R d 0 [.ref a] h (fun r h' => tm_A (d + 1) 39 33 ls (r.toList ++ st) h' K) := tm_callI (as := []) o39_30 rfl rfl rfl rfl
theorem o39_33 : tm_op 39 33 = some (.aastore, (0, 0, 0, 0)) := rfl
theorem r39_33 (d : Nat) (u : Nat) (v : Int32) (a : Nat) (ls : tm_Lo) (st : List Value) (G : tm_G) (I : Nat → Nat → Int32) (J : Nat → Nat → Int64) (R : Nat → Nat → Option Nat) (K : Option Value → tm_H → Prop) : tm_A d 39 33 ls (.ref u :: .int v :: .ref a :: st) (G, I, J, R) K ↔ (3 ≤ a ∧ (((G.2.2 a).1 = 4 ∧ G.2.2 u = (0, 8)) ∨ ((G.2.2 a).1 = 5 ∧ G.2.2 u = (0, 0))) ∧ tm_in v (G.2.2 a).2) ∧ tm_A d 39 34 ls st (G, I, J, up2 R a (tm_ix v) (some u)) K := tm_aast o39_33
theorem o39_34 : tm_op 39 34 = some (.iinc 1 1, (0, 0, 0, 0)) := rfl
theorem r39_34 (d : Nat) (v : Int32) (l0 : Option Value) (st : List Value) (h : tm_H) (K : Option Value → tm_H → Prop) : tm_A d 39 34 [l0, some (.int v)] st h K ↔ tm_A d 39 37 [l0, some (.int (v + (1 : Int32)))] st h K := tm_s o39_34 rfl rfl rfl
theorem o39_37 : tm_op 39 37 = some (.goto (-22), (0, 0, 0, 0)) := rfl
theorem r39_37 (d : Nat) (ls : tm_Lo) (st : List Value) (h : tm_H) (K : Option Value → tm_H → Prop) : tm_A d 39 37 ls st h K ↔ tm_A d 39 15 ls st h K := tm_s o39_37 rfl rfl rfl
theorem o39_40 : tm_op 39 40 = some (.aload_n 0, (0, 0, 0, 0)) := rfl
theorem r39_40 (d : Nat) (v : Nat) (l1 : Option Value) (st : List Value) (h : tm_H) (K : Option Value → tm_H → Prop) : tm_A d 39 40 [some (.ref v), l1] st h K ↔ tm_A d 39 41 [some (.ref v), l1] (.ref v :: st) h K := tm_s o39_40 rfl rfl rfl
theorem o39_41 : tm_op 39 41 = some (.iconst 0, (0, 0, 0, 0)) := rfl
theorem r39_41 (d : Nat) (ls : tm_Lo) (st : List Value) (h : tm_H) (K : Option Value → tm_H → Prop) : tm_A d 39 41 ls st h K ↔ tm_A d 39 42 ls (.int (0 : Int32) :: st) h K := tm_ic o39_41 (by decide)
theorem o39_42 : tm_op 39 42 = some (.putfield 18, (0, 4, 1, 0)) := rfl
theorem r39_42 (d : Nat) (v : Int32) (a : Nat) (ls : tm_Lo) (st : List Value) (G : tm_G) (I : Nat → Nat → Int32) (J : Nat → Nat → Int64) (R : Nat → Nat → Option Nat) (K : Option Value → tm_H → Prop) : tm_A d 39 42 ls (.int v :: .ref a :: st) (G, I, J, R) K ↔ G.2.2 a = (0, 4) ∧ tm_A d 39 45 ls st (G, up2 I a 1 v, J, R) K := tm_putI o39_42
theorem o39_45 : tm_op 39 45 = some (.return_, (0, 0, 0, 0)) := rfl
theorem r39_45 (d : Nat) (ls : tm_Lo) (h : tm_H) (K : Option Value → tm_H → Prop) : tm_A d 39 45 ls [] h K ↔ K none h := tm_retv o39_45 rfl
theorem o40_0 : tm_op 40 0 = some (.iconst 0, (0, 0, 0, 0)) := rfl
theorem r40_0 (d : Nat) (ls : tm_Lo) (st : List Value) (h : tm_H) (K : Option Value → tm_H → Prop) : tm_A d 40 0 ls st h K ↔ tm_A d 40 1 ls (.int (0 : Int32) :: st) h K := tm_ic o40_0 (by decide)
theorem o40_1 : tm_op 40 1 = some (.istore_n 1, (0, 0, 0, 0)) := rfl
theorem r40_1 (d : Nat) (v : Int32) (l0 l1 : Option Value) (st : List Value) (h : tm_H) (K : Option Value → tm_H → Prop) : tm_A d 40 1 [l0, l1] (.int v :: st) h K ↔ tm_A d 40 2 [l0, some (.int v)] st h K := tm_s o40_1 rfl rfl rfl
theorem o40_2 : tm_op 40 2 = some (.iload_n 1, (0, 0, 0, 0)) := rfl
theorem r40_2 (d : Nat) (v : Int32) (l0 : Option Value) (st : List Value) (h : tm_H) (K : Option Value → tm_H → Prop) : tm_A d 40 2 [l0, some (.int v)] st h K ↔ tm_A d 40 3 [l0, some (.int v)] (.int v :: st) h K := tm_s o40_2 rfl rfl rfl
theorem o40_3 : tm_op 40 3 = some (.bipush 10, (0, 0, 0, 0)) := rfl
theorem r40_3 (d : Nat) (ls : tm_Lo) (st : List Value) (h : tm_H) (K : Option Value → tm_H → Prop) : tm_A d 40 3 ls st h K ↔ tm_A d 40 5 ls (.int (10 : Int32) :: st) h K := tm_bp o40_3 (by decide)
theorem o40_5 : tm_op 40 5 = some (.if_icmp .ge 18, (0, 0, 0, 0)) := rfl
theorem r40_5 (d : Nat) (y x : Int32) (ls : tm_Lo) (st : List Value) (h : tm_H) (K : Option Value → tm_H → Prop) : tm_A d 40 5 ls (.int y :: .int x :: st) h K ↔ if y ≤ x then tm_A d 40 23 ls st h K else tm_A d 40 8 ls st h K := tm_b o40_5 rfl rfl rfl rfl
theorem o40_8 : tm_op 40 8 = some (.aload_n 0, (0, 0, 0, 0)) := rfl
theorem r40_8 (d : Nat) (v : Nat) (l1 : Option Value) (st : List Value) (h : tm_H) (K : Option Value → tm_H → Prop) : tm_A d 40 8 [some (.ref v), l1] st h K ↔ tm_A d 40 9 [some (.ref v), l1] (.ref v :: st) h K := tm_s o40_8 rfl rfl rfl
theorem o40_9 : tm_op 40 9 = some (.getfield 11, (2, 4, 0, 0)) := rfl
theorem r40_9 (d : Nat) (a : Nat) (ls : tm_Lo) (st : List Value) (G : tm_G) (I : Nat → Nat → Int32) (J : Nat → Nat → Int64) (R : Nat → Nat → Option Nat) (K : Option Value → tm_H → Prop) : tm_A d 40 9 ls (.ref a :: st) (G, I, J, R) K ↔ G.2.2 a = (0, 4) ∧ tm_A d 40 12 ls (tm_rf (R a 0) :: st) (G, I, J, R) K := tm_getR o40_9
theorem o40_12 : tm_op 40 12 = some (.iload_n 1, (0, 0, 0, 0)) := rfl
theorem r40_12 (d : Nat) (v : Int32) (l0 : Option Value) (st : List Value) (h : tm_H) (K : Option Value → tm_H → Prop) : tm_A d 40 12 [l0, some (.int v)] st h K ↔ tm_A d 40 13 [l0, some (.int v)] (.int v :: st) h K := tm_s o40_12 rfl rfl rfl
theorem o40_13 : tm_op 40 13 = some (.aaload, (0, 0, 0, 0)) := rfl
theorem r40_13 (d : Nat) (v : Int32) (a : Nat) (ls : tm_Lo) (st : List Value) (G : tm_G) (I : Nat → Nat → Int32) (J : Nat → Nat → Int64) (R : Nat → Nat → Option Nat) (K : Option Value → tm_H → Prop) : tm_A d 40 13 ls (.int v :: .ref a :: st) (G, I, J, R) K ↔ (((G.2.2 a).1 = 3 ∨ (G.2.2 a).1 = 4 ∨ (G.2.2 a).1 = 5) ∧ tm_in v (G.2.2 a).2) ∧ tm_A d 40 14 ls (tm_rf (R a (tm_ix v)) :: st) (G, I, J, R) K := tm_aald o40_13
theorem o40_14 : tm_op 40 14 = some (.invokevirtual 22, (2, 1, 1, 0)) := rfl
theorem r40_14 (d : Nat) (a : Nat) (ls : tm_Lo) (st : List Value) (h : tm_H) (K : Option Value → tm_H → Prop) : tm_A (d + 1) 40 14 ls (.ref a :: st) h K ↔ (h.1.2.2 a = (0, 0) ∧ tm_cs st) ∧ tm_R d 1 [.ref a] h (fun r h' => tm_A (d + 1) 40 17 ls (r.toList ++ st) h' K) := tm_callV (as := []) o40_14 rfl rfl rfl rfl
theorem o40_17 : tm_op 40 17 = some (.iinc 1 1, (0, 0, 0, 0)) := rfl
theorem r40_17 (d : Nat) (v : Int32) (l0 : Option Value) (st : List Value) (h : tm_H) (K : Option Value → tm_H → Prop) : tm_A d 40 17 [l0, some (.int v)] st h K ↔ tm_A d 40 20 [l0, some (.int (v + (1 : Int32)))] st h K := tm_s o40_17 rfl rfl rfl
theorem o40_20 : tm_op 40 20 = some (.goto (-18), (0, 0, 0, 0)) := rfl
theorem r40_20 (d : Nat) (ls : tm_Lo) (st : List Value) (h : tm_H) (K : Option Value → tm_H → Prop) : tm_A d 40 20 ls st h K ↔ tm_A d 40 2 ls st h K := tm_s o40_20 rfl rfl rfl
theorem o40_23 : tm_op 40 23 = some (.aload_n 0, (0, 0, 0, 0)) := rfl
theorem r40_23 (d : Nat) (v : Nat) (l1 : Option Value) (st : List Value) (h : tm_H) (K : Option Value → tm_H → Prop) : tm_A d 40 23 [some (.ref v), l1] st h K ↔ tm_A d 40 24 [some (.ref v), l1] (.ref v :: st) h K := tm_s o40_23 rfl rfl rfl
theorem o40_24 : tm_op 40 24 = some (.iconst 0, (0, 0, 0, 0)) := rfl
theorem r40_24 (d : Nat) (ls : tm_Lo) (st : List Value) (h : tm_H) (K : Option Value → tm_H → Prop) : tm_A d 40 24 ls st h K ↔ tm_A d 40 25 ls (.int (0 : Int32) :: st) h K := tm_ic o40_24 (by decide)
theorem o40_25 : tm_op 40 25 = some (.putfield 18, (0, 4, 1, 0)) := rfl
theorem r40_25 (d : Nat) (v : Int32) (a : Nat) (ls : tm_Lo) (st : List Value) (G : tm_G) (I : Nat → Nat → Int32) (J : Nat → Nat → Int64) (R : Nat → Nat → Option Nat) (K : Option Value → tm_H → Prop) : tm_A d 40 25 ls (.int v :: .ref a :: st) (G, I, J, R) K ↔ G.2.2 a = (0, 4) ∧ tm_A d 40 28 ls st (G, up2 I a 1 v, J, R) K := tm_putI o40_25
theorem o40_28 : tm_op 40 28 = some (.return_, (0, 0, 0, 0)) := rfl
theorem r40_28 (d : Nat) (ls : tm_Lo) (h : tm_H) (K : Option Value → tm_H → Prop) : tm_A d 40 28 ls [] h K ↔ K none h := tm_retv o40_28 rfl
theorem o41_0 : tm_op 41 0 = some (.aload_n 1, (0, 0, 0, 0)) := rfl
theorem r41_0 (d : Nat) (v : Nat) (l0 l2 : Option Value) (st : List Value) (h : tm_H) (K : Option Value → tm_H → Prop) : tm_A d 41 0 [l0, some (.ref v), l2] st h K ↔ tm_A d 41 1 [l0, some (.ref v), l2] (.ref v :: st) h K := tm_s o41_0 rfl rfl rfl
theorem r41_0n (d : Nat)  (l0 l2 : Option Value) (st : List Value) (h : tm_H) (K : Option Value → tm_H → Prop) : tm_A d 41 0 [l0, some .null, l2] st h K ↔ tm_A d 41 1 [l0, some .null, l2] (.null :: st) h K := tm_s o41_0 rfl rfl rfl
theorem o41_1 : tm_op 41 1 = some (.getfield 25, (0, 8, 0, 1)) := rfl
theorem r41_1 (d : Nat) (a : Nat) (ls : tm_Lo) (st : List Value) (G : tm_G) (I : Nat → Nat → Int32) (J : Nat → Nat → Int64) (R : Nat → Nat → Option Nat) (K : Option Value → tm_H → Prop) : tm_A d 41 1 ls (.ref a :: st) (G, I, J, R) K ↔ G.2.2 a = (0, 8) ∧ tm_A d 41 4 ls (.int (I a 0) :: st) (G, I, J, R) K := tm_getI o41_1
theorem o41_4 : tm_op 41 4 = some (.istore_n 2, (0, 0, 0, 0)) := rfl
theorem r41_4 (d : Nat) (v : Int32) (l0 l1 l2 : Option Value) (st : List Value) (h : tm_H) (K : Option Value → tm_H → Prop) : tm_A d 41 4 [l0, l1, l2] (.int v :: st) h K ↔ tm_A d 41 5 [l0, l1, some (.int v)] st h K := tm_s o41_4 rfl rfl rfl
theorem o41_5 : tm_op 41 5 = some (.iload_n 2, (0, 0, 0, 0)) := rfl
theorem r41_5 (d : Nat) (v : Int32) (l0 l1 : Option Value) (st : List Value) (h : tm_H) (K : Option Value → tm_H → Prop) : tm_A d 41 5 [l0, l1, some (.int v)] st h K ↔ tm_A d 41 6 [l0, l1, some (.int v)] (.int v :: st) h K := tm_s o41_5 rfl rfl rfl
theorem o41_6 : tm_op 41 6 = some (.ifCond .lt 40, (0, 0, 0, 0)) := rfl
theorem r41_6 (d : Nat) (x : Int32) (ls : tm_Lo) (st : List Value) (h : tm_H) (K : Option Value → tm_H → Prop) : tm_A d 41 6 ls (.int x :: st) h K ↔ if x < 0 then tm_A d 41 46 ls st h K else tm_A d 41 9 ls st h K := tm_b o41_6 rfl rfl rfl rfl
theorem o41_9 : tm_op 41 9 = some (.iload_n 2, (0, 0, 0, 0)) := rfl
theorem r41_9 (d : Nat) (v : Int32) (l0 l1 : Option Value) (st : List Value) (h : tm_H) (K : Option Value → tm_H → Prop) : tm_A d 41 9 [l0, l1, some (.int v)] st h K ↔ tm_A d 41 10 [l0, l1, some (.int v)] (.int v :: st) h K := tm_s o41_9 rfl rfl rfl
theorem o41_10 : tm_op 41 10 = some (.bipush 10, (0, 0, 0, 0)) := rfl
theorem r41_10 (d : Nat) (ls : tm_Lo) (st : List Value) (h : tm_H) (K : Option Value → tm_H → Prop) : tm_A d 41 10 ls st h K ↔ tm_A d 41 12 ls (.int (10 : Int32) :: st) h K := tm_bp o41_10 (by decide)
theorem o41_12 : tm_op 41 12 = some (.if_icmp .ge 34, (0, 0, 0, 0)) := rfl
theorem r41_12 (d : Nat) (y x : Int32) (ls : tm_Lo) (st : List Value) (h : tm_H) (K : Option Value → tm_H → Prop) : tm_A d 41 12 ls (.int y :: .int x :: st) h K ↔ if y ≤ x then tm_A d 41 46 ls st h K else tm_A d 41 15 ls st h K := tm_b o41_12 rfl rfl rfl rfl
theorem o41_15 : tm_op 41 15 = some (.aload_n 0, (0, 0, 0, 0)) := rfl
theorem r41_15 (d : Nat) (v : Nat) (l1 l2 : Option Value) (st : List Value) (h : tm_H) (K : Option Value → tm_H → Prop) : tm_A d 41 15 [some (.ref v), l1, l2] st h K ↔ tm_A d 41 16 [some (.ref v), l1, l2] (.ref v :: st) h K := tm_s o41_15 rfl rfl rfl
theorem o41_16 : tm_op 41 16 = some (.aload_n 0, (0, 0, 0, 0)) := rfl
theorem r41_16 (d : Nat) (v : Nat) (l1 l2 : Option Value) (st : List Value) (h : tm_H) (K : Option Value → tm_H → Prop) : tm_A d 41 16 [some (.ref v), l1, l2] st h K ↔ tm_A d 41 17 [some (.ref v), l1, l2] (.ref v :: st) h K := tm_s o41_16 rfl rfl rfl
theorem o41_17 : tm_op 41 17 = some (.getfield 18, (0, 4, 1, 0)) := rfl
theorem r41_17 (d : Nat) (a : Nat) (ls : tm_Lo) (st : List Value) (G : tm_G) (I : Nat → Nat → Int32) (J : Nat → Nat → Int64) (R : Nat → Nat → Option Nat) (K : Option Value → tm_H → Prop) : tm_A d 41 17 ls (.ref a :: st) (G, I, J, R) K ↔ G.2.2 a = (0, 4) ∧ tm_A d 41 20 ls (.int (I a 1) :: st) (G, I, J, R) K := tm_getI o41_17
theorem o41_20 : tm_op 41 20 = some (.iload_n 2, (0, 0, 0, 0)) := rfl
theorem r41_20 (d : Nat) (v : Int32) (l0 l1 : Option Value) (st : List Value) (h : tm_H) (K : Option Value → tm_H → Prop) : tm_A d 41 20 [l0, l1, some (.int v)] st h K ↔ tm_A d 41 21 [l0, l1, some (.int v)] (.int v :: st) h K := tm_s o41_20 rfl rfl rfl
theorem o41_21 : tm_op 41 21 = some (.iconst 1, (0, 0, 0, 0)) := rfl
theorem r41_21 (d : Nat) (ls : tm_Lo) (st : List Value) (h : tm_H) (K : Option Value → tm_H → Prop) : tm_A d 41 21 ls st h K ↔ tm_A d 41 22 ls (.int (1 : Int32) :: st) h K := tm_ic o41_21 (by decide)
theorem o41_22 : tm_op 41 22 = some (.iadd, (0, 0, 0, 0)) := rfl
theorem r41_22 (d : Nat) (u v : Int32) (ls : tm_Lo) (st : List Value) (h : tm_H) (K : Option Value → tm_H → Prop) : tm_A d 41 22 ls (.int u :: .int v :: st) h K ↔ tm_A d 41 23 ls (.int (v + u) :: st) h K := tm_s o41_22 rfl rfl rfl
theorem o41_23 : tm_op 41 23 = some (.invokestatic 30, (7, 0, 0, 0)) := rfl
theorem r41_23 (d : Nat) (v0 v1 : Int32) (ls : tm_Lo) (st : List Value) (h : tm_H) (K : Option Value → tm_H → Prop) : tm_A (d + 1) 41 23 ls (.int v1 :: .int v0 :: st) h K ↔ tm_cs st ∧ tm_A (d + 1) 41 26 ls (.int (if v0 < v1 then v1 else v0) :: st) h K := tm_max o41_23 rfl rfl
theorem o41_26 : tm_op 41 26 = some (.putfield 18, (0, 4, 1, 0)) := rfl
theorem r41_26 (d : Nat) (v : Int32) (a : Nat) (ls : tm_Lo) (st : List Value) (G : tm_G) (I : Nat → Nat → Int32) (J : Nat → Nat → Int64) (R : Nat → Nat → Option Nat) (K : Option Value → tm_H → Prop) : tm_A d 41 26 ls (.int v :: .ref a :: st) (G, I, J, R) K ↔ G.2.2 a = (0, 4) ∧ tm_A d 41 29 ls st (G, up2 I a 1 v, J, R) K := tm_putI o41_26
theorem o41_29 : tm_op 41 29 = some (.aload_n 0, (0, 0, 0, 0)) := rfl
theorem r41_29 (d : Nat) (v : Nat) (l1 l2 : Option Value) (st : List Value) (h : tm_H) (K : Option Value → tm_H → Prop) : tm_A d 41 29 [some (.ref v), l1, l2] st h K ↔ tm_A d 41 30 [some (.ref v), l1, l2] (.ref v :: st) h K := tm_s o41_29 rfl rfl rfl
theorem o41_30 : tm_op 41 30 = some (.getfield 11, (2, 4, 0, 0)) := rfl
theorem r41_30 (d : Nat) (a : Nat) (ls : tm_Lo) (st : List Value) (G : tm_G) (I : Nat → Nat → Int32) (J : Nat → Nat → Int64) (R : Nat → Nat → Option Nat) (K : Option Value → tm_H → Prop) : tm_A d 41 30 ls (.ref a :: st) (G, I, J, R) K ↔ G.2.2 a = (0, 4) ∧ tm_A d 41 33 ls (tm_rf (R a 0) :: st) (G, I, J, R) K := tm_getR o41_30
theorem o41_33 : tm_op 41 33 = some (.iload_n 2, (0, 0, 0, 0)) := rfl
theorem r41_33 (d : Nat) (v : Int32) (l0 l1 : Option Value) (st : List Value) (h : tm_H) (K : Option Value → tm_H → Prop) : tm_A d 41 33 [l0, l1, some (.int v)] st h K ↔ tm_A d 41 34 [l0, l1, some (.int v)] (.int v :: st) h K := tm_s o41_33 rfl rfl rfl
theorem o41_34 : tm_op 41 34 = some (.aaload, (0, 0, 0, 0)) := rfl
theorem r41_34 (d : Nat) (v : Int32) (a : Nat) (ls : tm_Lo) (st : List Value) (G : tm_G) (I : Nat → Nat → Int32) (J : Nat → Nat → Int64) (R : Nat → Nat → Option Nat) (K : Option Value → tm_H → Prop) : tm_A d 41 34 ls (.int v :: .ref a :: st) (G, I, J, R) K ↔ (((G.2.2 a).1 = 3 ∨ (G.2.2 a).1 = 4 ∨ (G.2.2 a).1 = 5) ∧ tm_in v (G.2.2 a).2) ∧ tm_A d 41 35 ls (tm_rf (R a (tm_ix v)) :: st) (G, I, J, R) K := tm_aald o41_34
theorem o41_35 : tm_op 41 35 = some (.aload_n 1, (0, 0, 0, 0)) := rfl
theorem r41_35 (d : Nat) (v : Nat) (l0 l2 : Option Value) (st : List Value) (h : tm_H) (K : Option Value → tm_H → Prop) : tm_A d 41 35 [l0, some (.ref v), l2] st h K ↔ tm_A d 41 36 [l0, some (.ref v), l2] (.ref v :: st) h K := tm_s o41_35 rfl rfl rfl
theorem r41_35n (d : Nat)  (l0 l2 : Option Value) (st : List Value) (h : tm_H) (K : Option Value → tm_H → Prop) : tm_A d 41 35 [l0, some .null, l2] st h K ↔ tm_A d 41 36 [l0, some .null, l2] (.null :: st) h K := tm_s o41_35 rfl rfl rfl
theorem o41_36 : tm_op 41 36 = some (.getfield 36, (2, 8, 3, 1)) := rfl
theorem r41_36 (d : Nat) (a : Nat) (ls : tm_Lo) (st : List Value) (G : tm_G) (I : Nat → Nat → Int32) (J : Nat → Nat → Int64) (R : Nat → Nat → Option Nat) (K : Option Value → tm_H → Prop) : tm_A d 41 36 ls (.ref a :: st) (G, I, J, R) K ↔ G.2.2 a = (0, 8) ∧ tm_A d 41 39 ls (tm_rf (R a 3) :: st) (G, I, J, R) K := tm_getR o41_36
theorem o41_39 : tm_op 41 39 = some (.aload_n 1, (0, 0, 0, 0)) := rfl
theorem r41_39 (d : Nat) (v : Nat) (l0 l2 : Option Value) (st : List Value) (h : tm_H) (K : Option Value → tm_H → Prop) : tm_A d 41 39 [l0, some (.ref v), l2] st h K ↔ tm_A d 41 40 [l0, some (.ref v), l2] (.ref v :: st) h K := tm_s o41_39 rfl rfl rfl
theorem r41_39n (d : Nat)  (l0 l2 : Option Value) (st : List Value) (h : tm_H) (K : Option Value → tm_H → Prop) : tm_A d 41 39 [l0, some .null, l2] st h K ↔ tm_A d 41 40 [l0, some .null, l2] (.null :: st) h K := tm_s o41_39 rfl rfl rfl
theorem o41_40 : tm_op 41 40 = some (.getfield 40, (0, 8, 2, 1)) := rfl
theorem r41_40 (d : Nat) (a : Nat) (ls : tm_Lo) (st : List Value) (G : tm_G) (I : Nat → Nat → Int32) (J : Nat → Nat → Int64) (R : Nat → Nat → Option Nat) (K : Option Value → tm_H → Prop) : tm_A d 41 40 ls (.ref a :: st) (G, I, J, R) K ↔ G.2.2 a = (0, 8) ∧ tm_A d 41 43 ls (.int (I a 2) :: st) (G, I, J, R) K := tm_getI o41_40
theorem o41_43 : tm_op 41 43 = some (.invokevirtual 43, (2, 12, 3, 0)) := rfl
theorem r41_43 (d : Nat) (v1 : Nat) (v2 : Int32) (a : Nat) (ls : tm_Lo) (st : List Value) (h : tm_H) (K : Option Value → tm_H → Prop) : tm_A (d + 1) 41 43 ls (.int v2 :: .ref v1 :: .ref a :: st) h K ↔ (h.1.2.2 a = (0, 0) ∧ tm_cs st) ∧ tm_R d 12 [.ref a, .ref v1, .int v2] h (fun r h' => tm_A (d + 1) 41 46 ls (r.toList ++ st) h' K) := tm_callV (as := [.ref v1, .int v2]) o41_43 rfl rfl rfl rfl
theorem o41_46 : tm_op 41 46 = some (.return_, (0, 0, 0, 0)) := rfl
theorem r41_46 (d : Nat) (ls : tm_Lo) (h : tm_H) (K : Option Value → tm_H → Prop) : tm_A d 41 46 ls [] h K ↔ K none h := tm_retv o41_46 rfl
theorem o42_0 : tm_op 42 0 = some (.aload_n 0, (0, 0, 0, 0)) := rfl
theorem r42_0 (d : Nat) (v : Nat) (st : List Value) (h : tm_H) (K : Option Value → tm_H → Prop) : tm_A d 42 0 [some (.ref v)] st h K ↔ tm_A d 42 1 [some (.ref v)] (.ref v :: st) h K := tm_s o42_0 rfl rfl rfl
theorem o42_1 : tm_op 42 1 = some (.getfield 18, (0, 4, 1, 0)) := rfl
theorem r42_1 (d : Nat) (a : Nat) (ls : tm_Lo) (st : List Value) (G : tm_G) (I : Nat → Nat → Int32) (J : Nat → Nat → Int64) (R : Nat → Nat → Option Nat) (K : Option Value → tm_H → Prop) : tm_A d 42 1 ls (.ref a :: st) (G, I, J, R) K ↔ G.2.2 a = (0, 4) ∧ tm_A d 42 4 ls (.int (I a 1) :: st) (G, I, J, R) K := tm_getI o42_1
theorem o42_4 : tm_op 42 4 = some (.ireturn, (0, 0, 0, 0)) := rfl
theorem r42_4 (d : Nat) (v : Int32) (ls : tm_Lo) (h : tm_H) (K : Option Value → tm_H → Prop) : tm_A d 42 4 ls [.int v] h K ↔ K (some (.int v)) h := tm_reti o42_4 rfl
theorem o43_0 : tm_op 43 0 = some (.iload_n 1, (0, 0, 0, 0)) := rfl
theorem r43_0 (d : Nat) (v : Int32) (l0 : Option Value) (st : List Value) (h : tm_H) (K : Option Value → tm_H → Prop) : tm_A d 43 0 [l0, some (.int v)] st h K ↔ tm_A d 43 1 [l0, some (.int v)] (.int v :: st) h K := tm_s o43_0 rfl rfl rfl
theorem o43_1 : tm_op 43 1 = some (.ifCond .lt 26, (0, 0, 0, 0)) := rfl
theorem r43_1 (d : Nat) (x : Int32) (ls : tm_Lo) (st : List Value) (h : tm_H) (K : Option Value → tm_H → Prop) : tm_A d 43 1 ls (.int x :: st) h K ↔ if x < 0 then tm_A d 43 27 ls st h K else tm_A d 43 4 ls st h K := tm_b o43_1 rfl rfl rfl rfl
theorem o43_4 : tm_op 43 4 = some (.iload_n 1, (0, 0, 0, 0)) := rfl
theorem r43_4 (d : Nat) (v : Int32) (l0 : Option Value) (st : List Value) (h : tm_H) (K : Option Value → tm_H → Prop) : tm_A d 43 4 [l0, some (.int v)] st h K ↔ tm_A d 43 5 [l0, some (.int v)] (.int v :: st) h K := tm_s o43_4 rfl rfl rfl
theorem o43_5 : tm_op 43 5 = some (.aload_n 0, (0, 0, 0, 0)) := rfl
theorem r43_5 (d : Nat) (v : Nat) (l1 : Option Value) (st : List Value) (h : tm_H) (K : Option Value → tm_H → Prop) : tm_A d 43 5 [some (.ref v), l1] st h K ↔ tm_A d 43 6 [some (.ref v), l1] (.ref v :: st) h K := tm_s o43_5 rfl rfl rfl
theorem o43_6 : tm_op 43 6 = some (.getfield 18, (0, 4, 1, 0)) := rfl
theorem r43_6 (d : Nat) (a : Nat) (ls : tm_Lo) (st : List Value) (G : tm_G) (I : Nat → Nat → Int32) (J : Nat → Nat → Int64) (R : Nat → Nat → Option Nat) (K : Option Value → tm_H → Prop) : tm_A d 43 6 ls (.ref a :: st) (G, I, J, R) K ↔ G.2.2 a = (0, 4) ∧ tm_A d 43 9 ls (.int (I a 1) :: st) (G, I, J, R) K := tm_getI o43_6
theorem o43_9 : tm_op 43 9 = some (.if_icmp .ge 18, (0, 0, 0, 0)) := rfl
theorem r43_9 (d : Nat) (y x : Int32) (ls : tm_Lo) (st : List Value) (h : tm_H) (K : Option Value → tm_H → Prop) : tm_A d 43 9 ls (.int y :: .int x :: st) h K ↔ if y ≤ x then tm_A d 43 27 ls st h K else tm_A d 43 12 ls st h K := tm_b o43_9 rfl rfl rfl rfl
theorem o43_12 : tm_op 43 12 = some (.iload_n 1, (0, 0, 0, 0)) := rfl
theorem r43_12 (d : Nat) (v : Int32) (l0 : Option Value) (st : List Value) (h : tm_H) (K : Option Value → tm_H → Prop) : tm_A d 43 12 [l0, some (.int v)] st h K ↔ tm_A d 43 13 [l0, some (.int v)] (.int v :: st) h K := tm_s o43_12 rfl rfl rfl
theorem o43_13 : tm_op 43 13 = some (.bipush 10, (0, 0, 0, 0)) := rfl
theorem r43_13 (d : Nat) (ls : tm_Lo) (st : List Value) (h : tm_H) (K : Option Value → tm_H → Prop) : tm_A d 43 13 ls st h K ↔ tm_A d 43 15 ls (.int (10 : Int32) :: st) h K := tm_bp o43_13 (by decide)
theorem o43_15 : tm_op 43 15 = some (.if_icmp .ge 12, (0, 0, 0, 0)) := rfl
theorem r43_15 (d : Nat) (y x : Int32) (ls : tm_Lo) (st : List Value) (h : tm_H) (K : Option Value → tm_H → Prop) : tm_A d 43 15 ls (.int y :: .int x :: st) h K ↔ if y ≤ x then tm_A d 43 27 ls st h K else tm_A d 43 18 ls st h K := tm_b o43_15 rfl rfl rfl rfl
theorem o43_18 : tm_op 43 18 = some (.aload_n 0, (0, 0, 0, 0)) := rfl
theorem r43_18 (d : Nat) (v : Nat) (l1 : Option Value) (st : List Value) (h : tm_H) (K : Option Value → tm_H → Prop) : tm_A d 43 18 [some (.ref v), l1] st h K ↔ tm_A d 43 19 [some (.ref v), l1] (.ref v :: st) h K := tm_s o43_18 rfl rfl rfl
theorem o43_19 : tm_op 43 19 = some (.getfield 11, (2, 4, 0, 0)) := rfl
theorem r43_19 (d : Nat) (a : Nat) (ls : tm_Lo) (st : List Value) (G : tm_G) (I : Nat → Nat → Int32) (J : Nat → Nat → Int64) (R : Nat → Nat → Option Nat) (K : Option Value → tm_H → Prop) : tm_A d 43 19 ls (.ref a :: st) (G, I, J, R) K ↔ G.2.2 a = (0, 4) ∧ tm_A d 43 22 ls (tm_rf (R a 0) :: st) (G, I, J, R) K := tm_getR o43_19
theorem o43_22 : tm_op 43 22 = some (.iload_n 1, (0, 0, 0, 0)) := rfl
theorem r43_22 (d : Nat) (v : Int32) (l0 : Option Value) (st : List Value) (h : tm_H) (K : Option Value → tm_H → Prop) : tm_A d 43 22 [l0, some (.int v)] st h K ↔ tm_A d 43 23 [l0, some (.int v)] (.int v :: st) h K := tm_s o43_22 rfl rfl rfl
theorem o43_23 : tm_op 43 23 = some (.aaload, (0, 0, 0, 0)) := rfl
theorem r43_23 (d : Nat) (v : Int32) (a : Nat) (ls : tm_Lo) (st : List Value) (G : tm_G) (I : Nat → Nat → Int32) (J : Nat → Nat → Int64) (R : Nat → Nat → Option Nat) (K : Option Value → tm_H → Prop) : tm_A d 43 23 ls (.int v :: .ref a :: st) (G, I, J, R) K ↔ (((G.2.2 a).1 = 3 ∨ (G.2.2 a).1 = 4 ∨ (G.2.2 a).1 = 5) ∧ tm_in v (G.2.2 a).2) ∧ tm_A d 43 24 ls (tm_rf (R a (tm_ix v)) :: st) (G, I, J, R) K := tm_aald o43_23
theorem o43_24 : tm_op 43 24 = some (.goto 4, (0, 0, 0, 0)) := rfl
theorem r43_24 (d : Nat) (ls : tm_Lo) (st : List Value) (h : tm_H) (K : Option Value → tm_H → Prop) : tm_A d 43 24 ls st h K ↔ tm_A d 43 28 ls st h K := tm_s o43_24 rfl rfl rfl
theorem o43_27 : tm_op 43 27 = some (.aconst_null, (0, 0, 0, 0)) := rfl
theorem r43_27 (d : Nat) (ls : tm_Lo) (st : List Value) (h : tm_H) (K : Option Value → tm_H → Prop) : tm_A d 43 27 ls st h K ↔ tm_A d 43 28 ls (.null :: st) h K := tm_s o43_27 rfl rfl rfl
theorem o43_28 : tm_op 43 28 = some (.areturn, (0, 0, 0, 0)) := rfl
theorem r43_28 (d : Nat) (a : Nat) (ls : tm_Lo) (h : tm_H) (K : Option Value → tm_H → Prop) : tm_A d 43 28 ls [.ref a] h K ↔ K (some (.ref a)) h := tm_reta o43_28 rfl
theorem r43_28n (d : Nat) (ls : tm_Lo) (h : tm_H) (K : Option Value → tm_H → Prop) : tm_A d 43 28 ls [.null] h K ↔ K (some .null) h := tm_retn o43_28 rfl
theorem o44_0 : tm_op 44 0 = some (.aload_n 0, (0, 0, 0, 0)) := rfl
theorem r44_0 (d : Nat) (v : Nat) (l1 l2 l3 : Option Value) (st : List Value) (h : tm_H) (K : Option Value → tm_H → Prop) : tm_A d 44 0 [some (.ref v), l1, l2, l3] st h K ↔ tm_A d 44 1 [some (.ref v), l1, l2, l3] (.ref v :: st) h K := tm_s o44_0 rfl rfl rfl
theorem o44_1 : tm_op 44 1 = some (.iload_n 1, (0, 0, 0, 0)) := rfl
theorem r44_1 (d : Nat) (v : Int32) (l0 l2 l3 : Option Value) (st : List Value) (h : tm_H) (K : Option Value → tm_H → Prop) : tm_A d 44 1 [l0, some (.int v), l2, l3] st h K ↔ tm_A d 44 2 [l0, some (.int v), l2, l3] (.int v :: st) h K := tm_s o44_1 rfl rfl rfl
theorem o44_2 : tm_op 44 2 = some (.invokevirtual 47, (2, 43, 2, 4)) := rfl
theorem r44_2 (d : Nat) (v1 : Int32) (a : Nat) (ls : tm_Lo) (st : List Value) (h : tm_H) (K : Option Value → tm_H → Prop) : tm_A (d + 1) 44 2 ls (.int v1 :: .ref a :: st) h K ↔ (h.1.2.2 a = (0, 4) ∧ tm_cs st) ∧ tm_R d 43 [.ref a, .int v1] h (fun r h' => tm_A (d + 1) 44 5 ls (r.toList ++ st) h' K) := tm_callV (as := [.int v1]) o44_2 rfl rfl rfl rfl
theorem o44_5 : tm_op 44 5 = some (.astore_n 3, (0, 0, 0, 0)) := rfl
theorem r44_5 (d : Nat) (v : Nat) (l0 l1 l2 l3 : Option Value) (st : List Value) (h : tm_H) (K : Option Value → tm_H → Prop) : tm_A d 44 5 [l0, l1, l2, l3] (.ref v :: st) h K ↔ tm_A d 44 6 [l0, l1, l2, some (.ref v)] st h K := tm_s o44_5 rfl rfl rfl
theorem r44_5n (d : Nat)  (l0 l1 l2 l3 : Option Value) (st : List Value) (h : tm_H) (K : Option Value → tm_H → Prop) : tm_A d 44 5 [l0, l1, l2, l3] (.null :: st) h K ↔ tm_A d 44 6 [l0, l1, l2, some .null] st h K := tm_s o44_5 rfl rfl rfl
theorem o44_6 : tm_op 44 6 = some (.aload_n 3, (0, 0, 0, 0)) := rfl
theorem r44_6 (d : Nat) (v : Nat) (l0 l1 l2 : Option Value) (st : List Value) (h : tm_H) (K : Option Value → tm_H → Prop) : tm_A d 44 6 [l0, l1, l2, some (.ref v)] st h K ↔ tm_A d 44 7 [l0, l1, l2, some (.ref v)] (.ref v :: st) h K := tm_s o44_6 rfl rfl rfl
theorem r44_6n (d : Nat)  (l0 l1 l2 : Option Value) (st : List Value) (h : tm_H) (K : Option Value → tm_H → Prop) : tm_A d 44 6 [l0, l1, l2, some .null] st h K ↔ tm_A d 44 7 [l0, l1, l2, some .null] (.null :: st) h K := tm_s o44_6 rfl rfl rfl
theorem o44_7 : tm_op 44 7 = some (.ifnonnull 7, (0, 0, 0, 0)) := rfl
theorem r44_7 (d : Nat) (v : Nat) (ls : tm_Lo) (st : List Value) (h : tm_H) (K : Option Value → tm_H → Prop) : tm_A d 44 7 ls (.ref v :: st) h K ↔ tm_A d 44 14 ls st h K := tm_s o44_7 rfl rfl rfl
theorem r44_7n (d : Nat) (ls : tm_Lo) (st : List Value) (h : tm_H) (K : Option Value → tm_H → Prop) : tm_A d 44 7 ls (.null :: st) h K ↔ tm_A d 44 10 ls st h K := tm_s o44_7 rfl rfl rfl
theorem o44_10 : tm_op 44 10 = some (.iconst (-1), (0, 0, 0, 0)) := rfl
theorem r44_10 (d : Nat) (ls : tm_Lo) (st : List Value) (h : tm_H) (K : Option Value → tm_H → Prop) : tm_A d 44 10 ls st h K ↔ tm_A d 44 11 ls (.int (-1 : Int32) :: st) h K := tm_ic o44_10 (by decide)
theorem o44_11 : tm_op 44 11 = some (.goto 8, (0, 0, 0, 0)) := rfl
theorem r44_11 (d : Nat) (ls : tm_Lo) (st : List Value) (h : tm_H) (K : Option Value → tm_H → Prop) : tm_A d 44 11 ls st h K ↔ tm_A d 44 19 ls st h K := tm_s o44_11 rfl rfl rfl
theorem o44_14 : tm_op 44 14 = some (.aload_n 3, (0, 0, 0, 0)) := rfl
theorem r44_14 (d : Nat) (v : Nat) (l0 l1 l2 : Option Value) (st : List Value) (h : tm_H) (K : Option Value → tm_H → Prop) : tm_A d 44 14 [l0, l1, l2, some (.ref v)] st h K ↔ tm_A d 44 15 [l0, l1, l2, some (.ref v)] (.ref v :: st) h K := tm_s o44_14 rfl rfl rfl
theorem r44_14n (d : Nat)  (l0 l1 l2 : Option Value) (st : List Value) (h : tm_H) (K : Option Value → tm_H → Prop) : tm_A d 44 14 [l0, l1, l2, some .null] st h K ↔ tm_A d 44 15 [l0, l1, l2, some .null] (.null :: st) h K := tm_s o44_14 rfl rfl rfl
theorem o44_15 : tm_op 44 15 = some (.iload_n 2, (0, 0, 0, 0)) := rfl
theorem r44_15 (d : Nat) (v : Int32) (l0 l1 l3 : Option Value) (st : List Value) (h : tm_H) (K : Option Value → tm_H → Prop) : tm_A d 44 15 [l0, l1, some (.int v), l3] st h K ↔ tm_A d 44 16 [l0, l1, some (.int v), l3] (.int v :: st) h K := tm_s o44_15 rfl rfl rfl
theorem o44_16 : tm_op 44 16 = some (.invokevirtual 51, (2, 4, 2, 0)) := rfl
theorem r44_16 (d : Nat) (v1 : Int32) (a : Nat) (ls : tm_Lo) (st : List Value) (h : tm_H) (K : Option Value → tm_H → Prop) : tm_A (d + 1) 44 16 ls (.int v1 :: .ref a :: st) h K ↔ (h.1.2.2 a = (0, 0) ∧ tm_cs st) ∧ tm_R d 4 [.ref a, .int v1] h (fun r h' => tm_A (d + 1) 44 19 ls (r.toList ++ st) h' K) := tm_callV (as := [.int v1]) o44_16 rfl rfl rfl rfl
theorem o44_19 : tm_op 44 19 = some (.ireturn, (0, 0, 0, 0)) := rfl
theorem r44_19 (d : Nat) (v : Int32) (ls : tm_Lo) (h : tm_H) (K : Option Value → tm_H → Prop) : tm_A d 44 19 ls [.int v] h K ↔ K (some (.int v)) h := tm_reti o44_19 rfl
theorem o45_0 : tm_op 45 0 = some (.aload_n 0, (0, 0, 0, 0)) := rfl
theorem r45_0 (d : Nat) (v : Nat) (l1 l2 : Option Value) (st : List Value) (h : tm_H) (K : Option Value → tm_H → Prop) : tm_A d 45 0 [some (.ref v), l1, l2] st h K ↔ tm_A d 45 1 [some (.ref v), l1, l2] (.ref v :: st) h K := tm_s o45_0 rfl rfl rfl
theorem o45_1 : tm_op 45 1 = some (.iload_n 1, (0, 0, 0, 0)) := rfl
theorem r45_1 (d : Nat) (v : Int32) (l0 l2 : Option Value) (st : List Value) (h : tm_H) (K : Option Value → tm_H → Prop) : tm_A d 45 1 [l0, some (.int v), l2] st h K ↔ tm_A d 45 2 [l0, some (.int v), l2] (.int v :: st) h K := tm_s o45_1 rfl rfl rfl
theorem o45_2 : tm_op 45 2 = some (.invokevirtual 47, (2, 43, 2, 4)) := rfl
theorem r45_2 (d : Nat) (v1 : Int32) (a : Nat) (ls : tm_Lo) (st : List Value) (h : tm_H) (K : Option Value → tm_H → Prop) : tm_A (d + 1) 45 2 ls (.int v1 :: .ref a :: st) h K ↔ (h.1.2.2 a = (0, 4) ∧ tm_cs st) ∧ tm_R d 43 [.ref a, .int v1] h (fun r h' => tm_A (d + 1) 45 5 ls (r.toList ++ st) h' K) := tm_callV (as := [.int v1]) o45_2 rfl rfl rfl rfl
theorem o45_5 : tm_op 45 5 = some (.astore_n 2, (0, 0, 0, 0)) := rfl
theorem r45_5 (d : Nat) (v : Nat) (l0 l1 l2 : Option Value) (st : List Value) (h : tm_H) (K : Option Value → tm_H → Prop) : tm_A d 45 5 [l0, l1, l2] (.ref v :: st) h K ↔ tm_A d 45 6 [l0, l1, some (.ref v)] st h K := tm_s o45_5 rfl rfl rfl
theorem r45_5n (d : Nat)  (l0 l1 l2 : Option Value) (st : List Value) (h : tm_H) (K : Option Value → tm_H → Prop) : tm_A d 45 5 [l0, l1, l2] (.null :: st) h K ↔ tm_A d 45 6 [l0, l1, some .null] st h K := tm_s o45_5 rfl rfl rfl
theorem o45_6 : tm_op 45 6 = some (.aload_n 2, (0, 0, 0, 0)) := rfl
theorem r45_6 (d : Nat) (v : Nat) (l0 l1 : Option Value) (st : List Value) (h : tm_H) (K : Option Value → tm_H → Prop) : tm_A d 45 6 [l0, l1, some (.ref v)] st h K ↔ tm_A d 45 7 [l0, l1, some (.ref v)] (.ref v :: st) h K := tm_s o45_6 rfl rfl rfl
theorem r45_6n (d : Nat)  (l0 l1 : Option Value) (st : List Value) (h : tm_H) (K : Option Value → tm_H → Prop) : tm_A d 45 6 [l0, l1, some .null] st h K ↔ tm_A d 45 7 [l0, l1, some .null] (.null :: st) h K := tm_s o45_6 rfl rfl rfl
theorem o45_7 : tm_op 45 7 = some (.ifnonnull 7, (0, 0, 0, 0)) := rfl
theorem r45_7 (d : Nat) (v : Nat) (ls : tm_Lo) (st : List Value) (h : tm_H) (K : Option Value → tm_H → Prop) : tm_A d 45 7 ls (.ref v :: st) h K ↔ tm_A d 45 14 ls st h K := tm_s o45_7 rfl rfl rfl
theorem r45_7n (d : Nat) (ls : tm_Lo) (st : List Value) (h : tm_H) (K : Option Value → tm_H → Prop) : tm_A d 45 7 ls (.null :: st) h K ↔ tm_A d 45 10 ls st h K := tm_s o45_7 rfl rfl rfl
theorem o45_10 : tm_op 45 10 = some (.iconst (-1), (0, 0, 0, 0)) := rfl
theorem r45_10 (d : Nat) (ls : tm_Lo) (st : List Value) (h : tm_H) (K : Option Value → tm_H → Prop) : tm_A d 45 10 ls st h K ↔ tm_A d 45 11 ls (.int (-1 : Int32) :: st) h K := tm_ic o45_10 (by decide)
theorem o45_11 : tm_op 45 11 = some (.goto 7, (0, 0, 0, 0)) := rfl
theorem r45_11 (d : Nat) (ls : tm_Lo) (st : List Value) (h : tm_H) (K : Option Value → tm_H → Prop) : tm_A d 45 11 ls st h K ↔ tm_A d 45 18 ls st h K := tm_s o45_11 rfl rfl rfl
theorem o45_14 : tm_op 45 14 = some (.aload_n 2, (0, 0, 0, 0)) := rfl
theorem r45_14 (d : Nat) (v : Nat) (l0 l1 : Option Value) (st : List Value) (h : tm_H) (K : Option Value → tm_H → Prop) : tm_A d 45 14 [l0, l1, some (.ref v)] st h K ↔ tm_A d 45 15 [l0, l1, some (.ref v)] (.ref v :: st) h K := tm_s o45_14 rfl rfl rfl
theorem r45_14n (d : Nat)  (l0 l1 : Option Value) (st : List Value) (h : tm_H) (K : Option Value → tm_H → Prop) : tm_A d 45 14 [l0, l1, some .null] st h K ↔ tm_A d 45 15 [l0, l1, some .null] (.null :: st) h K := tm_s o45_14 rfl rfl rfl
theorem o45_15 : tm_op 45 15 = some (.invokevirtual 55, (2, 5, 1, 0)) := rfl
theorem r45_15 (d : Nat) (a : Nat) (ls : tm_Lo) (st : List Value) (h : tm_H) (K : Option Value → tm_H → Prop) : tm_A (d + 1) 45 15 ls (.ref a :: st) h K ↔ (h.1.2.2 a = (0, 0) ∧ tm_cs st) ∧ tm_R d 5 [.ref a] h (fun r h' => tm_A (d + 1) 45 18 ls (r.toList ++ st) h' K) := tm_callV (as := []) o45_15 rfl rfl rfl rfl
theorem o45_18 : tm_op 45 18 = some (.ireturn, (0, 0, 0, 0)) := rfl
theorem r45_18 (d : Nat) (v : Int32) (ls : tm_Lo) (h : tm_H) (K : Option Value → tm_H → Prop) : tm_A d 45 18 ls [.int v] h K ↔ K (some (.int v)) h := tm_reti o45_18 rfl
theorem o46_0 : tm_op 46 0 = some (.aload_n 0, (0, 0, 0, 0)) := rfl
theorem r46_0 (d : Nat) (v : Nat) (l1 l2 : Option Value) (st : List Value) (h : tm_H) (K : Option Value → tm_H → Prop) : tm_A d 46 0 [some (.ref v), l1, l2] st h K ↔ tm_A d 46 1 [some (.ref v), l1, l2] (.ref v :: st) h K := tm_s o46_0 rfl rfl rfl
theorem o46_1 : tm_op 46 1 = some (.iload_n 1, (0, 0, 0, 0)) := rfl
theorem r46_1 (d : Nat) (v : Int32) (l0 l2 : Option Value) (st : List Value) (h : tm_H) (K : Option Value → tm_H → Prop) : tm_A d 46 1 [l0, some (.int v), l2] st h K ↔ tm_A d 46 2 [l0, some (.int v), l2] (.int v :: st) h K := tm_s o46_1 rfl rfl rfl
theorem o46_2 : tm_op 46 2 = some (.invokevirtual 47, (2, 43, 2, 4)) := rfl
theorem r46_2 (d : Nat) (v1 : Int32) (a : Nat) (ls : tm_Lo) (st : List Value) (h : tm_H) (K : Option Value → tm_H → Prop) : tm_A (d + 1) 46 2 ls (.int v1 :: .ref a :: st) h K ↔ (h.1.2.2 a = (0, 4) ∧ tm_cs st) ∧ tm_R d 43 [.ref a, .int v1] h (fun r h' => tm_A (d + 1) 46 5 ls (r.toList ++ st) h' K) := tm_callV (as := [.int v1]) o46_2 rfl rfl rfl rfl
theorem o46_5 : tm_op 46 5 = some (.astore_n 2, (0, 0, 0, 0)) := rfl
theorem r46_5 (d : Nat) (v : Nat) (l0 l1 l2 : Option Value) (st : List Value) (h : tm_H) (K : Option Value → tm_H → Prop) : tm_A d 46 5 [l0, l1, l2] (.ref v :: st) h K ↔ tm_A d 46 6 [l0, l1, some (.ref v)] st h K := tm_s o46_5 rfl rfl rfl
theorem r46_5n (d : Nat)  (l0 l1 l2 : Option Value) (st : List Value) (h : tm_H) (K : Option Value → tm_H → Prop) : tm_A d 46 5 [l0, l1, l2] (.null :: st) h K ↔ tm_A d 46 6 [l0, l1, some .null] st h K := tm_s o46_5 rfl rfl rfl
theorem o46_6 : tm_op 46 6 = some (.aload_n 2, (0, 0, 0, 0)) := rfl
theorem r46_6 (d : Nat) (v : Nat) (l0 l1 : Option Value) (st : List Value) (h : tm_H) (K : Option Value → tm_H → Prop) : tm_A d 46 6 [l0, l1, some (.ref v)] st h K ↔ tm_A d 46 7 [l0, l1, some (.ref v)] (.ref v :: st) h K := tm_s o46_6 rfl rfl rfl
theorem r46_6n (d : Nat)  (l0 l1 : Option Value) (st : List Value) (h : tm_H) (K : Option Value → tm_H → Prop) : tm_A d 46 6 [l0, l1, some .null] st h K ↔ tm_A d 46 7 [l0, l1, some .null] (.null :: st) h K := tm_s o46_6 rfl rfl rfl
theorem o46_7 : tm_op 46 7 = some (.ifnonnull 7, (0, 0, 0, 0)) := rfl
theorem r46_7 (d : Nat) (v : Nat) (ls : tm_Lo) (st : List Value) (h : tm_H) (K : Option Value → tm_H → Prop) : tm_A d 46 7 ls (.ref v :: st) h K ↔ tm_A d 46 14 ls st h K := tm_s o46_7 rfl rfl rfl
theorem r46_7n (d : Nat) (ls : tm_Lo) (st : List Value) (h : tm_H) (K : Option Value → tm_H → Prop) : tm_A d 46 7 ls (.null :: st) h K ↔ tm_A d 46 10 ls st h K := tm_s o46_7 rfl rfl rfl
theorem o46_10 : tm_op 46 10 = some (.iconst 0, (0, 0, 0, 0)) := rfl
theorem r46_10 (d : Nat) (ls : tm_Lo) (st : List Value) (h : tm_H) (K : Option Value → tm_H → Prop) : tm_A d 46 10 ls st h K ↔ tm_A d 46 11 ls (.int (0 : Int32) :: st) h K := tm_ic o46_10 (by decide)
theorem o46_11 : tm_op 46 11 = some (.goto 7, (0, 0, 0, 0)) := rfl
theorem r46_11 (d : Nat) (ls : tm_Lo) (st : List Value) (h : tm_H) (K : Option Value → tm_H → Prop) : tm_A d 46 11 ls st h K ↔ tm_A d 46 18 ls st h K := tm_s o46_11 rfl rfl rfl
theorem o46_14 : tm_op 46 14 = some (.aload_n 2, (0, 0, 0, 0)) := rfl
theorem r46_14 (d : Nat) (v : Nat) (l0 l1 : Option Value) (st : List Value) (h : tm_H) (K : Option Value → tm_H → Prop) : tm_A d 46 14 [l0, l1, some (.ref v)] st h K ↔ tm_A d 46 15 [l0, l1, some (.ref v)] (.ref v :: st) h K := tm_s o46_14 rfl rfl rfl
theorem r46_14n (d : Nat)  (l0 l1 : Option Value) (st : List Value) (h : tm_H) (K : Option Value → tm_H → Prop) : tm_A d 46 14 [l0, l1, some .null] st h K ↔ tm_A d 46 15 [l0, l1, some .null] (.null :: st) h K := tm_s o46_14 rfl rfl rfl
theorem o46_15 : tm_op 46 15 = some (.invokevirtual 59, (2, 2, 1, 0)) := rfl
theorem r46_15 (d : Nat) (a : Nat) (ls : tm_Lo) (st : List Value) (h : tm_H) (K : Option Value → tm_H → Prop) : tm_A (d + 1) 46 15 ls (.ref a :: st) h K ↔ (h.1.2.2 a = (0, 0) ∧ tm_cs st) ∧ tm_R d 2 [.ref a] h (fun r h' => tm_A (d + 1) 46 18 ls (r.toList ++ st) h' K) := tm_callV (as := []) o46_15 rfl rfl rfl rfl
theorem o46_18 : tm_op 46 18 = some (.ireturn, (0, 0, 0, 0)) := rfl
theorem r46_18 (d : Nat) (v : Int32) (ls : tm_Lo) (h : tm_H) (K : Option Value → tm_H → Prop) : tm_A d 46 18 ls [.int v] h K ↔ K (some (.int v)) h := tm_reti o46_18 rfl
theorem o47_0 : tm_op 47 0 = some (.iconst 0, (0, 0, 0, 0)) := rfl
theorem r47_0 (d : Nat) (ls : tm_Lo) (st : List Value) (h : tm_H) (K : Option Value → tm_H → Prop) : tm_A d 47 0 ls st h K ↔ tm_A d 47 1 ls (.int (0 : Int32) :: st) h K := tm_ic o47_0 (by decide)
theorem o47_1 : tm_op 47 1 = some (.istore_n 2, (0, 0, 0, 0)) := rfl
theorem r47_1 (d : Nat) (v : Int32) (l0 l1 l2 l3 : Option Value) (st : List Value) (h : tm_H) (K : Option Value → tm_H → Prop) : tm_A d 47 1 [l0, l1, l2, l3] (.int v :: st) h K ↔ tm_A d 47 2 [l0, l1, some (.int v), l3] st h K := tm_s o47_1 rfl rfl rfl
theorem o47_2 : tm_op 47 2 = some (.iconst 0, (0, 0, 0, 0)) := rfl
theorem r47_2 (d : Nat) (ls : tm_Lo) (st : List Value) (h : tm_H) (K : Option Value → tm_H → Prop) : tm_A d 47 2 ls st h K ↔ tm_A d 47 3 ls (.int (0 : Int32) :: st) h K := tm_ic o47_2 (by decide)
theorem o47_3 : tm_op 47 3 = some (.istore_n 3, (0, 0, 0, 0)) := rfl
theorem r47_3 (d : Nat) (v : Int32) (l0 l1 l2 l3 : Option Value) (st : List Value) (h : tm_H) (K : Option Value → tm_H → Prop) : tm_A d 47 3 [l0, l1, l2, l3] (.int v :: st) h K ↔ tm_A d 47 4 [l0, l1, l2, some (.int v)] st h K := tm_s o47_3 rfl rfl rfl
theorem o47_4 : tm_op 47 4 = some (.iload_n 3, (0, 0, 0, 0)) := rfl
theorem r47_4 (d : Nat) (v : Int32) (l0 l1 l2 : Option Value) (st : List Value) (h : tm_H) (K : Option Value → tm_H → Prop) : tm_A d 47 4 [l0, l1, l2, some (.int v)] st h K ↔ tm_A d 47 5 [l0, l1, l2, some (.int v)] (.int v :: st) h K := tm_s o47_4 rfl rfl rfl
theorem o47_5 : tm_op 47 5 = some (.aload_n 0, (0, 0, 0, 0)) := rfl
theorem r47_5 (d : Nat) (v : Nat) (l1 l2 l3 : Option Value) (st : List Value) (h : tm_H) (K : Option Value → tm_H → Prop) : tm_A d 47 5 [some (.ref v), l1, l2, l3] st h K ↔ tm_A d 47 6 [some (.ref v), l1, l2, l3] (.ref v :: st) h K := tm_s o47_5 rfl rfl rfl
theorem o47_6 : tm_op 47 6 = some (.getfield 18, (0, 4, 1, 0)) := rfl
theorem r47_6 (d : Nat) (a : Nat) (ls : tm_Lo) (st : List Value) (G : tm_G) (I : Nat → Nat → Int32) (J : Nat → Nat → Int64) (R : Nat → Nat → Option Nat) (K : Option Value → tm_H → Prop) : tm_A d 47 6 ls (.ref a :: st) (G, I, J, R) K ↔ G.2.2 a = (0, 4) ∧ tm_A d 47 9 ls (.int (I a 1) :: st) (G, I, J, R) K := tm_getI o47_6
theorem o47_9 : tm_op 47 9 = some (.if_icmp .ge 31, (0, 0, 0, 0)) := rfl
theorem r47_9 (d : Nat) (y x : Int32) (ls : tm_Lo) (st : List Value) (h : tm_H) (K : Option Value → tm_H → Prop) : tm_A d 47 9 ls (.int y :: .int x :: st) h K ↔ if y ≤ x then tm_A d 47 40 ls st h K else tm_A d 47 12 ls st h K := tm_b o47_9 rfl rfl rfl rfl
theorem o47_12 : tm_op 47 12 = some (.iload_n 3, (0, 0, 0, 0)) := rfl
theorem r47_12 (d : Nat) (v : Int32) (l0 l1 l2 : Option Value) (st : List Value) (h : tm_H) (K : Option Value → tm_H → Prop) : tm_A d 47 12 [l0, l1, l2, some (.int v)] st h K ↔ tm_A d 47 13 [l0, l1, l2, some (.int v)] (.int v :: st) h K := tm_s o47_12 rfl rfl rfl
theorem o47_13 : tm_op 47 13 = some (.bipush 10, (0, 0, 0, 0)) := rfl
theorem r47_13 (d : Nat) (ls : tm_Lo) (st : List Value) (h : tm_H) (K : Option Value → tm_H → Prop) : tm_A d 47 13 ls st h K ↔ tm_A d 47 15 ls (.int (10 : Int32) :: st) h K := tm_bp o47_13 (by decide)
theorem o47_15 : tm_op 47 15 = some (.if_icmp .ge 25, (0, 0, 0, 0)) := rfl
theorem r47_15 (d : Nat) (y x : Int32) (ls : tm_Lo) (st : List Value) (h : tm_H) (K : Option Value → tm_H → Prop) : tm_A d 47 15 ls (.int y :: .int x :: st) h K ↔ if y ≤ x then tm_A d 47 40 ls st h K else tm_A d 47 18 ls st h K := tm_b o47_15 rfl rfl rfl rfl
theorem o47_18 : tm_op 47 18 = some (.aload_n 0, (0, 0, 0, 0)) := rfl
theorem r47_18 (d : Nat) (v : Nat) (l1 l2 l3 : Option Value) (st : List Value) (h : tm_H) (K : Option Value → tm_H → Prop) : tm_A d 47 18 [some (.ref v), l1, l2, l3] st h K ↔ tm_A d 47 19 [some (.ref v), l1, l2, l3] (.ref v :: st) h K := tm_s o47_18 rfl rfl rfl
theorem o47_19 : tm_op 47 19 = some (.getfield 11, (2, 4, 0, 0)) := rfl
theorem r47_19 (d : Nat) (a : Nat) (ls : tm_Lo) (st : List Value) (G : tm_G) (I : Nat → Nat → Int32) (J : Nat → Nat → Int64) (R : Nat → Nat → Option Nat) (K : Option Value → tm_H → Prop) : tm_A d 47 19 ls (.ref a :: st) (G, I, J, R) K ↔ G.2.2 a = (0, 4) ∧ tm_A d 47 22 ls (tm_rf (R a 0) :: st) (G, I, J, R) K := tm_getR o47_19
theorem o47_22 : tm_op 47 22 = some (.iload_n 3, (0, 0, 0, 0)) := rfl
theorem r47_22 (d : Nat) (v : Int32) (l0 l1 l2 : Option Value) (st : List Value) (h : tm_H) (K : Option Value → tm_H → Prop) : tm_A d 47 22 [l0, l1, l2, some (.int v)] st h K ↔ tm_A d 47 23 [l0, l1, l2, some (.int v)] (.int v :: st) h K := tm_s o47_22 rfl rfl rfl
theorem o47_23 : tm_op 47 23 = some (.aaload, (0, 0, 0, 0)) := rfl
theorem r47_23 (d : Nat) (v : Int32) (a : Nat) (ls : tm_Lo) (st : List Value) (G : tm_G) (I : Nat → Nat → Int32) (J : Nat → Nat → Int64) (R : Nat → Nat → Option Nat) (K : Option Value → tm_H → Prop) : tm_A d 47 23 ls (.int v :: .ref a :: st) (G, I, J, R) K ↔ (((G.2.2 a).1 = 3 ∨ (G.2.2 a).1 = 4 ∨ (G.2.2 a).1 = 5) ∧ tm_in v (G.2.2 a).2) ∧ tm_A d 47 24 ls (tm_rf (R a (tm_ix v)) :: st) (G, I, J, R) K := tm_aald o47_23
theorem o47_24 : tm_op 47 24 = some (.iload_n 1, (0, 0, 0, 0)) := rfl
theorem r47_24 (d : Nat) (v : Int32) (l0 l2 l3 : Option Value) (st : List Value) (h : tm_H) (K : Option Value → tm_H → Prop) : tm_A d 47 24 [l0, some (.int v), l2, l3] st h K ↔ tm_A d 47 25 [l0, some (.int v), l2, l3] (.int v :: st) h K := tm_s o47_24 rfl rfl rfl
theorem o47_25 : tm_op 47 25 = some (.invokevirtual 62, (2, 8, 2, 0)) := rfl
theorem r47_25 (d : Nat) (v1 : Int32) (a : Nat) (ls : tm_Lo) (st : List Value) (h : tm_H) (K : Option Value → tm_H → Prop) : tm_A (d + 1) 47 25 ls (.int v1 :: .ref a :: st) h K ↔ (h.1.2.2 a = (0, 0) ∧ tm_cs st) ∧ tm_R d 8 [.ref a, .int v1] h (fun r h' => tm_A (d + 1) 47 28 ls (r.toList ++ st) h' K) := tm_callV (as := [.int v1]) o47_25 rfl rfl rfl rfl
theorem o47_28 : tm_op 47 28 = some (.ifCond .eq 6, (0, 0, 0, 0)) := rfl
theorem r47_28 (d : Nat) (x : Int32) (ls : tm_Lo) (st : List Value) (h : tm_H) (K : Option Value → tm_H → Prop) : tm_A d 47 28 ls (.int x :: st) h K ↔ if x = 0 then tm_A d 47 34 ls st h K else tm_A d 47 31 ls st h K := tm_b o47_28 rfl rfl rfl rfl
theorem o47_31 : tm_op 47 31 = some (.iinc 2 1, (0, 0, 0, 0)) := rfl
theorem r47_31 (d : Nat) (v : Int32) (l0 l1 l3 : Option Value) (st : List Value) (h : tm_H) (K : Option Value → tm_H → Prop) : tm_A d 47 31 [l0, l1, some (.int v), l3] st h K ↔ tm_A d 47 34 [l0, l1, some (.int (v + (1 : Int32))), l3] st h K := tm_s o47_31 rfl rfl rfl
theorem o47_34 : tm_op 47 34 = some (.iinc 3 1, (0, 0, 0, 0)) := rfl
theorem r47_34 (d : Nat) (v : Int32) (l0 l1 l2 : Option Value) (st : List Value) (h : tm_H) (K : Option Value → tm_H → Prop) : tm_A d 47 34 [l0, l1, l2, some (.int v)] st h K ↔ tm_A d 47 37 [l0, l1, l2, some (.int (v + (1 : Int32)))] st h K := tm_s o47_34 rfl rfl rfl
theorem o47_37 : tm_op 47 37 = some (.goto (-33), (0, 0, 0, 0)) := rfl
theorem r47_37 (d : Nat) (ls : tm_Lo) (st : List Value) (h : tm_H) (K : Option Value → tm_H → Prop) : tm_A d 47 37 ls st h K ↔ tm_A d 47 4 ls st h K := tm_s o47_37 rfl rfl rfl
theorem o47_40 : tm_op 47 40 = some (.iload_n 2, (0, 0, 0, 0)) := rfl
theorem r47_40 (d : Nat) (v : Int32) (l0 l1 l3 : Option Value) (st : List Value) (h : tm_H) (K : Option Value → tm_H → Prop) : tm_A d 47 40 [l0, l1, some (.int v), l3] st h K ↔ tm_A d 47 41 [l0, l1, some (.int v), l3] (.int v :: st) h K := tm_s o47_40 rfl rfl rfl
theorem o47_41 : tm_op 47 41 = some (.ireturn, (0, 0, 0, 0)) := rfl
theorem r47_41 (d : Nat) (v : Int32) (ls : tm_Lo) (h : tm_H) (K : Option Value → tm_H → Prop) : tm_A d 47 41 ls [.int v] h K ↔ K (some (.int v)) h := tm_reti o47_41 rfl
theorem o48_0 : tm_op 48 0 = some (.aload_n 0, (0, 0, 0, 0)) := rfl
theorem r48_0 (d : Nat) (v : Nat) (st : List Value) (h : tm_H) (K : Option Value → tm_H → Prop) : tm_A d 48 0 [some (.ref v)] st h K ↔ tm_A d 48 1 [some (.ref v)] (.ref v :: st) h K := tm_s o48_0 rfl rfl rfl
theorem o48_1 : tm_op 48 1 = some (.invokespecial 3, (4, 0, 0, 0)) := rfl
theorem r48_1 (d : Nat) (a : Nat) (ls : tm_Lo) (st : List Value) (h : tm_H) (K : Option Value → tm_H → Prop) : tm_A (d + 1) 48 1 ls (.ref a :: st) h K ↔ tm_cs st ∧ tm_A (d + 1) 48 4 ls st h K := tm_obj o48_1 rfl rfl
theorem o48_4 : tm_op 48 4 = some (.aload_n 0, (0, 0, 0, 0)) := rfl
theorem r48_4 (d : Nat) (v : Nat) (st : List Value) (h : tm_H) (K : Option Value → tm_H → Prop) : tm_A d 48 4 [some (.ref v)] st h K ↔ tm_A d 48 5 [some (.ref v)] (.ref v :: st) h K := tm_s o48_4 rfl rfl rfl
theorem o48_5 : tm_op 48 5 = some (.bipush 70, (0, 0, 0, 0)) := rfl
theorem r48_5 (d : Nat) (ls : tm_Lo) (st : List Value) (h : tm_H) (K : Option Value → tm_H → Prop) : tm_A d 48 5 ls st h K ↔ tm_A d 48 7 ls (.int (70 : Int32) :: st) h K := tm_bp o48_5 (by decide)
theorem o48_7 : tm_op 48 7 = some (.anewarray 11, (4, 0, 0, 0)) := rfl
theorem r48_7 (d : Nat) (v : Int32) (ls : tm_Lo) (st : List Value) (G : tm_G) (I : Nat → Nat → Int32) (J : Nat → Nat → Int64) (R : Nat → Nat → Option Nat) (K : Option Value → tm_H → Prop) : tm_A d 48 7 ls (.int v :: st) (G, I, J, R) K ↔ (¬ v < 0 ∧ (tm_ix v) ≤ 100000) ∧ tm_A d 48 10 ls (.ref G.1 :: st) (tm_nw (4, (tm_ix v)) (tm_ix v) (G, I, J, R)) K := tm_anew o48_7
theorem o48_10 : tm_op 48 10 = some (.putfield 13, (2, 5, 0, 0)) := rfl
theorem r48_10 (d : Nat) (v : Nat) (a : Nat) (ls : tm_Lo) (st : List Value) (G : tm_G) (I : Nat → Nat → Int32) (J : Nat → Nat → Int64) (R : Nat → Nat → Option Nat) (K : Option Value → tm_H → Prop) : tm_A d 48 10 ls (.ref v :: .ref a :: st) (G, I, J, R) K ↔ G.2.2 a = (0, 5) ∧ tm_A d 48 13 ls st (G, I, J, up2 R a 0 (some v)) K := tm_putR o48_10
theorem o48_13 : tm_op 48 13 = some (.aload_n 0, (0, 0, 0, 0)) := rfl
theorem r48_13 (d : Nat) (v : Nat) (st : List Value) (h : tm_H) (K : Option Value → tm_H → Prop) : tm_A d 48 13 [some (.ref v)] st h K ↔ tm_A d 48 14 [some (.ref v)] (.ref v :: st) h K := tm_s o48_13 rfl rfl rfl
theorem o48_14 : tm_op 48 14 = some (.new 17, (0, 0, 4, 0)) := rfl
theorem r48_14 (d : Nat) (ls : tm_Lo) (st : List Value) (G : tm_G) (I : Nat → Nat → Int32) (J : Nat → Nat → Int64) (R : Nat → Nat → Option Nat) (K : Option Value → tm_H → Prop) : tm_A d 48 14 ls st (G, I, J, R) K ↔ tm_A d 48 17 ls (.ref G.1 :: st) (tm_nw (0, 0) 4 (G, I, J, R)) K := tm_s o48_14 rfl rfl rfl
theorem o48_17 : tm_op 48 17 = some (.dup, (0, 0, 0, 0)) := rfl
theorem r48_17 (d : Nat) (v : Nat) (ls : tm_Lo) (st : List Value) (h : tm_H) (K : Option Value → tm_H → Prop) : tm_A d 48 17 ls (.ref v :: st) h K ↔ tm_A d 48 18 ls (.ref v :: .ref v :: st) h K := tm_s o48_17 rfl rfl rfl
theorem r48_17i (d : Nat) (v : Int32) (ls : tm_Lo) (st : List Value) (h : tm_H) (K : Option Value → tm_H → Prop) : tm_A d 48 17 ls (.int v :: st) h K ↔ tm_A d 48 18 ls (.int v :: .int v :: st) h K := tm_s o48_17 rfl rfl rfl
theorem o48_18 : tm_op 48 18 = some (.invokespecial 19, (3, 0, 1, 0)) := rfl
theorem r48_18 (d : Nat) (a : Nat) (ls : tm_Lo) (st : List Value) (h : tm_H) (K : Option Value → tm_H → Prop) : tm_A (d + 1) 48 18 ls (.ref a :: st) h K ↔ tm_cs st ∧ tm_R d 0 [.ref a] h (fun r h' => tm_A (d + 1) 48 21 ls (r.toList ++ st) h' K) := tm_callI (as := []) o48_18 rfl rfl rfl rfl
theorem o48_21 : tm_op 48 21 = some (.putfield 20, (2, 5, 1, 0)) := rfl
theorem r48_21 (d : Nat) (v : Nat) (a : Nat) (ls : tm_Lo) (st : List Value) (G : tm_G) (I : Nat → Nat → Int32) (J : Nat → Nat → Int64) (R : Nat → Nat → Option Nat) (K : Option Value → tm_H → Prop) : tm_A d 48 21 ls (.ref v :: .ref a :: st) (G, I, J, R) K ↔ G.2.2 a = (0, 5) ∧ tm_A d 48 24 ls st (G, I, J, up2 R a 1 (some v)) K := tm_putR o48_21
theorem o48_24 : tm_op 48 24 = some (.aload_n 0, (0, 0, 0, 0)) := rfl
theorem r48_24 (d : Nat) (v : Nat) (st : List Value) (h : tm_H) (K : Option Value → tm_H → Prop) : tm_A d 48 24 [some (.ref v)] st h K ↔ tm_A d 48 25 [some (.ref v)] (.ref v :: st) h K := tm_s o48_24 rfl rfl rfl
theorem o48_25 : tm_op 48 25 = some (.iconst 0, (0, 0, 0, 0)) := rfl
theorem r48_25 (d : Nat) (ls : tm_Lo) (st : List Value) (h : tm_H) (K : Option Value → tm_H → Prop) : tm_A d 48 25 ls st h K ↔ tm_A d 48 26 ls (.int (0 : Int32) :: st) h K := tm_ic o48_25 (by decide)
theorem o48_26 : tm_op 48 26 = some (.putfield 24, (0, 5, 2, 0)) := rfl
theorem r48_26 (d : Nat) (v : Int32) (a : Nat) (ls : tm_Lo) (st : List Value) (G : tm_G) (I : Nat → Nat → Int32) (J : Nat → Nat → Int64) (R : Nat → Nat → Option Nat) (K : Option Value → tm_H → Prop) : tm_A d 48 26 ls (.int v :: .ref a :: st) (G, I, J, R) K ↔ G.2.2 a = (0, 5) ∧ tm_A d 48 29 ls st (G, up2 I a 2 v, J, R) K := tm_putI o48_26
theorem o48_29 : tm_op 48 29 = some (.aload_n 0, (0, 0, 0, 0)) := rfl
theorem r48_29 (d : Nat) (v : Nat) (st : List Value) (h : tm_H) (K : Option Value → tm_H → Prop) : tm_A d 48 29 [some (.ref v)] st h K ↔ tm_A d 48 30 [some (.ref v)] (.ref v :: st) h K := tm_s o48_29 rfl rfl rfl
theorem o48_30 : tm_op 48 30 = some (.iconst 0, (0, 0, 0, 0)) := rfl
theorem r48_30 (d : Nat) (ls : tm_Lo) (st : List Value) (h : tm_H) (K : Option Value → tm_H → Prop) : tm_A d 48 30 ls st h K ↔ tm_A d 48 31 ls (.int (0 : Int32) :: st) h K := tm_ic o48_30 (by decide)
theorem o48_31 : tm_op 48 31 = some (.putfield 28, (0, 5, 3, 0)) := rfl
theorem r48_31 (d : Nat) (v : Int32) (a : Nat) (ls : tm_Lo) (st : List Value) (G : tm_G) (I : Nat → Nat → Int32) (J : Nat → Nat → Int64) (R : Nat → Nat → Option Nat) (K : Option Value → tm_H → Prop) : tm_A d 48 31 ls (.int v :: .ref a :: st) (G, I, J, R) K ↔ G.2.2 a = (0, 5) ∧ tm_A d 48 34 ls st (G, up2 I a 3 v, J, R) K := tm_putI o48_31
theorem o48_34 : tm_op 48 34 = some (.aload_n 0, (0, 0, 0, 0)) := rfl
theorem r48_34 (d : Nat) (v : Nat) (st : List Value) (h : tm_H) (K : Option Value → tm_H → Prop) : tm_A d 48 34 [some (.ref v)] st h K ↔ tm_A d 48 35 [some (.ref v)] (.ref v :: st) h K := tm_s o48_34 rfl rfl rfl
theorem o48_35 : tm_op 48 35 = some (.iconst 0, (0, 0, 0, 0)) := rfl
theorem r48_35 (d : Nat) (ls : tm_Lo) (st : List Value) (h : tm_H) (K : Option Value → tm_H → Prop) : tm_A d 48 35 ls st h K ↔ tm_A d 48 36 ls (.int (0 : Int32) :: st) h K := tm_ic o48_35 (by decide)
theorem o48_36 : tm_op 48 36 = some (.putfield 31, (0, 5, 4, 0)) := rfl
theorem r48_36 (d : Nat) (v : Int32) (a : Nat) (ls : tm_Lo) (st : List Value) (G : tm_G) (I : Nat → Nat → Int32) (J : Nat → Nat → Int64) (R : Nat → Nat → Option Nat) (K : Option Value → tm_H → Prop) : tm_A d 48 36 ls (.int v :: .ref a :: st) (G, I, J, R) K ↔ G.2.2 a = (0, 5) ∧ tm_A d 48 39 ls st (G, up2 I a 4 v, J, R) K := tm_putI o48_36
theorem o48_39 : tm_op 48 39 = some (.return_, (0, 0, 0, 0)) := rfl
theorem r48_39 (d : Nat) (ls : tm_Lo) (h : tm_H) (K : Option Value → tm_H → Prop) : tm_A d 48 39 ls [] h K ↔ K none h := tm_retv o48_39 rfl
theorem o49_0 : tm_op 49 0 = some (.aload_n 0, (0, 0, 0, 0)) := rfl
theorem r49_0 (d : Nat) (v : Nat) (st : List Value) (h : tm_H) (K : Option Value → tm_H → Prop) : tm_A d 49 0 [some (.ref v)] st h K ↔ tm_A d 49 1 [some (.ref v)] (.ref v :: st) h K := tm_s o49_0 rfl rfl rfl
theorem o49_1 : tm_op 49 1 = some (.getfield 28, (0, 5, 3, 0)) := rfl
theorem r49_1 (d : Nat) (a : Nat) (ls : tm_Lo) (st : List Value) (G : tm_G) (I : Nat → Nat → Int32) (J : Nat → Nat → Int64) (R : Nat → Nat → Option Nat) (K : Option Value → tm_H → Prop) : tm_A d 49 1 ls (.ref a :: st) (G, I, J, R) K ↔ G.2.2 a = (0, 5) ∧ tm_A d 49 4 ls (.int (I a 3) :: st) (G, I, J, R) K := tm_getI o49_1
theorem o49_4 : tm_op 49 4 = some (.ireturn, (0, 0, 0, 0)) := rfl
theorem r49_4 (d : Nat) (v : Int32) (ls : tm_Lo) (h : tm_H) (K : Option Value → tm_H → Prop) : tm_A d 49 4 ls [.int v] h K ↔ K (some (.int v)) h := tm_reti o49_4 rfl
theorem o50_0 : tm_op 50 0 = some (.aload_n 0, (0, 0, 0, 0)) := rfl
theorem r50_0 (d : Nat) (v : Nat) (st : List Value) (h : tm_H) (K : Option Value → tm_H → Prop) : tm_A d 50 0 [some (.ref v)] st h K ↔ tm_A d 50 1 [some (.ref v)] (.ref v :: st) h K := tm_s o50_0 rfl rfl rfl
theorem o50_1 : tm_op 50 1 = some (.getfield 31, (0, 5, 4, 0)) := rfl
theorem r50_1 (d : Nat) (a : Nat) (ls : tm_Lo) (st : List Value) (G : tm_G) (I : Nat → Nat → Int32) (J : Nat → Nat → Int64) (R : Nat → Nat → Option Nat) (K : Option Value → tm_H → Prop) : tm_A d 50 1 ls (.ref a :: st) (G, I, J, R) K ↔ G.2.2 a = (0, 5) ∧ tm_A d 50 4 ls (.int (I a 4) :: st) (G, I, J, R) K := tm_getI o50_1
theorem o50_4 : tm_op 50 4 = some (.ireturn, (0, 0, 0, 0)) := rfl
theorem r50_4 (d : Nat) (v : Int32) (ls : tm_Lo) (h : tm_H) (K : Option Value → tm_H → Prop) : tm_A d 50 4 ls [.int v] h K ↔ K (some (.int v)) h := tm_reti o50_4 rfl
theorem o51_0 : tm_op 51 0 = some (.iload_n 1, (0, 0, 0, 0)) := rfl
theorem r51_0 (d : Nat) (v : Int32) (l0 : Option Value) (st : List Value) (h : tm_H) (K : Option Value → tm_H → Prop) : tm_A d 51 0 [l0, some (.int v)] st h K ↔ tm_A d 51 1 [l0, some (.int v)] (.int v :: st) h K := tm_s o51_0 rfl rfl rfl
theorem o51_1 : tm_op 51 1 = some (.ifCond .lt 15, (0, 0, 0, 0)) := rfl
theorem r51_1 (d : Nat) (x : Int32) (ls : tm_Lo) (st : List Value) (h : tm_H) (K : Option Value → tm_H → Prop) : tm_A d 51 1 ls (.int x :: st) h K ↔ if x < 0 then tm_A d 51 16 ls st h K else tm_A d 51 4 ls st h K := tm_b o51_1 rfl rfl rfl rfl
theorem o51_4 : tm_op 51 4 = some (.iload_n 1, (0, 0, 0, 0)) := rfl
theorem r51_4 (d : Nat) (v : Int32) (l0 : Option Value) (st : List Value) (h : tm_H) (K : Option Value → tm_H → Prop) : tm_A d 51 4 [l0, some (.int v)] st h K ↔ tm_A d 51 5 [l0, some (.int v)] (.int v :: st) h K := tm_s o51_4 rfl rfl rfl
theorem o51_5 : tm_op 51 5 = some (.aload_n 0, (0, 0, 0, 0)) := rfl
theorem r51_5 (d : Nat) (v : Nat) (l1 : Option Value) (st : List Value) (h : tm_H) (K : Option Value → tm_H → Prop) : tm_A d 51 5 [some (.ref v), l1] st h K ↔ tm_A d 51 6 [some (.ref v), l1] (.ref v :: st) h K := tm_s o51_5 rfl rfl rfl
theorem o51_6 : tm_op 51 6 = some (.getfield 28, (0, 5, 3, 0)) := rfl
theorem r51_6 (d : Nat) (a : Nat) (ls : tm_Lo) (st : List Value) (G : tm_G) (I : Nat → Nat → Int32) (J : Nat → Nat → Int64) (R : Nat → Nat → Option Nat) (K : Option Value → tm_H → Prop) : tm_A d 51 6 ls (.ref a :: st) (G, I, J, R) K ↔ G.2.2 a = (0, 5) ∧ tm_A d 51 9 ls (.int (I a 3) :: st) (G, I, J, R) K := tm_getI o51_6
theorem o51_9 : tm_op 51 9 = some (.if_icmp .ge 7, (0, 0, 0, 0)) := rfl
theorem r51_9 (d : Nat) (y x : Int32) (ls : tm_Lo) (st : List Value) (h : tm_H) (K : Option Value → tm_H → Prop) : tm_A d 51 9 ls (.int y :: .int x :: st) h K ↔ if y ≤ x then tm_A d 51 16 ls st h K else tm_A d 51 12 ls st h K := tm_b o51_9 rfl rfl rfl rfl
theorem o51_12 : tm_op 51 12 = some (.iconst 1, (0, 0, 0, 0)) := rfl
theorem r51_12 (d : Nat) (ls : tm_Lo) (st : List Value) (h : tm_H) (K : Option Value → tm_H → Prop) : tm_A d 51 12 ls st h K ↔ tm_A d 51 13 ls (.int (1 : Int32) :: st) h K := tm_ic o51_12 (by decide)
theorem o51_13 : tm_op 51 13 = some (.goto 4, (0, 0, 0, 0)) := rfl
theorem r51_13 (d : Nat) (ls : tm_Lo) (st : List Value) (h : tm_H) (K : Option Value → tm_H → Prop) : tm_A d 51 13 ls st h K ↔ tm_A d 51 17 ls st h K := tm_s o51_13 rfl rfl rfl
theorem o51_16 : tm_op 51 16 = some (.iconst 0, (0, 0, 0, 0)) := rfl
theorem r51_16 (d : Nat) (ls : tm_Lo) (st : List Value) (h : tm_H) (K : Option Value → tm_H → Prop) : tm_A d 51 16 ls st h K ↔ tm_A d 51 17 ls (.int (0 : Int32) :: st) h K := tm_ic o51_16 (by decide)
theorem o51_17 : tm_op 51 17 = some (.ireturn, (0, 0, 0, 0)) := rfl
theorem r51_17 (d : Nat) (v : Int32) (ls : tm_Lo) (h : tm_H) (K : Option Value → tm_H → Prop) : tm_A d 51 17 ls [.int v] h K ↔ (v = 0 ∨ v = 1) ∧ K (some (.int v)) h := tm_retz o51_17 rfl
theorem o52_0 : tm_op 52 0 = some (.aload_n 0, (0, 0, 0, 0)) := rfl
theorem r52_0 (d : Nat) (v : Nat) (l1 : Option Value) (st : List Value) (h : tm_H) (K : Option Value → tm_H → Prop) : tm_A d 52 0 [some (.ref v), l1] st h K ↔ tm_A d 52 1 [some (.ref v), l1] (.ref v :: st) h K := tm_s o52_0 rfl rfl rfl
theorem o52_1 : tm_op 52 1 = some (.iload_n 1, (0, 0, 0, 0)) := rfl
theorem r52_1 (d : Nat) (v : Int32) (l0 : Option Value) (st : List Value) (h : tm_H) (K : Option Value → tm_H → Prop) : tm_A d 52 1 [l0, some (.int v)] st h K ↔ tm_A d 52 2 [l0, some (.int v)] (.int v :: st) h K := tm_s o52_1 rfl rfl rfl
theorem o52_2 : tm_op 52 2 = some (.invokevirtual 34, (2, 51, 2, 5)) := rfl
theorem r52_2 (d : Nat) (v1 : Int32) (a : Nat) (ls : tm_Lo) (st : List Value) (h : tm_H) (K : Option Value → tm_H → Prop) : tm_A (d + 1) 52 2 ls (.int v1 :: .ref a :: st) h K ↔ (h.1.2.2 a = (0, 5) ∧ tm_cs st) ∧ tm_R d 51 [.ref a, .int v1] h (fun r h' => tm_A (d + 1) 52 5 ls (r.toList ++ st) h' K) := tm_callV (as := [.int v1]) o52_2 rfl rfl rfl rfl
theorem o52_5 : tm_op 52 5 = some (.ifCond .eq 16, (0, 0, 0, 0)) := rfl
theorem r52_5 (d : Nat) (x : Int32) (ls : tm_Lo) (st : List Value) (h : tm_H) (K : Option Value → tm_H → Prop) : tm_A d 52 5 ls (.int x :: st) h K ↔ if x = 0 then tm_A d 52 21 ls st h K else tm_A d 52 8 ls st h K := tm_b o52_5 rfl rfl rfl rfl
theorem o52_8 : tm_op 52 8 = some (.aload_n 0, (0, 0, 0, 0)) := rfl
theorem r52_8 (d : Nat) (v : Nat) (l1 : Option Value) (st : List Value) (h : tm_H) (K : Option Value → tm_H → Prop) : tm_A d 52 8 [some (.ref v), l1] st h K ↔ tm_A d 52 9 [some (.ref v), l1] (.ref v :: st) h K := tm_s o52_8 rfl rfl rfl
theorem o52_9 : tm_op 52 9 = some (.getfield 31, (0, 5, 4, 0)) := rfl
theorem r52_9 (d : Nat) (a : Nat) (ls : tm_Lo) (st : List Value) (G : tm_G) (I : Nat → Nat → Int32) (J : Nat → Nat → Int64) (R : Nat → Nat → Option Nat) (K : Option Value → tm_H → Prop) : tm_A d 52 9 ls (.ref a :: st) (G, I, J, R) K ↔ G.2.2 a = (0, 5) ∧ tm_A d 52 12 ls (.int (I a 4) :: st) (G, I, J, R) K := tm_getI o52_9
theorem o52_12 : tm_op 52 12 = some (.bipush 60, (0, 0, 0, 0)) := rfl
theorem r52_12 (d : Nat) (ls : tm_Lo) (st : List Value) (h : tm_H) (K : Option Value → tm_H → Prop) : tm_A d 52 12 ls st h K ↔ tm_A d 52 14 ls (.int (60 : Int32) :: st) h K := tm_bp o52_12 (by decide)
theorem o52_14 : tm_op 52 14 = some (.if_icmp .ge 7, (0, 0, 0, 0)) := rfl
theorem r52_14 (d : Nat) (y x : Int32) (ls : tm_Lo) (st : List Value) (h : tm_H) (K : Option Value → tm_H → Prop) : tm_A d 52 14 ls (.int y :: .int x :: st) h K ↔ if y ≤ x then tm_A d 52 21 ls st h K else tm_A d 52 17 ls st h K := tm_b o52_14 rfl rfl rfl rfl
theorem o52_17 : tm_op 52 17 = some (.iconst 1, (0, 0, 0, 0)) := rfl
theorem r52_17 (d : Nat) (ls : tm_Lo) (st : List Value) (h : tm_H) (K : Option Value → tm_H → Prop) : tm_A d 52 17 ls st h K ↔ tm_A d 52 18 ls (.int (1 : Int32) :: st) h K := tm_ic o52_17 (by decide)
theorem o52_18 : tm_op 52 18 = some (.goto 4, (0, 0, 0, 0)) := rfl
theorem r52_18 (d : Nat) (ls : tm_Lo) (st : List Value) (h : tm_H) (K : Option Value → tm_H → Prop) : tm_A d 52 18 ls st h K ↔ tm_A d 52 22 ls st h K := tm_s o52_18 rfl rfl rfl
theorem o52_21 : tm_op 52 21 = some (.iconst 0, (0, 0, 0, 0)) := rfl
theorem r52_21 (d : Nat) (ls : tm_Lo) (st : List Value) (h : tm_H) (K : Option Value → tm_H → Prop) : tm_A d 52 21 ls st h K ↔ tm_A d 52 22 ls (.int (0 : Int32) :: st) h K := tm_ic o52_21 (by decide)
theorem o52_22 : tm_op 52 22 = some (.ireturn, (0, 0, 0, 0)) := rfl
theorem r52_22 (d : Nat) (v : Int32) (ls : tm_Lo) (h : tm_H) (K : Option Value → tm_H → Prop) : tm_A d 52 22 ls [.int v] h K ↔ (v = 0 ∨ v = 1) ∧ K (some (.int v)) h := tm_retz o52_22 rfl
theorem o53_0 : tm_op 53 0 = some (.aload_n 0, (0, 0, 0, 0)) := rfl
theorem r53_0 (d : Nat) (v : Nat) (l1 l2 l3 : Option Value) (st : List Value) (h : tm_H) (K : Option Value → tm_H → Prop) : tm_A d 53 0 [some (.ref v), l1, l2, l3] st h K ↔ tm_A d 53 1 [some (.ref v), l1, l2, l3] (.ref v :: st) h K := tm_s o53_0 rfl rfl rfl
theorem o53_1 : tm_op 53 1 = some (.getfield 28, (0, 5, 3, 0)) := rfl
theorem r53_1 (d : Nat) (a : Nat) (ls : tm_Lo) (st : List Value) (G : tm_G) (I : Nat → Nat → Int32) (J : Nat → Nat → Int64) (R : Nat → Nat → Option Nat) (K : Option Value → tm_H → Prop) : tm_A d 53 1 ls (.ref a :: st) (G, I, J, R) K ↔ G.2.2 a = (0, 5) ∧ tm_A d 53 4 ls (.int (I a 3) :: st) (G, I, J, R) K := tm_getI o53_1
theorem o53_4 : tm_op 53 4 = some (.istore_n 3, (0, 0, 0, 0)) := rfl
theorem r53_4 (d : Nat) (v : Int32) (l0 l1 l2 l3 : Option Value) (st : List Value) (h : tm_H) (K : Option Value → tm_H → Prop) : tm_A d 53 4 [l0, l1, l2, l3] (.int v :: st) h K ↔ tm_A d 53 5 [l0, l1, l2, some (.int v)] st h K := tm_s o53_4 rfl rfl rfl
theorem o53_5 : tm_op 53 5 = some (.aload_n 0, (0, 0, 0, 0)) := rfl
theorem r53_5 (d : Nat) (v : Nat) (l1 l2 l3 : Option Value) (st : List Value) (h : tm_H) (K : Option Value → tm_H → Prop) : tm_A d 53 5 [some (.ref v), l1, l2, l3] st h K ↔ tm_A d 53 6 [some (.ref v), l1, l2, l3] (.ref v :: st) h K := tm_s o53_5 rfl rfl rfl
theorem o53_6 : tm_op 53 6 = some (.iload_n 3, (0, 0, 0, 0)) := rfl
theorem r53_6 (d : Nat) (v : Int32) (l0 l1 l2 : Option Value) (st : List Value) (h : tm_H) (K : Option Value → tm_H → Prop) : tm_A d 53 6 [l0, l1, l2, some (.int v)] st h K ↔ tm_A d 53 7 [l0, l1, l2, some (.int v)] (.int v :: st) h K := tm_s o53_6 rfl rfl rfl
theorem o53_7 : tm_op 53 7 = some (.iload_n 1, (0, 0, 0, 0)) := rfl
theorem r53_7 (d : Nat) (v : Int32) (l0 l2 l3 : Option Value) (st : List Value) (h : tm_H) (K : Option Value → tm_H → Prop) : tm_A d 53 7 [l0, some (.int v), l2, l3] st h K ↔ tm_A d 53 8 [l0, some (.int v), l2, l3] (.int v :: st) h K := tm_s o53_7 rfl rfl rfl
theorem o53_8 : tm_op 53 8 = some (.aload_n 2, (0, 0, 0, 0)) := rfl
theorem r53_8 (d : Nat) (v : Nat) (l0 l1 l3 : Option Value) (st : List Value) (h : tm_H) (K : Option Value → tm_H → Prop) : tm_A d 53 8 [l0, l1, some (.ref v), l3] st h K ↔ tm_A d 53 9 [l0, l1, some (.ref v), l3] (.ref v :: st) h K := tm_s o53_8 rfl rfl rfl
theorem r53_8n (d : Nat)  (l0 l1 l3 : Option Value) (st : List Value) (h : tm_H) (K : Option Value → tm_H → Prop) : tm_A d 53 8 [l0, l1, some .null, l3] st h K ↔ tm_A d 53 9 [l0, l1, some .null, l3] (.null :: st) h K := tm_s o53_8 rfl rfl rfl
theorem o53_9 : tm_op 53 9 = some (.invokevirtual 38, (2, 56, 4, 5)) := rfl
theorem r53_9 (d : Nat) (v1 : Int32) (v2 : Int32) (v3 : Nat) (a : Nat) (ls : tm_Lo) (st : List Value) (h : tm_H) (K : Option Value → tm_H → Prop) : tm_A (d + 1) 53 9 ls (.ref v3 :: .int v2 :: .int v1 :: .ref a :: st) h K ↔ (h.1.2.2 a = (0, 5) ∧ tm_cs st) ∧ tm_R d 56 [.ref a, .int v1, .int v2, .ref v3] h (fun r h' => tm_A (d + 1) 53 12 ls (r.toList ++ st) h' K) := tm_callV (as := [.int v1, .int v2, .ref v3]) o53_9 rfl rfl rfl rfl
theorem o53_12 : tm_op 53 12 = some (.aload_n 0, (0, 0, 0, 0)) := rfl
theorem r53_12 (d : Nat) (v : Nat) (l1 l2 l3 : Option Value) (st : List Value) (h : tm_H) (K : Option Value → tm_H → Prop) : tm_A d 53 12 [some (.ref v), l1, l2, l3] st h K ↔ tm_A d 53 13 [some (.ref v), l1, l2, l3] (.ref v :: st) h K := tm_s o53_12 rfl rfl rfl
theorem o53_13 : tm_op 53 13 = some (.dup, (0, 0, 0, 0)) := rfl
theorem r53_13 (d : Nat) (v : Nat) (ls : tm_Lo) (st : List Value) (h : tm_H) (K : Option Value → tm_H → Prop) : tm_A d 53 13 ls (.ref v :: st) h K ↔ tm_A d 53 14 ls (.ref v :: .ref v :: st) h K := tm_s o53_13 rfl rfl rfl
theorem r53_13i (d : Nat) (v : Int32) (ls : tm_Lo) (st : List Value) (h : tm_H) (K : Option Value → tm_H → Prop) : tm_A d 53 13 ls (.int v :: st) h K ↔ tm_A d 53 14 ls (.int v :: .int v :: st) h K := tm_s o53_13 rfl rfl rfl
theorem o53_14 : tm_op 53 14 = some (.getfield 28, (0, 5, 3, 0)) := rfl
theorem r53_14 (d : Nat) (a : Nat) (ls : tm_Lo) (st : List Value) (G : tm_G) (I : Nat → Nat → Int32) (J : Nat → Nat → Int64) (R : Nat → Nat → Option Nat) (K : Option Value → tm_H → Prop) : tm_A d 53 14 ls (.ref a :: st) (G, I, J, R) K ↔ G.2.2 a = (0, 5) ∧ tm_A d 53 17 ls (.int (I a 3) :: st) (G, I, J, R) K := tm_getI o53_14
theorem o53_17 : tm_op 53 17 = some (.iconst 1, (0, 0, 0, 0)) := rfl
theorem r53_17 (d : Nat) (ls : tm_Lo) (st : List Value) (h : tm_H) (K : Option Value → tm_H → Prop) : tm_A d 53 17 ls st h K ↔ tm_A d 53 18 ls (.int (1 : Int32) :: st) h K := tm_ic o53_17 (by decide)
theorem o53_18 : tm_op 53 18 = some (.iadd, (0, 0, 0, 0)) := rfl
theorem r53_18 (d : Nat) (u v : Int32) (ls : tm_Lo) (st : List Value) (h : tm_H) (K : Option Value → tm_H → Prop) : tm_A d 53 18 ls (.int u :: .int v :: st) h K ↔ tm_A d 53 19 ls (.int (v + u) :: st) h K := tm_s o53_18 rfl rfl rfl
theorem o53_19 : tm_op 53 19 = some (.putfield 28, (0, 5, 3, 0)) := rfl
theorem r53_19 (d : Nat) (v : Int32) (a : Nat) (ls : tm_Lo) (st : List Value) (G : tm_G) (I : Nat → Nat → Int32) (J : Nat → Nat → Int64) (R : Nat → Nat → Option Nat) (K : Option Value → tm_H → Prop) : tm_A d 53 19 ls (.int v :: .ref a :: st) (G, I, J, R) K ↔ G.2.2 a = (0, 5) ∧ tm_A d 53 22 ls st (G, up2 I a 3 v, J, R) K := tm_putI o53_19
theorem o53_22 : tm_op 53 22 = some (.iload_n 3, (0, 0, 0, 0)) := rfl
theorem r53_22 (d : Nat) (v : Int32) (l0 l1 l2 : Option Value) (st : List Value) (h : tm_H) (K : Option Value → tm_H → Prop) : tm_A d 53 22 [l0, l1, l2, some (.int v)] st h K ↔ tm_A d 53 23 [l0, l1, l2, some (.int v)] (.int v :: st) h K := tm_s o53_22 rfl rfl rfl
theorem o53_23 : tm_op 53 23 = some (.ireturn, (0, 0, 0, 0)) := rfl
theorem r53_23 (d : Nat) (v : Int32) (ls : tm_Lo) (h : tm_H) (K : Option Value → tm_H → Prop) : tm_A d 53 23 ls [.int v] h K ↔ K (some (.int v)) h := tm_reti o53_23 rfl
theorem o54_0 : tm_op 54 0 = some (.aload_n 0, (0, 0, 0, 0)) := rfl
theorem r54_0 (d : Nat) (v : Nat) (l1 l2 l3 : Option Value) (st : List Value) (h : tm_H) (K : Option Value → tm_H → Prop) : tm_A d 54 0 [some (.ref v), l1, l2, l3] st h K ↔ tm_A d 54 1 [some (.ref v), l1, l2, l3] (.ref v :: st) h K := tm_s o54_0 rfl rfl rfl
theorem o54_1 : tm_op 54 1 = some (.iload_n 1, (0, 0, 0, 0)) := rfl
theorem r54_1 (d : Nat) (v : Int32) (l0 l2 l3 : Option Value) (st : List Value) (h : tm_H) (K : Option Value → tm_H → Prop) : tm_A d 54 1 [l0, some (.int v), l2, l3] st h K ↔ tm_A d 54 2 [l0, some (.int v), l2, l3] (.int v :: st) h K := tm_s o54_1 rfl rfl rfl
theorem o54_2 : tm_op 54 2 = some (.iload_n 2, (0, 0, 0, 0)) := rfl
theorem r54_2 (d : Nat) (v : Int32) (l0 l1 l3 : Option Value) (st : List Value) (h : tm_H) (K : Option Value → tm_H → Prop) : tm_A d 54 2 [l0, l1, some (.int v), l3] st h K ↔ tm_A d 54 3 [l0, l1, some (.int v), l3] (.int v :: st) h K := tm_s o54_2 rfl rfl rfl
theorem o54_3 : tm_op 54 3 = some (.aload_n 3, (0, 0, 0, 0)) := rfl
theorem r54_3 (d : Nat) (v : Nat) (l0 l1 l2 : Option Value) (st : List Value) (h : tm_H) (K : Option Value → tm_H → Prop) : tm_A d 54 3 [l0, l1, l2, some (.ref v)] st h K ↔ tm_A d 54 4 [l0, l1, l2, some (.ref v)] (.ref v :: st) h K := tm_s o54_3 rfl rfl rfl
theorem r54_3n (d : Nat)  (l0 l1 l2 : Option Value) (st : List Value) (h : tm_H) (K : Option Value → tm_H → Prop) : tm_A d 54 3 [l0, l1, l2, some .null] st h K ↔ tm_A d 54 4 [l0, l1, l2, some .null] (.null :: st) h K := tm_s o54_3 rfl rfl rfl
theorem o54_4 : tm_op 54 4 = some (.invokevirtual 38, (2, 56, 4, 5)) := rfl
theorem r54_4 (d : Nat) (v1 : Int32) (v2 : Int32) (v3 : Nat) (a : Nat) (ls : tm_Lo) (st : List Value) (h : tm_H) (K : Option Value → tm_H → Prop) : tm_A (d + 1) 54 4 ls (.ref v3 :: .int v2 :: .int v1 :: .ref a :: st) h K ↔ (h.1.2.2 a = (0, 5) ∧ tm_cs st) ∧ tm_R d 56 [.ref a, .int v1, .int v2, .ref v3] h (fun r h' => tm_A (d + 1) 54 7 ls (r.toList ++ st) h' K) := tm_callV (as := [.int v1, .int v2, .ref v3]) o54_4 rfl rfl rfl rfl
theorem o54_7 : tm_op 54 7 = some (.aload_n 0, (0, 0, 0, 0)) := rfl
theorem r54_7 (d : Nat) (v : Nat) (l1 l2 l3 : Option Value) (st : List Value) (h : tm_H) (K : Option Value → tm_H → Prop) : tm_A d 54 7 [some (.ref v), l1, l2, l3] st h K ↔ tm_A d 54 8 [some (.ref v), l1, l2, l3] (.ref v :: st) h K := tm_s o54_7 rfl rfl rfl
theorem o54_8 : tm_op 54 8 = some (.dup, (0, 0, 0, 0)) := rfl
theorem r54_8 (d : Nat) (v : Nat) (ls : tm_Lo) (st : List Value) (h : tm_H) (K : Option Value → tm_H → Prop) : tm_A d 54 8 ls (.ref v :: st) h K ↔ tm_A d 54 9 ls (.ref v :: .ref v :: st) h K := tm_s o54_8 rfl rfl rfl
theorem r54_8i (d : Nat) (v : Int32) (ls : tm_Lo) (st : List Value) (h : tm_H) (K : Option Value → tm_H → Prop) : tm_A d 54 8 ls (.int v :: st) h K ↔ tm_A d 54 9 ls (.int v :: .int v :: st) h K := tm_s o54_8 rfl rfl rfl
theorem o54_9 : tm_op 54 9 = some (.getfield 31, (0, 5, 4, 0)) := rfl
theorem r54_9 (d : Nat) (a : Nat) (ls : tm_Lo) (st : List Value) (G : tm_G) (I : Nat → Nat → Int32) (J : Nat → Nat → Int64) (R : Nat → Nat → Option Nat) (K : Option Value → tm_H → Prop) : tm_A d 54 9 ls (.ref a :: st) (G, I, J, R) K ↔ G.2.2 a = (0, 5) ∧ tm_A d 54 12 ls (.int (I a 4) :: st) (G, I, J, R) K := tm_getI o54_9
theorem o54_12 : tm_op 54 12 = some (.iconst 1, (0, 0, 0, 0)) := rfl
theorem r54_12 (d : Nat) (ls : tm_Lo) (st : List Value) (h : tm_H) (K : Option Value → tm_H → Prop) : tm_A d 54 12 ls st h K ↔ tm_A d 54 13 ls (.int (1 : Int32) :: st) h K := tm_ic o54_12 (by decide)
theorem o54_13 : tm_op 54 13 = some (.iadd, (0, 0, 0, 0)) := rfl
theorem r54_13 (d : Nat) (u v : Int32) (ls : tm_Lo) (st : List Value) (h : tm_H) (K : Option Value → tm_H → Prop) : tm_A d 54 13 ls (.int u :: .int v :: st) h K ↔ tm_A d 54 14 ls (.int (v + u) :: st) h K := tm_s o54_13 rfl rfl rfl
theorem o54_14 : tm_op 54 14 = some (.putfield 31, (0, 5, 4, 0)) := rfl
theorem r54_14 (d : Nat) (v : Int32) (a : Nat) (ls : tm_Lo) (st : List Value) (G : tm_G) (I : Nat → Nat → Int32) (J : Nat → Nat → Int64) (R : Nat → Nat → Option Nat) (K : Option Value → tm_H → Prop) : tm_A d 54 14 ls (.int v :: .ref a :: st) (G, I, J, R) K ↔ G.2.2 a = (0, 5) ∧ tm_A d 54 17 ls st (G, up2 I a 4 v, J, R) K := tm_putI o54_14
theorem o54_17 : tm_op 54 17 = some (.return_, (0, 0, 0, 0)) := rfl
theorem r54_17 (d : Nat) (ls : tm_Lo) (h : tm_H) (K : Option Value → tm_H → Prop) : tm_A d 54 17 ls [] h K ↔ K none h := tm_retv o54_17 rfl
theorem o55_0 : tm_op 55 0 = some (.aload_n 0, (0, 0, 0, 0)) := rfl
theorem r55_0 (d : Nat) (v : Nat) (l1 l2 l3 : Option Value) (st : List Value) (h : tm_H) (K : Option Value → tm_H → Prop) : tm_A d 55 0 [some (.ref v), l1, l2, l3] st h K ↔ tm_A d 55 1 [some (.ref v), l1, l2, l3] (.ref v :: st) h K := tm_s o55_0 rfl rfl rfl
theorem o55_1 : tm_op 55 1 = some (.new 11, (0, 8, 4, 0)) := rfl
theorem r55_1 (d : Nat) (ls : tm_Lo) (st : List Value) (G : tm_G) (I : Nat → Nat → Int32) (J : Nat → Nat → Int64) (R : Nat → Nat → Option Nat) (K : Option Value → tm_H → Prop) : tm_A d 55 1 ls st (G, I, J, R) K ↔ tm_A d 55 4 ls (.ref G.1 :: st) (tm_nw (0, 8) 4 (G, I, J, R)) K := tm_s o55_1 rfl rfl rfl
theorem o55_4 : tm_op 55 4 = some (.dup, (0, 0, 0, 0)) := rfl
theorem r55_4 (d : Nat) (v : Nat) (ls : tm_Lo) (st : List Value) (h : tm_H) (K : Option Value → tm_H → Prop) : tm_A d 55 4 ls (.ref v :: st) h K ↔ tm_A d 55 5 ls (.ref v :: .ref v :: st) h K := tm_s o55_4 rfl rfl rfl
theorem r55_4i (d : Nat) (v : Int32) (ls : tm_Lo) (st : List Value) (h : tm_H) (K : Option Value → tm_H → Prop) : tm_A d 55 4 ls (.int v :: st) h K ↔ tm_A d 55 5 ls (.int v :: .int v :: st) h K := tm_s o55_4 rfl rfl rfl
theorem o55_5 : tm_op 55 5 = some (.iload_n 1, (0, 0, 0, 0)) := rfl
theorem r55_5 (d : Nat) (v : Int32) (l0 l2 l3 : Option Value) (st : List Value) (h : tm_H) (K : Option Value → tm_H → Prop) : tm_A d 55 5 [l0, some (.int v), l2, l3] st h K ↔ tm_A d 55 6 [l0, some (.int v), l2, l3] (.int v :: st) h K := tm_s o55_5 rfl rfl rfl
theorem o55_6 : tm_op 55 6 = some (.iload_n 2, (0, 0, 0, 0)) := rfl
theorem r55_6 (d : Nat) (v : Int32) (l0 l1 l3 : Option Value) (st : List Value) (h : tm_H) (K : Option Value → tm_H → Prop) : tm_A d 55 6 [l0, l1, some (.int v), l3] st h K ↔ tm_A d 55 7 [l0, l1, some (.int v), l3] (.int v :: st) h K := tm_s o55_6 rfl rfl rfl
theorem o55_7 : tm_op 55 7 = some (.iconst 1, (0, 0, 0, 0)) := rfl
theorem r55_7 (d : Nat) (ls : tm_Lo) (st : List Value) (h : tm_H) (K : Option Value → tm_H → Prop) : tm_A d 55 7 ls st h K ↔ tm_A d 55 8 ls (.int (1 : Int32) :: st) h K := tm_ic o55_7 (by decide)
theorem o55_8 : tm_op 55 8 = some (.iload_n 3, (0, 0, 0, 0)) := rfl
theorem r55_8 (d : Nat) (v : Int32) (l0 l1 l2 : Option Value) (st : List Value) (h : tm_H) (K : Option Value → tm_H → Prop) : tm_A d 55 8 [l0, l1, l2, some (.int v)] st h K ↔ tm_A d 55 9 [l0, l1, l2, some (.int v)] (.int v :: st) h K := tm_s o55_8 rfl rfl rfl
theorem o55_9 : tm_op 55 9 = some (.ishl, (0, 0, 0, 0)) := rfl
theorem r55_9 (d : Nat) (u v : Int32) (ls : tm_Lo) (st : List Value) (h : tm_H) (K : Option Value → tm_H → Prop) : tm_A d 55 9 ls (.int u :: .int v :: st) h K ↔ tm_A d 55 10 ls (.int (v <<< (u &&& 31)) :: st) h K := tm_s o55_9 rfl rfl rfl
theorem o55_10 : tm_op 55 10 = some (.aload_n 0, (0, 0, 0, 0)) := rfl
theorem r55_10 (d : Nat) (v : Nat) (l1 l2 l3 : Option Value) (st : List Value) (h : tm_H) (K : Option Value → tm_H → Prop) : tm_A d 55 10 [some (.ref v), l1, l2, l3] st h K ↔ tm_A d 55 11 [some (.ref v), l1, l2, l3] (.ref v :: st) h K := tm_s o55_10 rfl rfl rfl
theorem o55_11 : tm_op 55 11 = some (.getfield 20, (2, 5, 1, 0)) := rfl
theorem r55_11 (d : Nat) (a : Nat) (ls : tm_Lo) (st : List Value) (G : tm_G) (I : Nat → Nat → Int32) (J : Nat → Nat → Int64) (R : Nat → Nat → Option Nat) (K : Option Value → tm_H → Prop) : tm_A d 55 11 ls (.ref a :: st) (G, I, J, R) K ↔ G.2.2 a = (0, 5) ∧ tm_A d 55 14 ls (tm_rf (R a 1) :: st) (G, I, J, R) K := tm_getR o55_11
theorem o55_14 : tm_op 55 14 = some (.invokespecial 42, (3, 84, 5, 0)) := rfl
theorem r55_14 (d : Nat) (v1 : Int32) (v2 : Int32) (v3 : Int32) (v4 : Nat) (a : Nat) (ls : tm_Lo) (st : List Value) (h : tm_H) (K : Option Value → tm_H → Prop) : tm_A (d + 1) 55 14 ls (.ref v4 :: .int v3 :: .int v2 :: .int v1 :: .ref a :: st) h K ↔ tm_cs st ∧ tm_R d 84 [.ref a, .int v1, .int v2, .int v3, .ref v4] h (fun r h' => tm_A (d + 1) 55 17 ls (r.toList ++ st) h' K) := tm_callI (as := [.int v1, .int v2, .int v3, .ref v4]) o55_14 rfl rfl rfl rfl
theorem o55_17 : tm_op 55 17 = some (.invokevirtual 45, (2, 57, 2, 5)) := rfl
theorem r55_17 (d : Nat) (v1 : Nat) (a : Nat) (ls : tm_Lo) (st : List Value) (h : tm_H) (K : Option Value → tm_H → Prop) : tm_A (d + 1) 55 17 ls (.ref v1 :: .ref a :: st) h K ↔ (h.1.2.2 a = (0, 5) ∧ tm_cs st) ∧ tm_R d 57 [.ref a, .ref v1] h (fun r h' => tm_A (d + 1) 55 20 ls (r.toList ++ st) h' K) := tm_callV (as := [.ref v1]) o55_17 rfl rfl rfl rfl
theorem o55_20 : tm_op 55 20 = some (.aload_n 0, (0, 0, 0, 0)) := rfl
theorem r55_20 (d : Nat) (v : Nat) (l1 l2 l3 : Option Value) (st : List Value) (h : tm_H) (K : Option Value → tm_H → Prop) : tm_A d 55 20 [some (.ref v), l1, l2, l3] st h K ↔ tm_A d 55 21 [some (.ref v), l1, l2, l3] (.ref v :: st) h K := tm_s o55_20 rfl rfl rfl
theorem o55_21 : tm_op 55 21 = some (.dup, (0, 0, 0, 0)) := rfl
theorem r55_21 (d : Nat) (v : Nat) (ls : tm_Lo) (st : List Value) (h : tm_H) (K : Option Value → tm_H → Prop) : tm_A d 55 21 ls (.ref v :: st) h K ↔ tm_A d 55 22 ls (.ref v :: .ref v :: st) h K := tm_s o55_21 rfl rfl rfl
theorem r55_21i (d : Nat) (v : Int32) (ls : tm_Lo) (st : List Value) (h : tm_H) (K : Option Value → tm_H → Prop) : tm_A d 55 21 ls (.int v :: st) h K ↔ tm_A d 55 22 ls (.int v :: .int v :: st) h K := tm_s o55_21 rfl rfl rfl
theorem o55_22 : tm_op 55 22 = some (.getfield 31, (0, 5, 4, 0)) := rfl
theorem r55_22 (d : Nat) (a : Nat) (ls : tm_Lo) (st : List Value) (G : tm_G) (I : Nat → Nat → Int32) (J : Nat → Nat → Int64) (R : Nat → Nat → Option Nat) (K : Option Value → tm_H → Prop) : tm_A d 55 22 ls (.ref a :: st) (G, I, J, R) K ↔ G.2.2 a = (0, 5) ∧ tm_A d 55 25 ls (.int (I a 4) :: st) (G, I, J, R) K := tm_getI o55_22
theorem o55_25 : tm_op 55 25 = some (.iconst 1, (0, 0, 0, 0)) := rfl
theorem r55_25 (d : Nat) (ls : tm_Lo) (st : List Value) (h : tm_H) (K : Option Value → tm_H → Prop) : tm_A d 55 25 ls st h K ↔ tm_A d 55 26 ls (.int (1 : Int32) :: st) h K := tm_ic o55_25 (by decide)
theorem o55_26 : tm_op 55 26 = some (.iadd, (0, 0, 0, 0)) := rfl
theorem r55_26 (d : Nat) (u v : Int32) (ls : tm_Lo) (st : List Value) (h : tm_H) (K : Option Value → tm_H → Prop) : tm_A d 55 26 ls (.int u :: .int v :: st) h K ↔ tm_A d 55 27 ls (.int (v + u) :: st) h K := tm_s o55_26 rfl rfl rfl
theorem o55_27 : tm_op 55 27 = some (.putfield 31, (0, 5, 4, 0)) := rfl
theorem r55_27 (d : Nat) (v : Int32) (a : Nat) (ls : tm_Lo) (st : List Value) (G : tm_G) (I : Nat → Nat → Int32) (J : Nat → Nat → Int64) (R : Nat → Nat → Option Nat) (K : Option Value → tm_H → Prop) : tm_A d 55 27 ls (.int v :: .ref a :: st) (G, I, J, R) K ↔ G.2.2 a = (0, 5) ∧ tm_A d 55 30 ls st (G, up2 I a 4 v, J, R) K := tm_putI o55_27
theorem o55_30 : tm_op 55 30 = some (.return_, (0, 0, 0, 0)) := rfl
theorem r55_30 (d : Nat) (ls : tm_Lo) (h : tm_H) (K : Option Value → tm_H → Prop) : tm_A d 55 30 ls [] h K ↔ K none h := tm_retv o55_30 rfl
theorem o56_0 : tm_op 56 0 = some (.new 17, (0, 0, 4, 0)) := rfl
theorem r56_0 (d : Nat) (ls : tm_Lo) (st : List Value) (G : tm_G) (I : Nat → Nat → Int32) (J : Nat → Nat → Int64) (R : Nat → Nat → Option Nat) (K : Option Value → tm_H → Prop) : tm_A d 56 0 ls st (G, I, J, R) K ↔ tm_A d 56 3 ls (.ref G.1 :: st) (tm_nw (0, 0) 4 (G, I, J, R)) K := tm_s o56_0 rfl rfl rfl
theorem o56_3 : tm_op 56 3 = some (.dup, (0, 0, 0, 0)) := rfl
theorem r56_3 (d : Nat) (v : Nat) (ls : tm_Lo) (st : List Value) (h : tm_H) (K : Option Value → tm_H → Prop) : tm_A d 56 3 ls (.ref v :: st) h K ↔ tm_A d 56 4 ls (.ref v :: .ref v :: st) h K := tm_s o56_3 rfl rfl rfl
theorem r56_3i (d : Nat) (v : Int32) (ls : tm_Lo) (st : List Value) (h : tm_H) (K : Option Value → tm_H → Prop) : tm_A d 56 3 ls (.int v :: st) h K ↔ tm_A d 56 4 ls (.int v :: .int v :: st) h K := tm_s o56_3 rfl rfl rfl
theorem o56_4 : tm_op 56 4 = some (.invokespecial 19, (3, 0, 1, 0)) := rfl
theorem r56_4 (d : Nat) (a : Nat) (ls : tm_Lo) (st : List Value) (h : tm_H) (K : Option Value → tm_H → Prop) : tm_A (d + 1) 56 4 ls (.ref a :: st) h K ↔ tm_cs st ∧ tm_R d 0 [.ref a] h (fun r h' => tm_A (d + 1) 56 7 ls (r.toList ++ st) h' K) := tm_callI (as := []) o56_4 rfl rfl rfl rfl
theorem o56_7 : tm_op 56 7 = some (.astore 4, (0, 0, 0, 0)) := rfl
theorem r56_7 (d : Nat) (v : Nat) (l0 l1 l2 l3 l4 : Option Value) (st : List Value) (h : tm_H) (K : Option Value → tm_H → Prop) : tm_A d 56 7 [l0, l1, l2, l3, l4] (.ref v :: st) h K ↔ tm_A d 56 9 [l0, l1, l2, l3, some (.ref v)] st h K := tm_s o56_7 rfl rfl rfl
theorem r56_7n (d : Nat)  (l0 l1 l2 l3 l4 : Option Value) (st : List Value) (h : tm_H) (K : Option Value → tm_H → Prop) : tm_A d 56 7 [l0, l1, l2, l3, l4] (.null :: st) h K ↔ tm_A d 56 9 [l0, l1, l2, l3, some .null] st h K := tm_s o56_7 rfl rfl rfl
theorem o56_9 : tm_op 56 9 = some (.aload 4, (0, 0, 0, 0)) := rfl
theorem r56_9 (d : Nat) (v : Nat) (l0 l1 l2 l3 : Option Value) (st : List Value) (h : tm_H) (K : Option Value → tm_H → Prop) : tm_A d 56 9 [l0, l1, l2, l3, some (.ref v)] st h K ↔ tm_A d 56 11 [l0, l1, l2, l3, some (.ref v)] (.ref v :: st) h K := tm_s o56_9 rfl rfl rfl
theorem r56_9n (d : Nat)  (l0 l1 l2 l3 : Option Value) (st : List Value) (h : tm_H) (K : Option Value → tm_H → Prop) : tm_A d 56 9 [l0, l1, l2, l3, some .null] st h K ↔ tm_A d 56 11 [l0, l1, l2, l3, some .null] (.null :: st) h K := tm_s o56_9 rfl rfl rfl
theorem o56_11 : tm_op 56 11 = some (.aload_n 3, (0, 0, 0, 0)) := rfl
theorem r56_11 (d : Nat) (v : Nat) (l0 l1 l2 l4 : Option Value) (st : List Value) (h : tm_H) (K : Option Value → tm_H → Prop) : tm_A d 56 11 [l0, l1, l2, some (.ref v), l4] st h K ↔ tm_A d 56 12 [l0, l1, l2, some (.ref v), l4] (.ref v :: st) h K := tm_s o56_11 rfl rfl rfl
theorem r56_11n (d : Nat)  (l0 l1 l2 l4 : Option Value) (st : List Value) (h : tm_H) (K : Option Value → tm_H → Prop) : tm_A d 56 11 [l0, l1, l2, some .null, l4] st h K ↔ tm_A d 56 12 [l0, l1, l2, some .null, l4] (.null :: st) h K := tm_s o56_11 rfl rfl rfl
theorem o56_12 : tm_op 56 12 = some (.bipush 31, (0, 0, 0, 0)) := rfl
theorem r56_12 (d : Nat) (ls : tm_Lo) (st : List Value) (h : tm_H) (K : Option Value → tm_H → Prop) : tm_A d 56 12 ls st h K ↔ tm_A d 56 14 ls (.int (31 : Int32) :: st) h K := tm_bp o56_12 (by decide)
theorem o56_14 : tm_op 56 14 = some (.invokevirtual 49, (2, 12, 3, 0)) := rfl
theorem r56_14 (d : Nat) (v1 : Nat) (v2 : Int32) (a : Nat) (ls : tm_Lo) (st : List Value) (h : tm_H) (K : Option Value → tm_H → Prop) : tm_A (d + 1) 56 14 ls (.int v2 :: .ref v1 :: .ref a :: st) h K ↔ (h.1.2.2 a = (0, 0) ∧ tm_cs st) ∧ tm_R d 12 [.ref a, .ref v1, .int v2] h (fun r h' => tm_A (d + 1) 56 17 ls (r.toList ++ st) h' K) := tm_callV (as := [.ref v1, .int v2]) o56_14 rfl rfl rfl rfl
theorem o56_17 : tm_op 56 17 = some (.aload_n 0, (0, 0, 0, 0)) := rfl
theorem r56_17 (d : Nat) (v : Nat) (l1 l2 l3 l4 : Option Value) (st : List Value) (h : tm_H) (K : Option Value → tm_H → Prop) : tm_A d 56 17 [some (.ref v), l1, l2, l3, l4] st h K ↔ tm_A d 56 18 [some (.ref v), l1, l2, l3, l4] (.ref v :: st) h K := tm_s o56_17 rfl rfl rfl
theorem o56_18 : tm_op 56 18 = some (.new 11, (0, 8, 4, 0)) := rfl
theorem r56_18 (d : Nat) (ls : tm_Lo) (st : List Value) (G : tm_G) (I : Nat → Nat → Int32) (J : Nat → Nat → Int64) (R : Nat → Nat → Option Nat) (K : Option Value → tm_H → Prop) : tm_A d 56 18 ls st (G, I, J, R) K ↔ tm_A d 56 21 ls (.ref G.1 :: st) (tm_nw (0, 8) 4 (G, I, J, R)) K := tm_s o56_18 rfl rfl rfl
theorem o56_21 : tm_op 56 21 = some (.dup, (0, 0, 0, 0)) := rfl
theorem r56_21 (d : Nat) (v : Nat) (ls : tm_Lo) (st : List Value) (h : tm_H) (K : Option Value → tm_H → Prop) : tm_A d 56 21 ls (.ref v :: st) h K ↔ tm_A d 56 22 ls (.ref v :: .ref v :: st) h K := tm_s o56_21 rfl rfl rfl
theorem r56_21i (d : Nat) (v : Int32) (ls : tm_Lo) (st : List Value) (h : tm_H) (K : Option Value → tm_H → Prop) : tm_A d 56 21 ls (.int v :: st) h K ↔ tm_A d 56 22 ls (.int v :: .int v :: st) h K := tm_s o56_21 rfl rfl rfl
theorem o56_22 : tm_op 56 22 = some (.iload_n 1, (0, 0, 0, 0)) := rfl
theorem r56_22 (d : Nat) (v : Int32) (l0 l2 l3 l4 : Option Value) (st : List Value) (h : tm_H) (K : Option Value → tm_H → Prop) : tm_A d 56 22 [l0, some (.int v), l2, l3, l4] st h K ↔ tm_A d 56 23 [l0, some (.int v), l2, l3, l4] (.int v :: st) h K := tm_s o56_22 rfl rfl rfl
theorem o56_23 : tm_op 56 23 = some (.iload_n 2, (0, 0, 0, 0)) := rfl
theorem r56_23 (d : Nat) (v : Int32) (l0 l1 l3 l4 : Option Value) (st : List Value) (h : tm_H) (K : Option Value → tm_H → Prop) : tm_A d 56 23 [l0, l1, some (.int v), l3, l4] st h K ↔ tm_A d 56 24 [l0, l1, some (.int v), l3, l4] (.int v :: st) h K := tm_s o56_23 rfl rfl rfl
theorem o56_24 : tm_op 56 24 = some (.aload 4, (0, 0, 0, 0)) := rfl
theorem r56_24 (d : Nat) (v : Nat) (l0 l1 l2 l3 : Option Value) (st : List Value) (h : tm_H) (K : Option Value → tm_H → Prop) : tm_A d 56 24 [l0, l1, l2, l3, some (.ref v)] st h K ↔ tm_A d 56 26 [l0, l1, l2, l3, some (.ref v)] (.ref v :: st) h K := tm_s o56_24 rfl rfl rfl
theorem r56_24n (d : Nat)  (l0 l1 l2 l3 : Option Value) (st : List Value) (h : tm_H) (K : Option Value → tm_H → Prop) : tm_A d 56 24 [l0, l1, l2, l3, some .null] st h K ↔ tm_A d 56 26 [l0, l1, l2, l3, some .null] (.null :: st) h K := tm_s o56_24 rfl rfl rfl
theorem o56_26 : tm_op 56 26 = some (.invokevirtual 53, (2, 2, 1, 0)) := rfl
theorem r56_26 (d : Nat) (a : Nat) (ls : tm_Lo) (st : List Value) (h : tm_H) (K : Option Value → tm_H → Prop) : tm_A (d + 1) 56 26 ls (.ref a :: st) h K ↔ (h.1.2.2 a = (0, 0) ∧ tm_cs st) ∧ tm_R d 2 [.ref a] h (fun r h' => tm_A (d + 1) 56 29 ls (r.toList ++ st) h' K) := tm_callV (as := []) o56_26 rfl rfl rfl rfl
theorem o56_29 : tm_op 56 29 = some (.aload 4, (0, 0, 0, 0)) := rfl
theorem r56_29 (d : Nat) (v : Nat) (l0 l1 l2 l3 : Option Value) (st : List Value) (h : tm_H) (K : Option Value → tm_H → Prop) : tm_A d 56 29 [l0, l1, l2, l3, some (.ref v)] st h K ↔ tm_A d 56 31 [l0, l1, l2, l3, some (.ref v)] (.ref v :: st) h K := tm_s o56_29 rfl rfl rfl
theorem r56_29n (d : Nat)  (l0 l1 l2 l3 : Option Value) (st : List Value) (h : tm_H) (K : Option Value → tm_H → Prop) : tm_A d 56 29 [l0, l1, l2, l3, some .null] st h K ↔ tm_A d 56 31 [l0, l1, l2, l3, some .null] (.null :: st) h K := tm_s o56_29 rfl rfl rfl
theorem o56_31 : tm_op 56 31 = some (.invokespecial 42, (3, 84, 5, 0)) := rfl
theorem r56_31 (d : Nat) (v1 : Int32) (v2 : Int32) (v3 : Int32) (v4 : Nat) (a : Nat) (ls : tm_Lo) (st : List Value) (h : tm_H) (K : Option Value → tm_H → Prop) : tm_A (d + 1) 56 31 ls (.ref v4 :: .int v3 :: .int v2 :: .int v1 :: .ref a :: st) h K ↔ tm_cs st ∧ tm_R d 84 [.ref a, .int v1, .int v2, .int v3, .ref v4] h (fun r h' => tm_A (d + 1) 56 34 ls (r.toList ++ st) h' K) := tm_callI (as := [.int v1, .int v2, .int v3, .ref v4]) o56_31 rfl rfl rfl rfl
theorem o56_34 : tm_op 56 34 = some (.invokevirtual 45, (2, 57, 2, 5)) := rfl
theorem r56_34 (d : Nat) (v1 : Nat) (a : Nat) (ls : tm_Lo) (st : List Value) (h : tm_H) (K : Option Value → tm_H → Prop) : tm_A (d + 1) 56 34 ls (.ref v1 :: .ref a :: st) h K ↔ (h.1.2.2 a = (0, 5) ∧ tm_cs st) ∧ tm_R d 57 [.ref a, .ref v1] h (fun r h' => tm_A (d + 1) 56 37 ls (r.toList ++ st) h' K) := tm_callV (as := [.ref v1]) o56_34 rfl rfl rfl rfl
theorem o56_37 : tm_op 56 37 = some (.return_, (0, 0, 0, 0)) := rfl
theorem r56_37 (d : Nat) (ls : tm_Lo) (h : tm_H) (K : Option Value → tm_H → Prop) : tm_A d 56 37 ls [] h K ↔ K none h := tm_retv o56_37 rfl
theorem o57_0 : tm_op 57 0 = some (.aload_n 0, (0, 0, 0, 0)) := rfl
theorem r57_0 (d : Nat) (v : Nat) (l1 : Option Value) (st : List Value) (h : tm_H) (K : Option Value → tm_H → Prop) : tm_A d 57 0 [some (.ref v), l1] st h K ↔ tm_A d 57 1 [some (.ref v), l1] (.ref v :: st) h K := tm_s o57_0 rfl rfl rfl
theorem o57_1 : tm_op 57 1 = some (.getfield 24, (0, 5, 2, 0)) := rfl
theorem r57_1 (d : Nat) (a : Nat) (ls : tm_Lo) (st : List Value) (G : tm_G) (I : Nat → Nat → Int32) (J : Nat → Nat → Int64) (R : Nat → Nat → Option Nat) (K : Option Value → tm_H → Prop) : tm_A d 57 1 ls (.ref a :: st) (G, I, J, R) K ↔ G.2.2 a = (0, 5) ∧ tm_A d 57 4 ls (.int (I a 2) :: st) (G, I, J, R) K := tm_getI o57_1
theorem o57_4 : tm_op 57 4 = some (.bipush 70, (0, 0, 0, 0)) := rfl
theorem r57_4 (d : Nat) (ls : tm_Lo) (st : List Value) (h : tm_H) (K : Option Value → tm_H → Prop) : tm_A d 57 4 ls st h K ↔ tm_A d 57 6 ls (.int (70 : Int32) :: st) h K := tm_bp o57_4 (by decide)
theorem o57_6 : tm_op 57 6 = some (.if_icmp .ge 23, (0, 0, 0, 0)) := rfl
theorem r57_6 (d : Nat) (y x : Int32) (ls : tm_Lo) (st : List Value) (h : tm_H) (K : Option Value → tm_H → Prop) : tm_A d 57 6 ls (.int y :: .int x :: st) h K ↔ if y ≤ x then tm_A d 57 29 ls st h K else tm_A d 57 9 ls st h K := tm_b o57_6 rfl rfl rfl rfl
theorem o57_9 : tm_op 57 9 = some (.aload_n 0, (0, 0, 0, 0)) := rfl
theorem r57_9 (d : Nat) (v : Nat) (l1 : Option Value) (st : List Value) (h : tm_H) (K : Option Value → tm_H → Prop) : tm_A d 57 9 [some (.ref v), l1] st h K ↔ tm_A d 57 10 [some (.ref v), l1] (.ref v :: st) h K := tm_s o57_9 rfl rfl rfl
theorem o57_10 : tm_op 57 10 = some (.getfield 13, (2, 5, 0, 0)) := rfl
theorem r57_10 (d : Nat) (a : Nat) (ls : tm_Lo) (st : List Value) (G : tm_G) (I : Nat → Nat → Int32) (J : Nat → Nat → Int64) (R : Nat → Nat → Option Nat) (K : Option Value → tm_H → Prop) : tm_A d 57 10 ls (.ref a :: st) (G, I, J, R) K ↔ G.2.2 a = (0, 5) ∧ tm_A d 57 13 ls (tm_rf (R a 0) :: st) (G, I, J, R) K := tm_getR o57_10
theorem o57_13 : tm_op 57 13 = some (.aload_n 0, (0, 0, 0, 0)) := rfl
theorem r57_13 (d : Nat) (v : Nat) (l1 : Option Value) (st : List Value) (h : tm_H) (K : Option Value → tm_H → Prop) : tm_A d 57 13 [some (.ref v), l1] st h K ↔ tm_A d 57 14 [some (.ref v), l1] (.ref v :: st) h K := tm_s o57_13 rfl rfl rfl
theorem o57_14 : tm_op 57 14 = some (.getfield 24, (0, 5, 2, 0)) := rfl
theorem r57_14 (d : Nat) (a : Nat) (ls : tm_Lo) (st : List Value) (G : tm_G) (I : Nat → Nat → Int32) (J : Nat → Nat → Int64) (R : Nat → Nat → Option Nat) (K : Option Value → tm_H → Prop) : tm_A d 57 14 ls (.ref a :: st) (G, I, J, R) K ↔ G.2.2 a = (0, 5) ∧ tm_A d 57 17 ls (.int (I a 2) :: st) (G, I, J, R) K := tm_getI o57_14
theorem o57_17 : tm_op 57 17 = some (.aload_n 1, (0, 0, 0, 0)) := rfl
theorem r57_17 (d : Nat) (v : Nat) (l0 : Option Value) (st : List Value) (h : tm_H) (K : Option Value → tm_H → Prop) : tm_A d 57 17 [l0, some (.ref v)] st h K ↔ tm_A d 57 18 [l0, some (.ref v)] (.ref v :: st) h K := tm_s o57_17 rfl rfl rfl
theorem r57_17n (d : Nat)  (l0 : Option Value) (st : List Value) (h : tm_H) (K : Option Value → tm_H → Prop) : tm_A d 57 17 [l0, some .null] st h K ↔ tm_A d 57 18 [l0, some .null] (.null :: st) h K := tm_s o57_17 rfl rfl rfl
theorem o57_18 : tm_op 57 18 = some (.aastore, (0, 0, 0, 0)) := rfl
theorem r57_18 (d : Nat) (u : Nat) (v : Int32) (a : Nat) (ls : tm_Lo) (st : List Value) (G : tm_G) (I : Nat → Nat → Int32) (J : Nat → Nat → Int64) (R : Nat → Nat → Option Nat) (K : Option Value → tm_H → Prop) : tm_A d 57 18 ls (.ref u :: .int v :: .ref a :: st) (G, I, J, R) K ↔ (3 ≤ a ∧ (((G.2.2 a).1 = 4 ∧ G.2.2 u = (0, 8)) ∨ ((G.2.2 a).1 = 5 ∧ G.2.2 u = (0, 0))) ∧ tm_in v (G.2.2 a).2) ∧ tm_A d 57 19 ls st (G, I, J, up2 R a (tm_ix v) (some u)) K := tm_aast o57_18
theorem o57_19 : tm_op 57 19 = some (.aload_n 0, (0, 0, 0, 0)) := rfl
theorem r57_19 (d : Nat) (v : Nat) (l1 : Option Value) (st : List Value) (h : tm_H) (K : Option Value → tm_H → Prop) : tm_A d 57 19 [some (.ref v), l1] st h K ↔ tm_A d 57 20 [some (.ref v), l1] (.ref v :: st) h K := tm_s o57_19 rfl rfl rfl
theorem o57_20 : tm_op 57 20 = some (.dup, (0, 0, 0, 0)) := rfl
theorem r57_20 (d : Nat) (v : Nat) (ls : tm_Lo) (st : List Value) (h : tm_H) (K : Option Value → tm_H → Prop) : tm_A d 57 20 ls (.ref v :: st) h K ↔ tm_A d 57 21 ls (.ref v :: .ref v :: st) h K := tm_s o57_20 rfl rfl rfl
theorem r57_20i (d : Nat) (v : Int32) (ls : tm_Lo) (st : List Value) (h : tm_H) (K : Option Value → tm_H → Prop) : tm_A d 57 20 ls (.int v :: st) h K ↔ tm_A d 57 21 ls (.int v :: .int v :: st) h K := tm_s o57_20 rfl rfl rfl
theorem o57_21 : tm_op 57 21 = some (.getfield 24, (0, 5, 2, 0)) := rfl
theorem r57_21 (d : Nat) (a : Nat) (ls : tm_Lo) (st : List Value) (G : tm_G) (I : Nat → Nat → Int32) (J : Nat → Nat → Int64) (R : Nat → Nat → Option Nat) (K : Option Value → tm_H → Prop) : tm_A d 57 21 ls (.ref a :: st) (G, I, J, R) K ↔ G.2.2 a = (0, 5) ∧ tm_A d 57 24 ls (.int (I a 2) :: st) (G, I, J, R) K := tm_getI o57_21
theorem o57_24 : tm_op 57 24 = some (.iconst 1, (0, 0, 0, 0)) := rfl
theorem r57_24 (d : Nat) (ls : tm_Lo) (st : List Value) (h : tm_H) (K : Option Value → tm_H → Prop) : tm_A d 57 24 ls st h K ↔ tm_A d 57 25 ls (.int (1 : Int32) :: st) h K := tm_ic o57_24 (by decide)
theorem o57_25 : tm_op 57 25 = some (.iadd, (0, 0, 0, 0)) := rfl
theorem r57_25 (d : Nat) (u v : Int32) (ls : tm_Lo) (st : List Value) (h : tm_H) (K : Option Value → tm_H → Prop) : tm_A d 57 25 ls (.int u :: .int v :: st) h K ↔ tm_A d 57 26 ls (.int (v + u) :: st) h K := tm_s o57_25 rfl rfl rfl
theorem o57_26 : tm_op 57 26 = some (.putfield 24, (0, 5, 2, 0)) := rfl
theorem r57_26 (d : Nat) (v : Int32) (a : Nat) (ls : tm_Lo) (st : List Value) (G : tm_G) (I : Nat → Nat → Int32) (J : Nat → Nat → Int64) (R : Nat → Nat → Option Nat) (K : Option Value → tm_H → Prop) : tm_A d 57 26 ls (.int v :: .ref a :: st) (G, I, J, R) K ↔ G.2.2 a = (0, 5) ∧ tm_A d 57 29 ls st (G, up2 I a 2 v, J, R) K := tm_putI o57_26
theorem o57_29 : tm_op 57 29 = some (.return_, (0, 0, 0, 0)) := rfl
theorem r57_29 (d : Nat) (ls : tm_Lo) (h : tm_H) (K : Option Value → tm_H → Prop) : tm_A d 57 29 ls [] h K ↔ K none h := tm_retv o57_29 rfl
theorem o58_0 : tm_op 58 0 = some (.aload_n 2, (0, 0, 0, 0)) := rfl
theorem r58_0 (d : Nat) (v : Nat) (l0 l1 l3 l4 : Option Value) (st : List Value) (h : tm_H) (K : Option Value → tm_H → Prop) : tm_A d 58 0 [l0, l1, some (.ref v), l3, l4] st h K ↔ tm_A d 58 1 [l0, l1, some (.ref v), l3, l4] (.ref v :: st) h K := tm_s o58_0 rfl rfl rfl
theorem r58_0n (d : Nat)  (l0 l1 l3 l4 : Option Value) (st : List Value) (h : tm_H) (K : Option Value → tm_H → Prop) : tm_A d 58 0 [l0, l1, some .null, l3, l4] st h K ↔ tm_A d 58 1 [l0, l1, some .null, l3, l4] (.null :: st) h K := tm_s o58_0 rfl rfl rfl
theorem o58_1 : tm_op 58 1 = some (.invokevirtual 57, (2, 40, 1, 4)) := rfl
theorem r58_1 (d : Nat) (a : Nat) (ls : tm_Lo) (st : List Value) (h : tm_H) (K : Option Value → tm_H → Prop) : tm_A (d + 1) 58 1 ls (.ref a :: st) h K ↔ (h.1.2.2 a = (0, 4) ∧ tm_cs st) ∧ tm_R d 40 [.ref a] h (fun r h' => tm_A (d + 1) 58 4 ls (r.toList ++ st) h' K) := tm_callV (as := []) o58_1 rfl rfl rfl rfl
theorem o58_4 : tm_op 58 4 = some (.iconst 0, (0, 0, 0, 0)) := rfl
theorem r58_4 (d : Nat) (ls : tm_Lo) (st : List Value) (h : tm_H) (K : Option Value → tm_H → Prop) : tm_A d 58 4 ls st h K ↔ tm_A d 58 5 ls (.int (0 : Int32) :: st) h K := tm_ic o58_4 (by decide)
theorem o58_5 : tm_op 58 5 = some (.istore_n 3, (0, 0, 0, 0)) := rfl
theorem r58_5 (d : Nat) (v : Int32) (l0 l1 l2 l3 l4 : Option Value) (st : List Value) (h : tm_H) (K : Option Value → tm_H → Prop) : tm_A d 58 5 [l0, l1, l2, l3, l4] (.int v :: st) h K ↔ tm_A d 58 6 [l0, l1, l2, some (.int v), l4] st h K := tm_s o58_5 rfl rfl rfl
theorem o58_6 : tm_op 58 6 = some (.iload_n 3, (0, 0, 0, 0)) := rfl
theorem r58_6 (d : Nat) (v : Int32) (l0 l1 l2 l4 : Option Value) (st : List Value) (h : tm_H) (K : Option Value → tm_H → Prop) : tm_A d 58 6 [l0, l1, l2, some (.int v), l4] st h K ↔ tm_A d 58 7 [l0, l1, l2, some (.int v), l4] (.int v :: st) h K := tm_s o58_6 rfl rfl rfl
theorem o58_7 : tm_op 58 7 = some (.aload_n 0, (0, 0, 0, 0)) := rfl
theorem r58_7 (d : Nat) (v : Nat) (l1 l2 l3 l4 : Option Value) (st : List Value) (h : tm_H) (K : Option Value → tm_H → Prop) : tm_A d 58 7 [some (.ref v), l1, l2, l3, l4] st h K ↔ tm_A d 58 8 [some (.ref v), l1, l2, l3, l4] (.ref v :: st) h K := tm_s o58_7 rfl rfl rfl
theorem o58_8 : tm_op 58 8 = some (.getfield 24, (0, 5, 2, 0)) := rfl
theorem r58_8 (d : Nat) (a : Nat) (ls : tm_Lo) (st : List Value) (G : tm_G) (I : Nat → Nat → Int32) (J : Nat → Nat → Int64) (R : Nat → Nat → Option Nat) (K : Option Value → tm_H → Prop) : tm_A d 58 8 ls (.ref a :: st) (G, I, J, R) K ↔ G.2.2 a = (0, 5) ∧ tm_A d 58 11 ls (.int (I a 2) :: st) (G, I, J, R) K := tm_getI o58_8
theorem o58_11 : tm_op 58 11 = some (.if_icmp .ge 37, (0, 0, 0, 0)) := rfl
theorem r58_11 (d : Nat) (y x : Int32) (ls : tm_Lo) (st : List Value) (h : tm_H) (K : Option Value → tm_H → Prop) : tm_A d 58 11 ls (.int y :: .int x :: st) h K ↔ if y ≤ x then tm_A d 58 48 ls st h K else tm_A d 58 14 ls st h K := tm_b o58_11 rfl rfl rfl rfl
theorem o58_14 : tm_op 58 14 = some (.aload_n 0, (0, 0, 0, 0)) := rfl
theorem r58_14 (d : Nat) (v : Nat) (l1 l2 l3 l4 : Option Value) (st : List Value) (h : tm_H) (K : Option Value → tm_H → Prop) : tm_A d 58 14 [some (.ref v), l1, l2, l3, l4] st h K ↔ tm_A d 58 15 [some (.ref v), l1, l2, l3, l4] (.ref v :: st) h K := tm_s o58_14 rfl rfl rfl
theorem o58_15 : tm_op 58 15 = some (.getfield 13, (2, 5, 0, 0)) := rfl
theorem r58_15 (d : Nat) (a : Nat) (ls : tm_Lo) (st : List Value) (G : tm_G) (I : Nat → Nat → Int32) (J : Nat → Nat → Int64) (R : Nat → Nat → Option Nat) (K : Option Value → tm_H → Prop) : tm_A d 58 15 ls (.ref a :: st) (G, I, J, R) K ↔ G.2.2 a = (0, 5) ∧ tm_A d 58 18 ls (tm_rf (R a 0) :: st) (G, I, J, R) K := tm_getR o58_15
theorem o58_18 : tm_op 58 18 = some (.iload_n 3, (0, 0, 0, 0)) := rfl
theorem r58_18 (d : Nat) (v : Int32) (l0 l1 l2 l4 : Option Value) (st : List Value) (h : tm_H) (K : Option Value → tm_H → Prop) : tm_A d 58 18 [l0, l1, l2, some (.int v), l4] st h K ↔ tm_A d 58 19 [l0, l1, l2, some (.int v), l4] (.int v :: st) h K := tm_s o58_18 rfl rfl rfl
theorem o58_19 : tm_op 58 19 = some (.aaload, (0, 0, 0, 0)) := rfl
theorem r58_19 (d : Nat) (v : Int32) (a : Nat) (ls : tm_Lo) (st : List Value) (G : tm_G) (I : Nat → Nat → Int32) (J : Nat → Nat → Int64) (R : Nat → Nat → Option Nat) (K : Option Value → tm_H → Prop) : tm_A d 58 19 ls (.int v :: .ref a :: st) (G, I, J, R) K ↔ (((G.2.2 a).1 = 3 ∨ (G.2.2 a).1 = 4 ∨ (G.2.2 a).1 = 5) ∧ tm_in v (G.2.2 a).2) ∧ tm_A d 58 20 ls (tm_rf (R a (tm_ix v)) :: st) (G, I, J, R) K := tm_aald o58_19
theorem o58_20 : tm_op 58 20 = some (.astore 4, (0, 0, 0, 0)) := rfl
theorem r58_20 (d : Nat) (v : Nat) (l0 l1 l2 l3 l4 : Option Value) (st : List Value) (h : tm_H) (K : Option Value → tm_H → Prop) : tm_A d 58 20 [l0, l1, l2, l3, l4] (.ref v :: st) h K ↔ tm_A d 58 22 [l0, l1, l2, l3, some (.ref v)] st h K := tm_s o58_20 rfl rfl rfl
theorem r58_20n (d : Nat)  (l0 l1 l2 l3 l4 : Option Value) (st : List Value) (h : tm_H) (K : Option Value → tm_H → Prop) : tm_A d 58 20 [l0, l1, l2, l3, l4] (.null :: st) h K ↔ tm_A d 58 22 [l0, l1, l2, l3, some .null] st h K := tm_s o58_20 rfl rfl rfl
theorem o58_22 : tm_op 58 22 = some (.aload 4, (0, 0, 0, 0)) := rfl
theorem r58_22 (d : Nat) (v : Nat) (l0 l1 l2 l3 : Option Value) (st : List Value) (h : tm_H) (K : Option Value → tm_H → Prop) : tm_A d 58 22 [l0, l1, l2, l3, some (.ref v)] st h K ↔ tm_A d 58 24 [l0, l1, l2, l3, some (.ref v)] (.ref v :: st) h K := tm_s o58_22 rfl rfl rfl
theorem r58_22n (d : Nat)  (l0 l1 l2 l3 : Option Value) (st : List Value) (h : tm_H) (K : Option Value → tm_H → Prop) : tm_A d 58 22 [l0, l1, l2, l3, some .null] st h K ↔ tm_A d 58 24 [l0, l1, l2, l3, some .null] (.null :: st) h K := tm_s o58_22 rfl rfl rfl
theorem o58_24 : tm_op 58 24 = some (.ifnull 18, (0, 0, 0, 0)) := rfl
theorem r58_24 (d : Nat) (v : Nat) (ls : tm_Lo) (st : List Value) (h : tm_H) (K : Option Value → tm_H → Prop) : tm_A d 58 24 ls (.ref v :: st) h K ↔ tm_A d 58 27 ls st h K := tm_s o58_24 rfl rfl rfl
theorem r58_24n (d : Nat) (ls : tm_Lo) (st : List Value) (h : tm_H) (K : Option Value → tm_H → Prop) : tm_A d 58 24 ls (.null :: st) h K ↔ tm_A d 58 42 ls st h K := tm_s o58_24 rfl rfl rfl
theorem o58_27 : tm_op 58 27 = some (.aload 4, (0, 0, 0, 0)) := rfl
theorem r58_27 (d : Nat) (v : Nat) (l0 l1 l2 l3 : Option Value) (st : List Value) (h : tm_H) (K : Option Value → tm_H → Prop) : tm_A d 58 27 [l0, l1, l2, l3, some (.ref v)] st h K ↔ tm_A d 58 29 [l0, l1, l2, l3, some (.ref v)] (.ref v :: st) h K := tm_s o58_27 rfl rfl rfl
theorem r58_27n (d : Nat)  (l0 l1 l2 l3 : Option Value) (st : List Value) (h : tm_H) (K : Option Value → tm_H → Prop) : tm_A d 58 27 [l0, l1, l2, l3, some .null] st h K ↔ tm_A d 58 29 [l0, l1, l2, l3, some .null] (.null :: st) h K := tm_s o58_27 rfl rfl rfl
theorem o58_29 : tm_op 58 29 = some (.getfield 62, (0, 8, 1, 1)) := rfl
theorem r58_29 (d : Nat) (a : Nat) (ls : tm_Lo) (st : List Value) (G : tm_G) (I : Nat → Nat → Int32) (J : Nat → Nat → Int64) (R : Nat → Nat → Option Nat) (K : Option Value → tm_H → Prop) : tm_A d 58 29 ls (.ref a :: st) (G, I, J, R) K ↔ G.2.2 a = (0, 8) ∧ tm_A d 58 32 ls (.int (I a 1) :: st) (G, I, J, R) K := tm_getI o58_29
theorem o58_32 : tm_op 58 32 = some (.iload_n 1, (0, 0, 0, 0)) := rfl
theorem r58_32 (d : Nat) (v : Int32) (l0 l2 l3 l4 : Option Value) (st : List Value) (h : tm_H) (K : Option Value → tm_H → Prop) : tm_A d 58 32 [l0, some (.int v), l2, l3, l4] st h K ↔ tm_A d 58 33 [l0, some (.int v), l2, l3, l4] (.int v :: st) h K := tm_s o58_32 rfl rfl rfl
theorem o58_33 : tm_op 58 33 = some (.if_icmp .gt 9, (0, 0, 0, 0)) := rfl
theorem r58_33 (d : Nat) (y x : Int32) (ls : tm_Lo) (st : List Value) (h : tm_H) (K : Option Value → tm_H → Prop) : tm_A d 58 33 ls (.int y :: .int x :: st) h K ↔ if y < x then tm_A d 58 42 ls st h K else tm_A d 58 36 ls st h K := tm_b o58_33 rfl rfl rfl rfl
theorem o58_36 : tm_op 58 36 = some (.aload_n 2, (0, 0, 0, 0)) := rfl
theorem r58_36 (d : Nat) (v : Nat) (l0 l1 l3 l4 : Option Value) (st : List Value) (h : tm_H) (K : Option Value → tm_H → Prop) : tm_A d 58 36 [l0, l1, some (.ref v), l3, l4] st h K ↔ tm_A d 58 37 [l0, l1, some (.ref v), l3, l4] (.ref v :: st) h K := tm_s o58_36 rfl rfl rfl
theorem r58_36n (d : Nat)  (l0 l1 l3 l4 : Option Value) (st : List Value) (h : tm_H) (K : Option Value → tm_H → Prop) : tm_A d 58 36 [l0, l1, some .null, l3, l4] st h K ↔ tm_A d 58 37 [l0, l1, some .null, l3, l4] (.null :: st) h K := tm_s o58_36 rfl rfl rfl
theorem o58_37 : tm_op 58 37 = some (.aload 4, (0, 0, 0, 0)) := rfl
theorem r58_37 (d : Nat) (v : Nat) (l0 l1 l2 l3 : Option Value) (st : List Value) (h : tm_H) (K : Option Value → tm_H → Prop) : tm_A d 58 37 [l0, l1, l2, l3, some (.ref v)] st h K ↔ tm_A d 58 39 [l0, l1, l2, l3, some (.ref v)] (.ref v :: st) h K := tm_s o58_37 rfl rfl rfl
theorem r58_37n (d : Nat)  (l0 l1 l2 l3 : Option Value) (st : List Value) (h : tm_H) (K : Option Value → tm_H → Prop) : tm_A d 58 37 [l0, l1, l2, l3, some .null] st h K ↔ tm_A d 58 39 [l0, l1, l2, l3, some .null] (.null :: st) h K := tm_s o58_37 rfl rfl rfl
theorem o58_39 : tm_op 58 39 = some (.invokevirtual 65, (2, 41, 2, 4)) := rfl
theorem r58_39 (d : Nat) (v1 : Nat) (a : Nat) (ls : tm_Lo) (st : List Value) (h : tm_H) (K : Option Value → tm_H → Prop) : tm_A (d + 1) 58 39 ls (.ref v1 :: .ref a :: st) h K ↔ (h.1.2.2 a = (0, 4) ∧ tm_cs st) ∧ tm_R d 41 [.ref a, .ref v1] h (fun r h' => tm_A (d + 1) 58 42 ls (r.toList ++ st) h' K) := tm_callV (as := [.ref v1]) o58_39 rfl rfl rfl rfl
theorem o58_42 : tm_op 58 42 = some (.iinc 3 1, (0, 0, 0, 0)) := rfl
theorem r58_42 (d : Nat) (v : Int32) (l0 l1 l2 l4 : Option Value) (st : List Value) (h : tm_H) (K : Option Value → tm_H → Prop) : tm_A d 58 42 [l0, l1, l2, some (.int v), l4] st h K ↔ tm_A d 58 45 [l0, l1, l2, some (.int (v + (1 : Int32))), l4] st h K := tm_s o58_42 rfl rfl rfl
theorem o58_45 : tm_op 58 45 = some (.goto (-39), (0, 0, 0, 0)) := rfl
theorem r58_45 (d : Nat) (ls : tm_Lo) (st : List Value) (h : tm_H) (K : Option Value → tm_H → Prop) : tm_A d 58 45 ls st h K ↔ tm_A d 58 6 ls st h K := tm_s o58_45 rfl rfl rfl
theorem o58_48 : tm_op 58 48 = some (.return_, (0, 0, 0, 0)) := rfl
theorem r58_48 (d : Nat) (ls : tm_Lo) (h : tm_H) (K : Option Value → tm_H → Prop) : tm_A d 58 48 ls [] h K ↔ K none h := tm_retv o58_48 rfl
theorem o59_0 : tm_op 59 0 = some (.aload_n 0, (0, 0, 0, 0)) := rfl
theorem r59_0 (d : Nat) (v : Nat) (st : List Value) (h : tm_H) (K : Option Value → tm_H → Prop) : tm_A d 59 0 [some (.ref v)] st h K ↔ tm_A d 59 1 [some (.ref v)] (.ref v :: st) h K := tm_s o59_0 rfl rfl rfl
theorem o59_1 : tm_op 59 1 = some (.invokespecial 3, (4, 0, 0, 0)) := rfl
theorem r59_1 (d : Nat) (a : Nat) (ls : tm_Lo) (st : List Value) (h : tm_H) (K : Option Value → tm_H → Prop) : tm_A (d + 1) 59 1 ls (.ref a :: st) h K ↔ tm_cs st ∧ tm_A (d + 1) 59 4 ls st h K := tm_obj o59_1 rfl rfl
theorem o59_4 : tm_op 59 4 = some (.aload_n 0, (0, 0, 0, 0)) := rfl
theorem r59_4 (d : Nat) (v : Nat) (st : List Value) (h : tm_H) (K : Option Value → tm_H → Prop) : tm_A d 59 4 [some (.ref v)] st h K ↔ tm_A d 59 5 [some (.ref v)] (.ref v :: st) h K := tm_s o59_4 rfl rfl rfl
theorem o59_5 : tm_op 59 5 = some (.bipush 10, (0, 0, 0, 0)) := rfl
theorem r59_5 (d : Nat) (ls : tm_Lo) (st : List Value) (h : tm_H) (K : Option Value → tm_H → Prop) : tm_A d 59 5 ls st h K ↔ tm_A d 59 7 ls (.int (10 : Int32) :: st) h K := tm_bp o59_5 (by decide)
theorem o59_7 : tm_op 59 7 = some (.bipush 10, (0, 0, 0, 0)) := rfl
theorem r59_7 (d : Nat) (ls : tm_Lo) (st : List Value) (h : tm_H) (K : Option Value → tm_H → Prop) : tm_A d 59 7 ls st h K ↔ tm_A d 59 9 ls (.int (10 : Int32) :: st) h K := tm_bp o59_7 (by decide)
theorem o59_9 : tm_op 59 9 = some (.multianewarray 9 2, (3, 0, 0, 0)) := rfl
theorem r59_9 (d : Nat) (v u : Int32) (ls : tm_Lo) (st : List Value) (G : tm_G) (I : Nat → Nat → Int32) (J : Nat → Nat → Int64) (R : Nat → Nat → Option Nat) (K : Option Value → tm_H → Prop) : tm_A d 59 9 ls (.int v :: .int u :: st) (G, I, J, R) K ↔ (¬ u < 0 ∧ ¬ v < 0 ∧ (tm_ix u) ≤ 1000 ∧ (tm_ix v) ≤ 1000) ∧ tm_A d 59 13 ls (.ref G.1 :: st) (tm_mn (tm_ix u) (tm_ix v) (G, I, J, R)) K := tm_mnew o59_9
theorem o59_13 : tm_op 59 13 = some (.putfield 11, (2, 6, 0, 0)) := rfl
theorem r59_13 (d : Nat) (v : Nat) (a : Nat) (ls : tm_Lo) (st : List Value) (G : tm_G) (I : Nat → Nat → Int32) (J : Nat → Nat → Int64) (R : Nat → Nat → Option Nat) (K : Option Value → tm_H → Prop) : tm_A d 59 13 ls (.ref v :: .ref a :: st) (G, I, J, R) K ↔ G.2.2 a = (0, 6) ∧ tm_A d 59 16 ls st (G, I, J, up2 R a 0 (some v)) K := tm_putR o59_13
theorem o59_16 : tm_op 59 16 = some (.aload_n 0, (0, 0, 0, 0)) := rfl
theorem r59_16 (d : Nat) (v : Nat) (st : List Value) (h : tm_H) (K : Option Value → tm_H → Prop) : tm_A d 59 16 [some (.ref v)] st h K ↔ tm_A d 59 17 [some (.ref v)] (.ref v :: st) h K := tm_s o59_16 rfl rfl rfl
theorem o59_17 : tm_op 59 17 = some (.bipush 10, (0, 0, 0, 0)) := rfl
theorem r59_17 (d : Nat) (ls : tm_Lo) (st : List Value) (h : tm_H) (K : Option Value → tm_H → Prop) : tm_A d 59 17 ls st h K ↔ tm_A d 59 19 ls (.int (10 : Int32) :: st) h K := tm_bp o59_17 (by decide)
theorem o59_19 : tm_op 59 19 = some (.newarray .int, (1, 0, 0, 0)) := rfl
theorem r59_19 (d : Nat) (v : Int32) (ls : tm_Lo) (st : List Value) (G : tm_G) (I : Nat → Nat → Int32) (J : Nat → Nat → Int64) (R : Nat → Nat → Option Nat) (K : Option Value → tm_H → Prop) : tm_A d 59 19 ls (.int v :: st) (G, I, J, R) K ↔ (¬ v < 0 ∧ (tm_ix v) ≤ 100000) ∧ tm_A d 59 21 ls (.ref G.1 :: st) (tm_nw (1, (tm_ix v)) (tm_ix v) (G, I, J, R)) K := tm_newa o59_19
theorem o59_21 : tm_op 59 21 = some (.putfield 16, (2, 6, 1, 0)) := rfl
theorem r59_21 (d : Nat) (v : Nat) (a : Nat) (ls : tm_Lo) (st : List Value) (G : tm_G) (I : Nat → Nat → Int32) (J : Nat → Nat → Int64) (R : Nat → Nat → Option Nat) (K : Option Value → tm_H → Prop) : tm_A d 59 21 ls (.ref v :: .ref a :: st) (G, I, J, R) K ↔ G.2.2 a = (0, 6) ∧ tm_A d 59 24 ls st (G, I, J, up2 R a 1 (some v)) K := tm_putR o59_21
theorem o59_24 : tm_op 59 24 = some (.return_, (0, 0, 0, 0)) := rfl
theorem r59_24 (d : Nat) (ls : tm_Lo) (h : tm_H) (K : Option Value → tm_H → Prop) : tm_A d 59 24 ls [] h K ↔ K none h := tm_retv o59_24 rfl
theorem o60_0 : tm_op 60 0 = some (.iconst 0, (0, 0, 0, 0)) := rfl
theorem r60_0 (d : Nat) (ls : tm_Lo) (st : List Value) (h : tm_H) (K : Option Value → tm_H → Prop) : tm_A d 60 0 ls st h K ↔ tm_A d 60 1 ls (.int (0 : Int32) :: st) h K := tm_ic o60_0 (by decide)
theorem o60_1 : tm_op 60 1 = some (.istore_n 3, (0, 0, 0, 0)) := rfl
theorem r60_1 (d : Nat) (v : Int32) (l0 l1 l2 l3 l4 : Option Value) (st : List Value) (h : tm_H) (K : Option Value → tm_H → Prop) : tm_A d 60 1 [l0, l1, l2, l3, l4] (.int v :: st) h K ↔ tm_A d 60 2 [l0, l1, l2, some (.int v), l4] st h K := tm_s o60_1 rfl rfl rfl
theorem o60_2 : tm_op 60 2 = some (.iload_n 3, (0, 0, 0, 0)) := rfl
theorem r60_2 (d : Nat) (v : Int32) (l0 l1 l2 l4 : Option Value) (st : List Value) (h : tm_H) (K : Option Value → tm_H → Prop) : tm_A d 60 2 [l0, l1, l2, some (.int v), l4] st h K ↔ tm_A d 60 3 [l0, l1, l2, some (.int v), l4] (.int v :: st) h K := tm_s o60_2 rfl rfl rfl
theorem o60_3 : tm_op 60 3 = some (.aload_n 1, (0, 0, 0, 0)) := rfl
theorem r60_3 (d : Nat) (v : Nat) (l0 l2 l3 l4 : Option Value) (st : List Value) (h : tm_H) (K : Option Value → tm_H → Prop) : tm_A d 60 3 [l0, some (.ref v), l2, l3, l4] st h K ↔ tm_A d 60 4 [l0, some (.ref v), l2, l3, l4] (.ref v :: st) h K := tm_s o60_3 rfl rfl rfl
theorem r60_3n (d : Nat)  (l0 l2 l3 l4 : Option Value) (st : List Value) (h : tm_H) (K : Option Value → tm_H → Prop) : tm_A d 60 3 [l0, some .null, l2, l3, l4] st h K ↔ tm_A d 60 4 [l0, some .null, l2, l3, l4] (.null :: st) h K := tm_s o60_3 rfl rfl rfl
theorem o60_4 : tm_op 60 4 = some (.invokevirtual 20, (2, 42, 1, 4)) := rfl
theorem r60_4 (d : Nat) (a : Nat) (ls : tm_Lo) (st : List Value) (h : tm_H) (K : Option Value → tm_H → Prop) : tm_A (d + 1) 60 4 ls (.ref a :: st) h K ↔ (h.1.2.2 a = (0, 4) ∧ tm_cs st) ∧ tm_R d 42 [.ref a] h (fun r h' => tm_A (d + 1) 60 7 ls (r.toList ++ st) h' K) := tm_callV (as := []) o60_4 rfl rfl rfl rfl
theorem o60_7 : tm_op 60 7 = some (.if_icmp .ge 98, (0, 0, 0, 0)) := rfl
theorem r60_7 (d : Nat) (y x : Int32) (ls : tm_Lo) (st : List Value) (h : tm_H) (K : Option Value → tm_H → Prop) : tm_A d 60 7 ls (.int y :: .int x :: st) h K ↔ if y ≤ x then tm_A d 60 105 ls st h K else tm_A d 60 10 ls st h K := tm_b o60_7 rfl rfl rfl rfl
theorem o60_10 : tm_op 60 10 = some (.iload_n 3, (0, 0, 0, 0)) := rfl
theorem r60_10 (d : Nat) (v : Int32) (l0 l1 l2 l4 : Option Value) (st : List Value) (h : tm_H) (K : Option Value → tm_H → Prop) : tm_A d 60 10 [l0, l1, l2, some (.int v), l4] st h K ↔ tm_A d 60 11 [l0, l1, l2, some (.int v), l4] (.int v :: st) h K := tm_s o60_10 rfl rfl rfl
theorem o60_11 : tm_op 60 11 = some (.bipush 10, (0, 0, 0, 0)) := rfl
theorem r60_11 (d : Nat) (ls : tm_Lo) (st : List Value) (h : tm_H) (K : Option Value → tm_H → Prop) : tm_A d 60 11 ls st h K ↔ tm_A d 60 13 ls (.int (10 : Int32) :: st) h K := tm_bp o60_11 (by decide)
theorem o60_13 : tm_op 60 13 = some (.if_icmp .ge 92, (0, 0, 0, 0)) := rfl
theorem r60_13 (d : Nat) (y x : Int32) (ls : tm_Lo) (st : List Value) (h : tm_H) (K : Option Value → tm_H → Prop) : tm_A d 60 13 ls (.int y :: .int x :: st) h K ↔ if y ≤ x then tm_A d 60 105 ls st h K else tm_A d 60 16 ls st h K := tm_b o60_13 rfl rfl rfl rfl
theorem o60_16 : tm_op 60 16 = some (.aload_n 0, (0, 0, 0, 0)) := rfl
theorem r60_16 (d : Nat) (v : Nat) (l1 l2 l3 l4 : Option Value) (st : List Value) (h : tm_H) (K : Option Value → tm_H → Prop) : tm_A d 60 16 [some (.ref v), l1, l2, l3, l4] st h K ↔ tm_A d 60 17 [some (.ref v), l1, l2, l3, l4] (.ref v :: st) h K := tm_s o60_16 rfl rfl rfl
theorem o60_17 : tm_op 60 17 = some (.getfield 16, (2, 6, 1, 0)) := rfl
theorem r60_17 (d : Nat) (a : Nat) (ls : tm_Lo) (st : List Value) (G : tm_G) (I : Nat → Nat → Int32) (J : Nat → Nat → Int64) (R : Nat → Nat → Option Nat) (K : Option Value → tm_H → Prop) : tm_A d 60 17 ls (.ref a :: st) (G, I, J, R) K ↔ G.2.2 a = (0, 6) ∧ tm_A d 60 20 ls (tm_rf (R a 1) :: st) (G, I, J, R) K := tm_getR o60_17
theorem o60_20 : tm_op 60 20 = some (.iload_n 3, (0, 0, 0, 0)) := rfl
theorem r60_20 (d : Nat) (v : Int32) (l0 l1 l2 l4 : Option Value) (st : List Value) (h : tm_H) (K : Option Value → tm_H → Prop) : tm_A d 60 20 [l0, l1, l2, some (.int v), l4] st h K ↔ tm_A d 60 21 [l0, l1, l2, some (.int v), l4] (.int v :: st) h K := tm_s o60_20 rfl rfl rfl
theorem o60_21 : tm_op 60 21 = some (.iconst 0, (0, 0, 0, 0)) := rfl
theorem r60_21 (d : Nat) (ls : tm_Lo) (st : List Value) (h : tm_H) (K : Option Value → tm_H → Prop) : tm_A d 60 21 ls st h K ↔ tm_A d 60 22 ls (.int (0 : Int32) :: st) h K := tm_ic o60_21 (by decide)
theorem o60_22 : tm_op 60 22 = some (.iastore, (0, 0, 0, 0)) := rfl
theorem r60_22 (d : Nat) (u v : Int32) (a : Nat) (ls : tm_Lo) (st : List Value) (G : tm_G) (I : Nat → Nat → Int32) (J : Nat → Nat → Int64) (R : Nat → Nat → Option Nat) (K : Option Value → tm_H → Prop) : tm_A d 60 22 ls (.int u :: .int v :: .ref a :: st) (G, I, J, R) K ↔ (3 ≤ a ∧ (G.2.2 a).1 = 1 ∧ tm_in v (G.2.2 a).2) ∧ tm_A d 60 23 ls st (G, up2 I a (tm_ix v) u, J, R) K := tm_iast o60_22
theorem o60_23 : tm_op 60 23 = some (.iconst 0, (0, 0, 0, 0)) := rfl
theorem r60_23 (d : Nat) (ls : tm_Lo) (st : List Value) (h : tm_H) (K : Option Value → tm_H → Prop) : tm_A d 60 23 ls st h K ↔ tm_A d 60 24 ls (.int (0 : Int32) :: st) h K := tm_ic o60_23 (by decide)
theorem o60_24 : tm_op 60 24 = some (.istore 4, (0, 0, 0, 0)) := rfl
theorem r60_24 (d : Nat) (v : Int32) (l0 l1 l2 l3 l4 : Option Value) (st : List Value) (h : tm_H) (K : Option Value → tm_H → Prop) : tm_A d 60 24 [l0, l1, l2, l3, l4] (.int v :: st) h K ↔ tm_A d 60 26 [l0, l1, l2, l3, some (.int v)] st h K := tm_s o60_24 rfl rfl rfl
theorem o60_26 : tm_op 60 26 = some (.iload 4, (0, 0, 0, 0)) := rfl
theorem r60_26 (d : Nat) (v : Int32) (l0 l1 l2 l3 : Option Value) (st : List Value) (h : tm_H) (K : Option Value → tm_H → Prop) : tm_A d 60 26 [l0, l1, l2, l3, some (.int v)] st h K ↔ tm_A d 60 28 [l0, l1, l2, l3, some (.int v)] (.int v :: st) h K := tm_s o60_26 rfl rfl rfl
theorem o60_28 : tm_op 60 28 = some (.aload_n 1, (0, 0, 0, 0)) := rfl
theorem r60_28 (d : Nat) (v : Nat) (l0 l2 l3 l4 : Option Value) (st : List Value) (h : tm_H) (K : Option Value → tm_H → Prop) : tm_A d 60 28 [l0, some (.ref v), l2, l3, l4] st h K ↔ tm_A d 60 29 [l0, some (.ref v), l2, l3, l4] (.ref v :: st) h K := tm_s o60_28 rfl rfl rfl
theorem r60_28n (d : Nat)  (l0 l2 l3 l4 : Option Value) (st : List Value) (h : tm_H) (K : Option Value → tm_H → Prop) : tm_A d 60 28 [l0, some .null, l2, l3, l4] st h K ↔ tm_A d 60 29 [l0, some .null, l2, l3, l4] (.null :: st) h K := tm_s o60_28 rfl rfl rfl
theorem o60_29 : tm_op 60 29 = some (.invokevirtual 20, (2, 42, 1, 4)) := rfl
theorem r60_29 (d : Nat) (a : Nat) (ls : tm_Lo) (st : List Value) (h : tm_H) (K : Option Value → tm_H → Prop) : tm_A (d + 1) 60 29 ls (.ref a :: st) h K ↔ (h.1.2.2 a = (0, 4) ∧ tm_cs st) ∧ tm_R d 42 [.ref a] h (fun r h' => tm_A (d + 1) 60 32 ls (r.toList ++ st) h' K) := tm_callV (as := []) o60_29 rfl rfl rfl rfl
theorem o60_32 : tm_op 60 32 = some (.if_icmp .ge 67, (0, 0, 0, 0)) := rfl
theorem r60_32 (d : Nat) (y x : Int32) (ls : tm_Lo) (st : List Value) (h : tm_H) (K : Option Value → tm_H → Prop) : tm_A d 60 32 ls (.int y :: .int x :: st) h K ↔ if y ≤ x then tm_A d 60 99 ls st h K else tm_A d 60 35 ls st h K := tm_b o60_32 rfl rfl rfl rfl
theorem o60_35 : tm_op 60 35 = some (.iload 4, (0, 0, 0, 0)) := rfl
theorem r60_35 (d : Nat) (v : Int32) (l0 l1 l2 l3 : Option Value) (st : List Value) (h : tm_H) (K : Option Value → tm_H → Prop) : tm_A d 60 35 [l0, l1, l2, l3, some (.int v)] st h K ↔ tm_A d 60 37 [l0, l1, l2, l3, some (.int v)] (.int v :: st) h K := tm_s o60_35 rfl rfl rfl
theorem o60_37 : tm_op 60 37 = some (.bipush 10, (0, 0, 0, 0)) := rfl
theorem r60_37 (d : Nat) (ls : tm_Lo) (st : List Value) (h : tm_H) (K : Option Value → tm_H → Prop) : tm_A d 60 37 ls st h K ↔ tm_A d 60 39 ls (.int (10 : Int32) :: st) h K := tm_bp o60_37 (by decide)
theorem o60_39 : tm_op 60 39 = some (.if_icmp .ge 60, (0, 0, 0, 0)) := rfl
theorem r60_39 (d : Nat) (y x : Int32) (ls : tm_Lo) (st : List Value) (h : tm_H) (K : Option Value → tm_H → Prop) : tm_A d 60 39 ls (.int y :: .int x :: st) h K ↔ if y ≤ x then tm_A d 60 99 ls st h K else tm_A d 60 42 ls st h K := tm_b o60_39 rfl rfl rfl rfl
theorem o60_42 : tm_op 60 42 = some (.aload_n 0, (0, 0, 0, 0)) := rfl
theorem r60_42 (d : Nat) (v : Nat) (l1 l2 l3 l4 : Option Value) (st : List Value) (h : tm_H) (K : Option Value → tm_H → Prop) : tm_A d 60 42 [some (.ref v), l1, l2, l3, l4] st h K ↔ tm_A d 60 43 [some (.ref v), l1, l2, l3, l4] (.ref v :: st) h K := tm_s o60_42 rfl rfl rfl
theorem o60_43 : tm_op 60 43 = some (.getfield 11, (2, 6, 0, 0)) := rfl
theorem r60_43 (d : Nat) (a : Nat) (ls : tm_Lo) (st : List Value) (G : tm_G) (I : Nat → Nat → Int32) (J : Nat → Nat → Int64) (R : Nat → Nat → Option Nat) (K : Option Value → tm_H → Prop) : tm_A d 60 43 ls (.ref a :: st) (G, I, J, R) K ↔ G.2.2 a = (0, 6) ∧ tm_A d 60 46 ls (tm_rf (R a 0) :: st) (G, I, J, R) K := tm_getR o60_43
theorem o60_46 : tm_op 60 46 = some (.iload_n 3, (0, 0, 0, 0)) := rfl
theorem r60_46 (d : Nat) (v : Int32) (l0 l1 l2 l4 : Option Value) (st : List Value) (h : tm_H) (K : Option Value → tm_H → Prop) : tm_A d 60 46 [l0, l1, l2, some (.int v), l4] st h K ↔ tm_A d 60 47 [l0, l1, l2, some (.int v), l4] (.int v :: st) h K := tm_s o60_46 rfl rfl rfl
theorem o60_47 : tm_op 60 47 = some (.aaload, (0, 0, 0, 0)) := rfl
theorem r60_47 (d : Nat) (v : Int32) (a : Nat) (ls : tm_Lo) (st : List Value) (G : tm_G) (I : Nat → Nat → Int32) (J : Nat → Nat → Int64) (R : Nat → Nat → Option Nat) (K : Option Value → tm_H → Prop) : tm_A d 60 47 ls (.int v :: .ref a :: st) (G, I, J, R) K ↔ (((G.2.2 a).1 = 3 ∨ (G.2.2 a).1 = 4 ∨ (G.2.2 a).1 = 5) ∧ tm_in v (G.2.2 a).2) ∧ tm_A d 60 48 ls (tm_rf (R a (tm_ix v)) :: st) (G, I, J, R) K := tm_aald o60_47
theorem o60_48 : tm_op 60 48 = some (.iload 4, (0, 0, 0, 0)) := rfl
theorem r60_48 (d : Nat) (v : Int32) (l0 l1 l2 l3 : Option Value) (st : List Value) (h : tm_H) (K : Option Value → tm_H → Prop) : tm_A d 60 48 [l0, l1, l2, l3, some (.int v)] st h K ↔ tm_A d 60 50 [l0, l1, l2, l3, some (.int v)] (.int v :: st) h K := tm_s o60_48 rfl rfl rfl
theorem o60_50 : tm_op 60 50 = some (.iload_n 3, (0, 0, 0, 0)) := rfl
theorem r60_50 (d : Nat) (v : Int32) (l0 l1 l2 l4 : Option Value) (st : List Value) (h : tm_H) (K : Option Value → tm_H → Prop) : tm_A d 60 50 [l0, l1, l2, some (.int v), l4] st h K ↔ tm_A d 60 51 [l0, l1, l2, some (.int v), l4] (.int v :: st) h K := tm_s o60_50 rfl rfl rfl
theorem o60_51 : tm_op 60 51 = some (.iload 4, (0, 0, 0, 0)) := rfl
theorem r60_51 (d : Nat) (v : Int32) (l0 l1 l2 l3 : Option Value) (st : List Value) (h : tm_H) (K : Option Value → tm_H → Prop) : tm_A d 60 51 [l0, l1, l2, l3, some (.int v)] st h K ↔ tm_A d 60 53 [l0, l1, l2, l3, some (.int v)] (.int v :: st) h K := tm_s o60_51 rfl rfl rfl
theorem o60_53 : tm_op 60 53 = some (.if_icmp .ne 7, (0, 0, 0, 0)) := rfl
theorem r60_53 (d : Nat) (y x : Int32) (ls : tm_Lo) (st : List Value) (h : tm_H) (K : Option Value → tm_H → Prop) : tm_A d 60 53 ls (.int y :: .int x :: st) h K ↔ if ¬ x = y then tm_A d 60 60 ls st h K else tm_A d 60 56 ls st h K := tm_b o60_53 rfl rfl rfl rfl
theorem o60_56 : tm_op 60 56 = some (.iconst 0, (0, 0, 0, 0)) := rfl
theorem r60_56 (d : Nat) (ls : tm_Lo) (st : List Value) (h : tm_H) (K : Option Value → tm_H → Prop) : tm_A d 60 56 ls st h K ↔ tm_A d 60 57 ls (.int (0 : Int32) :: st) h K := tm_ic o60_56 (by decide)
theorem o60_57 : tm_op 60 57 = some (.goto 11, (0, 0, 0, 0)) := rfl
theorem r60_57 (d : Nat) (ls : tm_Lo) (st : List Value) (h : tm_H) (K : Option Value → tm_H → Prop) : tm_A d 60 57 ls st h K ↔ tm_A d 60 68 ls st h K := tm_s o60_57 rfl rfl rfl
theorem o60_60 : tm_op 60 60 = some (.aload_n 1, (0, 0, 0, 0)) := rfl
theorem r60_60 (d : Nat) (v : Nat) (l0 l2 l3 l4 : Option Value) (st : List Value) (h : tm_H) (K : Option Value → tm_H → Prop) : tm_A d 60 60 [l0, some (.ref v), l2, l3, l4] st h K ↔ tm_A d 60 61 [l0, some (.ref v), l2, l3, l4] (.ref v :: st) h K := tm_s o60_60 rfl rfl rfl
theorem r60_60n (d : Nat)  (l0 l2 l3 l4 : Option Value) (st : List Value) (h : tm_H) (K : Option Value → tm_H → Prop) : tm_A d 60 60 [l0, some .null, l2, l3, l4] st h K ↔ tm_A d 60 61 [l0, some .null, l2, l3, l4] (.null :: st) h K := tm_s o60_60 rfl rfl rfl
theorem o60_61 : tm_op 60 61 = some (.aload_n 2, (0, 0, 0, 0)) := rfl
theorem r60_61 (d : Nat) (v : Nat) (l0 l1 l3 l4 : Option Value) (st : List Value) (h : tm_H) (K : Option Value → tm_H → Prop) : tm_A d 60 61 [l0, l1, some (.ref v), l3, l4] st h K ↔ tm_A d 60 62 [l0, l1, some (.ref v), l3, l4] (.ref v :: st) h K := tm_s o60_61 rfl rfl rfl
theorem r60_61n (d : Nat)  (l0 l1 l3 l4 : Option Value) (st : List Value) (h : tm_H) (K : Option Value → tm_H → Prop) : tm_A d 60 61 [l0, l1, some .null, l3, l4] st h K ↔ tm_A d 60 62 [l0, l1, some .null, l3, l4] (.null :: st) h K := tm_s o60_61 rfl rfl rfl
theorem o60_62 : tm_op 60 62 = some (.iload_n 3, (0, 0, 0, 0)) := rfl
theorem r60_62 (d : Nat) (v : Int32) (l0 l1 l2 l4 : Option Value) (st : List Value) (h : tm_H) (K : Option Value → tm_H → Prop) : tm_A d 60 62 [l0, l1, l2, some (.int v), l4] st h K ↔ tm_A d 60 63 [l0, l1, l2, some (.int v), l4] (.int v :: st) h K := tm_s o60_62 rfl rfl rfl
theorem o60_63 : tm_op 60 63 = some (.iload 4, (0, 0, 0, 0)) := rfl
theorem r60_63 (d : Nat) (v : Int32) (l0 l1 l2 l3 : Option Value) (st : List Value) (h : tm_H) (K : Option Value → tm_H → Prop) : tm_A d 60 63 [l0, l1, l2, l3, some (.int v)] st h K ↔ tm_A d 60 65 [l0, l1, l2, l3, some (.int v)] (.int v :: st) h K := tm_s o60_63 rfl rfl rfl
theorem o60_65 : tm_op 60 65 = some (.invokestatic 26, (1, 63, 4, 0)) := rfl
theorem r60_65 (d : Nat) (v0 : Nat) (v1 : Nat) (v2 : Int32) (v3 : Int32) (ls : tm_Lo) (st : List Value) (h : tm_H) (K : Option Value → tm_H → Prop) : tm_A (d + 1) 60 65 ls (.int v3 :: .int v2 :: .ref v1 :: .ref v0 :: st) h K ↔ tm_cs st ∧ tm_R d 63 [.ref v0, .ref v1, .int v2, .int v3] h (fun r h' => tm_A (d + 1) 60 68 ls (r.toList ++ st) h' K) := tm_callS (as := [.ref v0, .ref v1, .int v2, .int v3]) o60_65 rfl rfl rfl rfl
theorem o60_68 : tm_op 60 68 = some (.iastore, (0, 0, 0, 0)) := rfl
theorem r60_68 (d : Nat) (u v : Int32) (a : Nat) (ls : tm_Lo) (st : List Value) (G : tm_G) (I : Nat → Nat → Int32) (J : Nat → Nat → Int64) (R : Nat → Nat → Option Nat) (K : Option Value → tm_H → Prop) : tm_A d 60 68 ls (.int u :: .int v :: .ref a :: st) (G, I, J, R) K ↔ (3 ≤ a ∧ (G.2.2 a).1 = 1 ∧ tm_in v (G.2.2 a).2) ∧ tm_A d 60 69 ls st (G, up2 I a (tm_ix v) u, J, R) K := tm_iast o60_68
theorem o60_69 : tm_op 60 69 = some (.aload_n 2, (0, 0, 0, 0)) := rfl
theorem r60_69 (d : Nat) (v : Nat) (l0 l1 l3 l4 : Option Value) (st : List Value) (h : tm_H) (K : Option Value → tm_H → Prop) : tm_A d 60 69 [l0, l1, some (.ref v), l3, l4] st h K ↔ tm_A d 60 70 [l0, l1, some (.ref v), l3, l4] (.ref v :: st) h K := tm_s o60_69 rfl rfl rfl
theorem r60_69n (d : Nat)  (l0 l1 l3 l4 : Option Value) (st : List Value) (h : tm_H) (K : Option Value → tm_H → Prop) : tm_A d 60 69 [l0, l1, some .null, l3, l4] st h K ↔ tm_A d 60 70 [l0, l1, some .null, l3, l4] (.null :: st) h K := tm_s o60_69 rfl rfl rfl
theorem o60_70 : tm_op 60 70 = some (.iload_n 3, (0, 0, 0, 0)) := rfl
theorem r60_70 (d : Nat) (v : Int32) (l0 l1 l2 l4 : Option Value) (st : List Value) (h : tm_H) (K : Option Value → tm_H → Prop) : tm_A d 60 70 [l0, l1, l2, some (.int v), l4] st h K ↔ tm_A d 60 71 [l0, l1, l2, some (.int v), l4] (.int v :: st) h K := tm_s o60_70 rfl rfl rfl
theorem o60_71 : tm_op 60 71 = some (.iload 4, (0, 0, 0, 0)) := rfl
theorem r60_71 (d : Nat) (v : Int32) (l0 l1 l2 l3 : Option Value) (st : List Value) (h : tm_H) (K : Option Value → tm_H → Prop) : tm_A d 60 71 [l0, l1, l2, l3, some (.int v)] st h K ↔ tm_A d 60 73 [l0, l1, l2, l3, some (.int v)] (.int v :: st) h K := tm_s o60_71 rfl rfl rfl
theorem o60_73 : tm_op 60 73 = some (.invokevirtual 30, (2, 37, 3, 3)) := rfl
theorem r60_73 (d : Nat) (v1 : Int32) (v2 : Int32) (a : Nat) (ls : tm_Lo) (st : List Value) (h : tm_H) (K : Option Value → tm_H → Prop) : tm_A (d + 1) 60 73 ls (.int v2 :: .int v1 :: .ref a :: st) h K ↔ (h.1.2.2 a = (0, 3) ∧ tm_cs st) ∧ tm_R d 37 [.ref a, .int v1, .int v2] h (fun r h' => tm_A (d + 1) 60 76 ls (r.toList ++ st) h' K) := tm_callV (as := [.int v1, .int v2]) o60_73 rfl rfl rfl rfl
theorem o60_76 : tm_op 60 76 = some (.iconst 1, (0, 0, 0, 0)) := rfl
theorem r60_76 (d : Nat) (ls : tm_Lo) (st : List Value) (h : tm_H) (K : Option Value → tm_H → Prop) : tm_A d 60 76 ls st h K ↔ tm_A d 60 77 ls (.int (1 : Int32) :: st) h K := tm_ic o60_76 (by decide)
theorem o60_77 : tm_op 60 77 = some (.if_icmp .ne 16, (0, 0, 0, 0)) := rfl
theorem r60_77 (d : Nat) (y x : Int32) (ls : tm_Lo) (st : List Value) (h : tm_H) (K : Option Value → tm_H → Prop) : tm_A d 60 77 ls (.int y :: .int x :: st) h K ↔ if ¬ x = y then tm_A d 60 93 ls st h K else tm_A d 60 80 ls st h K := tm_b o60_77 rfl rfl rfl rfl
theorem o60_80 : tm_op 60 80 = some (.aload_n 0, (0, 0, 0, 0)) := rfl
theorem r60_80 (d : Nat) (v : Nat) (l1 l2 l3 l4 : Option Value) (st : List Value) (h : tm_H) (K : Option Value → tm_H → Prop) : tm_A d 60 80 [some (.ref v), l1, l2, l3, l4] st h K ↔ tm_A d 60 81 [some (.ref v), l1, l2, l3, l4] (.ref v :: st) h K := tm_s o60_80 rfl rfl rfl
theorem o60_81 : tm_op 60 81 = some (.getfield 16, (2, 6, 1, 0)) := rfl
theorem r60_81 (d : Nat) (a : Nat) (ls : tm_Lo) (st : List Value) (G : tm_G) (I : Nat → Nat → Int32) (J : Nat → Nat → Int64) (R : Nat → Nat → Option Nat) (K : Option Value → tm_H → Prop) : tm_A d 60 81 ls (.ref a :: st) (G, I, J, R) K ↔ G.2.2 a = (0, 6) ∧ tm_A d 60 84 ls (tm_rf (R a 1) :: st) (G, I, J, R) K := tm_getR o60_81
theorem o60_84 : tm_op 60 84 = some (.iload_n 3, (0, 0, 0, 0)) := rfl
theorem r60_84 (d : Nat) (v : Int32) (l0 l1 l2 l4 : Option Value) (st : List Value) (h : tm_H) (K : Option Value → tm_H → Prop) : tm_A d 60 84 [l0, l1, l2, some (.int v), l4] st h K ↔ tm_A d 60 85 [l0, l1, l2, some (.int v), l4] (.int v :: st) h K := tm_s o60_84 rfl rfl rfl
theorem o60_85 : tm_op 60 85 = some (.dup2, (0, 0, 0, 0)) := rfl
theorem r60_85 (d : Nat) (u : Int32) (v : Nat) (ls : tm_Lo) (st : List Value) (h : tm_H) (K : Option Value → tm_H → Prop) : tm_A d 60 85 ls (.int u :: .ref v :: st) h K ↔ tm_A d 60 86 ls (.int u :: .ref v :: .int u :: .ref v :: st) h K := tm_s o60_85 rfl rfl rfl
theorem o60_86 : tm_op 60 86 = some (.iaload, (0, 0, 0, 0)) := rfl
theorem r60_86 (d : Nat) (v : Int32) (a : Nat) (ls : tm_Lo) (st : List Value) (G : tm_G) (I : Nat → Nat → Int32) (J : Nat → Nat → Int64) (R : Nat → Nat → Option Nat) (K : Option Value → tm_H → Prop) : tm_A d 60 86 ls (.int v :: .ref a :: st) (G, I, J, R) K ↔ ((G.2.2 a).1 = 1 ∧ tm_in v (G.2.2 a).2) ∧ tm_A d 60 87 ls (.int (I a (tm_ix v)) :: st) (G, I, J, R) K := tm_iald o60_86
theorem o60_87 : tm_op 60 87 = some (.iconst 1, (0, 0, 0, 0)) := rfl
theorem r60_87 (d : Nat) (ls : tm_Lo) (st : List Value) (h : tm_H) (K : Option Value → tm_H → Prop) : tm_A d 60 87 ls st h K ↔ tm_A d 60 88 ls (.int (1 : Int32) :: st) h K := tm_ic o60_87 (by decide)
theorem o60_88 : tm_op 60 88 = some (.iload 4, (0, 0, 0, 0)) := rfl
theorem r60_88 (d : Nat) (v : Int32) (l0 l1 l2 l3 : Option Value) (st : List Value) (h : tm_H) (K : Option Value → tm_H → Prop) : tm_A d 60 88 [l0, l1, l2, l3, some (.int v)] st h K ↔ tm_A d 60 90 [l0, l1, l2, l3, some (.int v)] (.int v :: st) h K := tm_s o60_88 rfl rfl rfl
theorem o60_90 : tm_op 60 90 = some (.ishl, (0, 0, 0, 0)) := rfl
theorem r60_90 (d : Nat) (u v : Int32) (ls : tm_Lo) (st : List Value) (h : tm_H) (K : Option Value → tm_H → Prop) : tm_A d 60 90 ls (.int u :: .int v :: st) h K ↔ tm_A d 60 91 ls (.int (v <<< (u &&& 31)) :: st) h K := tm_s o60_90 rfl rfl rfl
theorem o60_91 : tm_op 60 91 = some (.ior, (0, 0, 0, 0)) := rfl
theorem r60_91 (d : Nat) (u v : Int32) (ls : tm_Lo) (st : List Value) (h : tm_H) (K : Option Value → tm_H → Prop) : tm_A d 60 91 ls (.int u :: .int v :: st) h K ↔ tm_A d 60 92 ls (.int (v ||| u) :: st) h K := tm_s o60_91 rfl rfl rfl
theorem o60_92 : tm_op 60 92 = some (.iastore, (0, 0, 0, 0)) := rfl
theorem r60_92 (d : Nat) (u v : Int32) (a : Nat) (ls : tm_Lo) (st : List Value) (G : tm_G) (I : Nat → Nat → Int32) (J : Nat → Nat → Int64) (R : Nat → Nat → Option Nat) (K : Option Value → tm_H → Prop) : tm_A d 60 92 ls (.int u :: .int v :: .ref a :: st) (G, I, J, R) K ↔ (3 ≤ a ∧ (G.2.2 a).1 = 1 ∧ tm_in v (G.2.2 a).2) ∧ tm_A d 60 93 ls st (G, up2 I a (tm_ix v) u, J, R) K := tm_iast o60_92
theorem o60_93 : tm_op 60 93 = some (.iinc 4 1, (0, 0, 0, 0)) := rfl
theorem r60_93 (d : Nat) (v : Int32) (l0 l1 l2 l3 : Option Value) (st : List Value) (h : tm_H) (K : Option Value → tm_H → Prop) : tm_A d 60 93 [l0, l1, l2, l3, some (.int v)] st h K ↔ tm_A d 60 96 [l0, l1, l2, l3, some (.int (v + (1 : Int32)))] st h K := tm_s o60_93 rfl rfl rfl
theorem o60_96 : tm_op 60 96 = some (.goto (-70), (0, 0, 0, 0)) := rfl
theorem r60_96 (d : Nat) (ls : tm_Lo) (st : List Value) (h : tm_H) (K : Option Value → tm_H → Prop) : tm_A d 60 96 ls st h K ↔ tm_A d 60 26 ls st h K := tm_s o60_96 rfl rfl rfl
theorem o60_99 : tm_op 60 99 = some (.iinc 3 1, (0, 0, 0, 0)) := rfl
theorem r60_99 (d : Nat) (v : Int32) (l0 l1 l2 l4 : Option Value) (st : List Value) (h : tm_H) (K : Option Value → tm_H → Prop) : tm_A d 60 99 [l0, l1, l2, some (.int v), l4] st h K ↔ tm_A d 60 102 [l0, l1, l2, some (.int (v + (1 : Int32))), l4] st h K := tm_s o60_99 rfl rfl rfl
theorem o60_102 : tm_op 60 102 = some (.goto (-100), (0, 0, 0, 0)) := rfl
theorem r60_102 (d : Nat) (ls : tm_Lo) (st : List Value) (h : tm_H) (K : Option Value → tm_H → Prop) : tm_A d 60 102 ls st h K ↔ tm_A d 60 2 ls st h K := tm_s o60_102 rfl rfl rfl
theorem o60_105 : tm_op 60 105 = some (.return_, (0, 0, 0, 0)) := rfl
theorem r60_105 (d : Nat) (ls : tm_Lo) (h : tm_H) (K : Option Value → tm_H → Prop) : tm_A d 60 105 ls [] h K ↔ K none h := tm_retv o60_105 rfl
theorem o61_0 : tm_op 61 0 = some (.iload_n 1, (0, 0, 0, 0)) := rfl
theorem r61_0 (d : Nat) (v : Int32) (l0 l2 l3 : Option Value) (st : List Value) (h : tm_H) (K : Option Value → tm_H → Prop) : tm_A d 61 0 [l0, some (.int v), l2, l3] st h K ↔ tm_A d 61 1 [l0, some (.int v), l2, l3] (.int v :: st) h K := tm_s o61_0 rfl rfl rfl
theorem o61_1 : tm_op 61 1 = some (.ifCond .lt 23, (0, 0, 0, 0)) := rfl
theorem r61_1 (d : Nat) (x : Int32) (ls : tm_Lo) (st : List Value) (h : tm_H) (K : Option Value → tm_H → Prop) : tm_A d 61 1 ls (.int x :: st) h K ↔ if x < 0 then tm_A d 61 24 ls st h K else tm_A d 61 4 ls st h K := tm_b o61_1 rfl rfl rfl rfl
theorem o61_4 : tm_op 61 4 = some (.iload_n 1, (0, 0, 0, 0)) := rfl
theorem r61_4 (d : Nat) (v : Int32) (l0 l2 l3 : Option Value) (st : List Value) (h : tm_H) (K : Option Value → tm_H → Prop) : tm_A d 61 4 [l0, some (.int v), l2, l3] st h K ↔ tm_A d 61 5 [l0, some (.int v), l2, l3] (.int v :: st) h K := tm_s o61_4 rfl rfl rfl
theorem o61_5 : tm_op 61 5 = some (.bipush 10, (0, 0, 0, 0)) := rfl
theorem r61_5 (d : Nat) (ls : tm_Lo) (st : List Value) (h : tm_H) (K : Option Value → tm_H → Prop) : tm_A d 61 5 ls st h K ↔ tm_A d 61 7 ls (.int (10 : Int32) :: st) h K := tm_bp o61_5 (by decide)
theorem o61_7 : tm_op 61 7 = some (.if_icmp .ge 17, (0, 0, 0, 0)) := rfl
theorem r61_7 (d : Nat) (y x : Int32) (ls : tm_Lo) (st : List Value) (h : tm_H) (K : Option Value → tm_H → Prop) : tm_A d 61 7 ls (.int y :: .int x :: st) h K ↔ if y ≤ x then tm_A d 61 24 ls st h K else tm_A d 61 10 ls st h K := tm_b o61_7 rfl rfl rfl rfl
theorem o61_10 : tm_op 61 10 = some (.iload_n 2, (0, 0, 0, 0)) := rfl
theorem r61_10 (d : Nat) (v : Int32) (l0 l1 l3 : Option Value) (st : List Value) (h : tm_H) (K : Option Value → tm_H → Prop) : tm_A d 61 10 [l0, l1, some (.int v), l3] st h K ↔ tm_A d 61 11 [l0, l1, some (.int v), l3] (.int v :: st) h K := tm_s o61_10 rfl rfl rfl
theorem o61_11 : tm_op 61 11 = some (.ifCond .lt 13, (0, 0, 0, 0)) := rfl
theorem r61_11 (d : Nat) (x : Int32) (ls : tm_Lo) (st : List Value) (h : tm_H) (K : Option Value → tm_H → Prop) : tm_A d 61 11 ls (.int x :: st) h K ↔ if x < 0 then tm_A d 61 24 ls st h K else tm_A d 61 14 ls st h K := tm_b o61_11 rfl rfl rfl rfl
theorem o61_14 : tm_op 61 14 = some (.iload_n 2, (0, 0, 0, 0)) := rfl
theorem r61_14 (d : Nat) (v : Int32) (l0 l1 l3 : Option Value) (st : List Value) (h : tm_H) (K : Option Value → tm_H → Prop) : tm_A d 61 14 [l0, l1, some (.int v), l3] st h K ↔ tm_A d 61 15 [l0, l1, some (.int v), l3] (.int v :: st) h K := tm_s o61_14 rfl rfl rfl
theorem o61_15 : tm_op 61 15 = some (.bipush 10, (0, 0, 0, 0)) := rfl
theorem r61_15 (d : Nat) (ls : tm_Lo) (st : List Value) (h : tm_H) (K : Option Value → tm_H → Prop) : tm_A d 61 15 ls st h K ↔ tm_A d 61 17 ls (.int (10 : Int32) :: st) h K := tm_bp o61_15 (by decide)
theorem o61_17 : tm_op 61 17 = some (.if_icmp .ge 7, (0, 0, 0, 0)) := rfl
theorem r61_17 (d : Nat) (y x : Int32) (ls : tm_Lo) (st : List Value) (h : tm_H) (K : Option Value → tm_H → Prop) : tm_A d 61 17 ls (.int y :: .int x :: st) h K ↔ if y ≤ x then tm_A d 61 24 ls st h K else tm_A d 61 20 ls st h K := tm_b o61_17 rfl rfl rfl rfl
theorem o61_20 : tm_op 61 20 = some (.iconst 1, (0, 0, 0, 0)) := rfl
theorem r61_20 (d : Nat) (ls : tm_Lo) (st : List Value) (h : tm_H) (K : Option Value → tm_H → Prop) : tm_A d 61 20 ls st h K ↔ tm_A d 61 21 ls (.int (1 : Int32) :: st) h K := tm_ic o61_20 (by decide)
theorem o61_21 : tm_op 61 21 = some (.goto 4, (0, 0, 0, 0)) := rfl
theorem r61_21 (d : Nat) (ls : tm_Lo) (st : List Value) (h : tm_H) (K : Option Value → tm_H → Prop) : tm_A d 61 21 ls st h K ↔ tm_A d 61 25 ls st h K := tm_s o61_21 rfl rfl rfl
theorem o61_24 : tm_op 61 24 = some (.iconst 0, (0, 0, 0, 0)) := rfl
theorem r61_24 (d : Nat) (ls : tm_Lo) (st : List Value) (h : tm_H) (K : Option Value → tm_H → Prop) : tm_A d 61 24 ls st h K ↔ tm_A d 61 25 ls (.int (0 : Int32) :: st) h K := tm_ic o61_24 (by decide)
theorem o61_25 : tm_op 61 25 = some (.istore_n 3, (0, 0, 0, 0)) := rfl
theorem r61_25 (d : Nat) (v : Int32) (l0 l1 l2 l3 : Option Value) (st : List Value) (h : tm_H) (K : Option Value → tm_H → Prop) : tm_A d 61 25 [l0, l1, l2, l3] (.int v :: st) h K ↔ tm_A d 61 26 [l0, l1, l2, some (.int v)] st h K := tm_s o61_25 rfl rfl rfl
theorem o61_26 : tm_op 61 26 = some (.iload_n 3, (0, 0, 0, 0)) := rfl
theorem r61_26 (d : Nat) (v : Int32) (l0 l1 l2 : Option Value) (st : List Value) (h : tm_H) (K : Option Value → tm_H → Prop) : tm_A d 61 26 [l0, l1, l2, some (.int v)] st h K ↔ tm_A d 61 27 [l0, l1, l2, some (.int v)] (.int v :: st) h K := tm_s o61_26 rfl rfl rfl
theorem o61_27 : tm_op 61 27 = some (.ifCond .eq 14, (0, 0, 0, 0)) := rfl
theorem r61_27 (d : Nat) (x : Int32) (ls : tm_Lo) (st : List Value) (h : tm_H) (K : Option Value → tm_H → Prop) : tm_A d 61 27 ls (.int x :: st) h K ↔ if x = 0 then tm_A d 61 41 ls st h K else tm_A d 61 30 ls st h K := tm_b o61_27 rfl rfl rfl rfl
theorem o61_30 : tm_op 61 30 = some (.aload_n 0, (0, 0, 0, 0)) := rfl
theorem r61_30 (d : Nat) (v : Nat) (l1 l2 l3 : Option Value) (st : List Value) (h : tm_H) (K : Option Value → tm_H → Prop) : tm_A d 61 30 [some (.ref v), l1, l2, l3] st h K ↔ tm_A d 61 31 [some (.ref v), l1, l2, l3] (.ref v :: st) h K := tm_s o61_30 rfl rfl rfl
theorem o61_31 : tm_op 61 31 = some (.getfield 11, (2, 6, 0, 0)) := rfl
theorem r61_31 (d : Nat) (a : Nat) (ls : tm_Lo) (st : List Value) (G : tm_G) (I : Nat → Nat → Int32) (J : Nat → Nat → Int64) (R : Nat → Nat → Option Nat) (K : Option Value → tm_H → Prop) : tm_A d 61 31 ls (.ref a :: st) (G, I, J, R) K ↔ G.2.2 a = (0, 6) ∧ tm_A d 61 34 ls (tm_rf (R a 0) :: st) (G, I, J, R) K := tm_getR o61_31
theorem o61_34 : tm_op 61 34 = some (.iload_n 1, (0, 0, 0, 0)) := rfl
theorem r61_34 (d : Nat) (v : Int32) (l0 l2 l3 : Option Value) (st : List Value) (h : tm_H) (K : Option Value → tm_H → Prop) : tm_A d 61 34 [l0, some (.int v), l2, l3] st h K ↔ tm_A d 61 35 [l0, some (.int v), l2, l3] (.int v :: st) h K := tm_s o61_34 rfl rfl rfl
theorem o61_35 : tm_op 61 35 = some (.aaload, (0, 0, 0, 0)) := rfl
theorem r61_35 (d : Nat) (v : Int32) (a : Nat) (ls : tm_Lo) (st : List Value) (G : tm_G) (I : Nat → Nat → Int32) (J : Nat → Nat → Int64) (R : Nat → Nat → Option Nat) (K : Option Value → tm_H → Prop) : tm_A d 61 35 ls (.int v :: .ref a :: st) (G, I, J, R) K ↔ (((G.2.2 a).1 = 3 ∨ (G.2.2 a).1 = 4 ∨ (G.2.2 a).1 = 5) ∧ tm_in v (G.2.2 a).2) ∧ tm_A d 61 36 ls (tm_rf (R a (tm_ix v)) :: st) (G, I, J, R) K := tm_aald o61_35
theorem o61_36 : tm_op 61 36 = some (.iload_n 2, (0, 0, 0, 0)) := rfl
theorem r61_36 (d : Nat) (v : Int32) (l0 l1 l3 : Option Value) (st : List Value) (h : tm_H) (K : Option Value → tm_H → Prop) : tm_A d 61 36 [l0, l1, some (.int v), l3] st h K ↔ tm_A d 61 37 [l0, l1, some (.int v), l3] (.int v :: st) h K := tm_s o61_36 rfl rfl rfl
theorem o61_37 : tm_op 61 37 = some (.iaload, (0, 0, 0, 0)) := rfl
theorem r61_37 (d : Nat) (v : Int32) (a : Nat) (ls : tm_Lo) (st : List Value) (G : tm_G) (I : Nat → Nat → Int32) (J : Nat → Nat → Int64) (R : Nat → Nat → Option Nat) (K : Option Value → tm_H → Prop) : tm_A d 61 37 ls (.int v :: .ref a :: st) (G, I, J, R) K ↔ ((G.2.2 a).1 = 1 ∧ tm_in v (G.2.2 a).2) ∧ tm_A d 61 38 ls (.int (I a (tm_ix v)) :: st) (G, I, J, R) K := tm_iald o61_37
theorem o61_38 : tm_op 61 38 = some (.goto 6, (0, 0, 0, 0)) := rfl
theorem r61_38 (d : Nat) (ls : tm_Lo) (st : List Value) (h : tm_H) (K : Option Value → tm_H → Prop) : tm_A d 61 38 ls st h K ↔ tm_A d 61 44 ls st h K := tm_s o61_38 rfl rfl rfl
theorem o61_41 : tm_op 61 41 = some (.sipush 1000, (0, 0, 0, 0)) := rfl
theorem r61_41 (d : Nat) (ls : tm_Lo) (st : List Value) (h : tm_H) (K : Option Value → tm_H → Prop) : tm_A d 61 41 ls st h K ↔ tm_A d 61 44 ls (.int (1000 : Int32) :: st) h K := tm_sp o61_41 (by decide)
theorem o61_44 : tm_op 61 44 = some (.ireturn, (0, 0, 0, 0)) := rfl
theorem r61_44 (d : Nat) (v : Int32) (ls : tm_Lo) (h : tm_H) (K : Option Value → tm_H → Prop) : tm_A d 61 44 ls [.int v] h K ↔ K (some (.int v)) h := tm_reti o61_44 rfl
theorem o62_0 : tm_op 62 0 = some (.iload_n 1, (0, 0, 0, 0)) := rfl
theorem r62_0 (d : Nat) (v : Int32) (l0 : Option Value) (st : List Value) (h : tm_H) (K : Option Value → tm_H → Prop) : tm_A d 62 0 [l0, some (.int v)] st h K ↔ tm_A d 62 1 [l0, some (.int v)] (.int v :: st) h K := tm_s o62_0 rfl rfl rfl
theorem o62_1 : tm_op 62 1 = some (.ifCond .lt 18, (0, 0, 0, 0)) := rfl
theorem r62_1 (d : Nat) (x : Int32) (ls : tm_Lo) (st : List Value) (h : tm_H) (K : Option Value → tm_H → Prop) : tm_A d 62 1 ls (.int x :: st) h K ↔ if x < 0 then tm_A d 62 19 ls st h K else tm_A d 62 4 ls st h K := tm_b o62_1 rfl rfl rfl rfl
theorem o62_4 : tm_op 62 4 = some (.iload_n 1, (0, 0, 0, 0)) := rfl
theorem r62_4 (d : Nat) (v : Int32) (l0 : Option Value) (st : List Value) (h : tm_H) (K : Option Value → tm_H → Prop) : tm_A d 62 4 [l0, some (.int v)] st h K ↔ tm_A d 62 5 [l0, some (.int v)] (.int v :: st) h K := tm_s o62_4 rfl rfl rfl
theorem o62_5 : tm_op 62 5 = some (.bipush 10, (0, 0, 0, 0)) := rfl
theorem r62_5 (d : Nat) (ls : tm_Lo) (st : List Value) (h : tm_H) (K : Option Value → tm_H → Prop) : tm_A d 62 5 ls st h K ↔ tm_A d 62 7 ls (.int (10 : Int32) :: st) h K := tm_bp o62_5 (by decide)
theorem o62_7 : tm_op 62 7 = some (.if_icmp .ge 12, (0, 0, 0, 0)) := rfl
theorem r62_7 (d : Nat) (y x : Int32) (ls : tm_Lo) (st : List Value) (h : tm_H) (K : Option Value → tm_H → Prop) : tm_A d 62 7 ls (.int y :: .int x :: st) h K ↔ if y ≤ x then tm_A d 62 19 ls st h K else tm_A d 62 10 ls st h K := tm_b o62_7 rfl rfl rfl rfl
theorem o62_10 : tm_op 62 10 = some (.aload_n 0, (0, 0, 0, 0)) := rfl
theorem r62_10 (d : Nat) (v : Nat) (l1 : Option Value) (st : List Value) (h : tm_H) (K : Option Value → tm_H → Prop) : tm_A d 62 10 [some (.ref v), l1] st h K ↔ tm_A d 62 11 [some (.ref v), l1] (.ref v :: st) h K := tm_s o62_10 rfl rfl rfl
theorem o62_11 : tm_op 62 11 = some (.getfield 16, (2, 6, 1, 0)) := rfl
theorem r62_11 (d : Nat) (a : Nat) (ls : tm_Lo) (st : List Value) (G : tm_G) (I : Nat → Nat → Int32) (J : Nat → Nat → Int64) (R : Nat → Nat → Option Nat) (K : Option Value → tm_H → Prop) : tm_A d 62 11 ls (.ref a :: st) (G, I, J, R) K ↔ G.2.2 a = (0, 6) ∧ tm_A d 62 14 ls (tm_rf (R a 1) :: st) (G, I, J, R) K := tm_getR o62_11
theorem o62_14 : tm_op 62 14 = some (.iload_n 1, (0, 0, 0, 0)) := rfl
theorem r62_14 (d : Nat) (v : Int32) (l0 : Option Value) (st : List Value) (h : tm_H) (K : Option Value → tm_H → Prop) : tm_A d 62 14 [l0, some (.int v)] st h K ↔ tm_A d 62 15 [l0, some (.int v)] (.int v :: st) h K := tm_s o62_14 rfl rfl rfl
theorem o62_15 : tm_op 62 15 = some (.iaload, (0, 0, 0, 0)) := rfl
theorem r62_15 (d : Nat) (v : Int32) (a : Nat) (ls : tm_Lo) (st : List Value) (G : tm_G) (I : Nat → Nat → Int32) (J : Nat → Nat → Int64) (R : Nat → Nat → Option Nat) (K : Option Value → tm_H → Prop) : tm_A d 62 15 ls (.int v :: .ref a :: st) (G, I, J, R) K ↔ ((G.2.2 a).1 = 1 ∧ tm_in v (G.2.2 a).2) ∧ tm_A d 62 16 ls (.int (I a (tm_ix v)) :: st) (G, I, J, R) K := tm_iald o62_15
theorem o62_16 : tm_op 62 16 = some (.goto 4, (0, 0, 0, 0)) := rfl
theorem r62_16 (d : Nat) (ls : tm_Lo) (st : List Value) (h : tm_H) (K : Option Value → tm_H → Prop) : tm_A d 62 16 ls st h K ↔ tm_A d 62 20 ls st h K := tm_s o62_16 rfl rfl rfl
theorem o62_19 : tm_op 62 19 = some (.iconst 0, (0, 0, 0, 0)) := rfl
theorem r62_19 (d : Nat) (ls : tm_Lo) (st : List Value) (h : tm_H) (K : Option Value → tm_H → Prop) : tm_A d 62 19 ls st h K ↔ tm_A d 62 20 ls (.int (0 : Int32) :: st) h K := tm_ic o62_19 (by decide)
theorem o62_20 : tm_op 62 20 = some (.ireturn, (0, 0, 0, 0)) := rfl
theorem r62_20 (d : Nat) (v : Int32) (ls : tm_Lo) (h : tm_H) (K : Option Value → tm_H → Prop) : tm_A d 62 20 ls [.int v] h K ↔ K (some (.int v)) h := tm_reti o62_20 rfl
theorem o63_0 : tm_op 63 0 = some (.aload_n 0, (0, 0, 0, 0)) := rfl
theorem r63_0 (d : Nat) (v : Nat) (l1 l2 l3 l4 l5 l6 : Option Value) (st : List Value) (h : tm_H) (K : Option Value → tm_H → Prop) : tm_A d 63 0 [some (.ref v), l1, l2, l3, l4, l5, l6] st h K ↔ tm_A d 63 1 [some (.ref v), l1, l2, l3, l4, l5, l6] (.ref v :: st) h K := tm_s o63_0 rfl rfl rfl
theorem o63_1 : tm_op 63 1 = some (.iload_n 2, (0, 0, 0, 0)) := rfl
theorem r63_1 (d : Nat) (v : Int32) (l0 l1 l3 l4 l5 l6 : Option Value) (st : List Value) (h : tm_H) (K : Option Value → tm_H → Prop) : tm_A d 63 1 [l0, l1, some (.int v), l3, l4, l5, l6] st h K ↔ tm_A d 63 2 [l0, l1, some (.int v), l3, l4, l5, l6] (.int v :: st) h K := tm_s o63_1 rfl rfl rfl
theorem o63_2 : tm_op 63 2 = some (.invokevirtual 36, (2, 43, 2, 4)) := rfl
theorem r63_2 (d : Nat) (v1 : Int32) (a : Nat) (ls : tm_Lo) (st : List Value) (h : tm_H) (K : Option Value → tm_H → Prop) : tm_A (d + 1) 63 2 ls (.int v1 :: .ref a :: st) h K ↔ (h.1.2.2 a = (0, 4) ∧ tm_cs st) ∧ tm_R d 43 [.ref a, .int v1] h (fun r h' => tm_A (d + 1) 63 5 ls (r.toList ++ st) h' K) := tm_callV (as := [.int v1]) o63_2 rfl rfl rfl rfl
theorem o63_5 : tm_op 63 5 = some (.astore 4, (0, 0, 0, 0)) := rfl
theorem r63_5 (d : Nat) (v : Nat) (l0 l1 l2 l3 l4 l5 l6 : Option Value) (st : List Value) (h : tm_H) (K : Option Value → tm_H → Prop) : tm_A d 63 5 [l0, l1, l2, l3, l4, l5, l6] (.ref v :: st) h K ↔ tm_A d 63 7 [l0, l1, l2, l3, some (.ref v), l5, l6] st h K := tm_s o63_5 rfl rfl rfl
theorem r63_5n (d : Nat)  (l0 l1 l2 l3 l4 l5 l6 : Option Value) (st : List Value) (h : tm_H) (K : Option Value → tm_H → Prop) : tm_A d 63 5 [l0, l1, l2, l3, l4, l5, l6] (.null :: st) h K ↔ tm_A d 63 7 [l0, l1, l2, l3, some .null, l5, l6] st h K := tm_s o63_5 rfl rfl rfl
theorem o63_7 : tm_op 63 7 = some (.aload_n 0, (0, 0, 0, 0)) := rfl
theorem r63_7 (d : Nat) (v : Nat) (l1 l2 l3 l4 l5 l6 : Option Value) (st : List Value) (h : tm_H) (K : Option Value → tm_H → Prop) : tm_A d 63 7 [some (.ref v), l1, l2, l3, l4, l5, l6] st h K ↔ tm_A d 63 8 [some (.ref v), l1, l2, l3, l4, l5, l6] (.ref v :: st) h K := tm_s o63_7 rfl rfl rfl
theorem o63_8 : tm_op 63 8 = some (.iload_n 3, (0, 0, 0, 0)) := rfl
theorem r63_8 (d : Nat) (v : Int32) (l0 l1 l2 l4 l5 l6 : Option Value) (st : List Value) (h : tm_H) (K : Option Value → tm_H → Prop) : tm_A d 63 8 [l0, l1, l2, some (.int v), l4, l5, l6] st h K ↔ tm_A d 63 9 [l0, l1, l2, some (.int v), l4, l5, l6] (.int v :: st) h K := tm_s o63_8 rfl rfl rfl
theorem o63_9 : tm_op 63 9 = some (.invokevirtual 36, (2, 43, 2, 4)) := rfl
theorem r63_9 (d : Nat) (v1 : Int32) (a : Nat) (ls : tm_Lo) (st : List Value) (h : tm_H) (K : Option Value → tm_H → Prop) : tm_A (d + 1) 63 9 ls (.int v1 :: .ref a :: st) h K ↔ (h.1.2.2 a = (0, 4) ∧ tm_cs st) ∧ tm_R d 43 [.ref a, .int v1] h (fun r h' => tm_A (d + 1) 63 12 ls (r.toList ++ st) h' K) := tm_callV (as := [.int v1]) o63_9 rfl rfl rfl rfl
theorem o63_12 : tm_op 63 12 = some (.astore 5, (0, 0, 0, 0)) := rfl
theorem r63_12 (d : Nat) (v : Nat) (l0 l1 l2 l3 l4 l5 l6 : Option Value) (st : List Value) (h : tm_H) (K : Option Value → tm_H → Prop) : tm_A d 63 12 [l0, l1, l2, l3, l4, l5, l6] (.ref v :: st) h K ↔ tm_A d 63 14 [l0, l1, l2, l3, l4, some (.ref v), l6] st h K := tm_s o63_12 rfl rfl rfl
theorem r63_12n (d : Nat)  (l0 l1 l2 l3 l4 l5 l6 : Option Value) (st : List Value) (h : tm_H) (K : Option Value → tm_H → Prop) : tm_A d 63 12 [l0, l1, l2, l3, l4, l5, l6] (.null :: st) h K ↔ tm_A d 63 14 [l0, l1, l2, l3, l4, some .null, l6] st h K := tm_s o63_12 rfl rfl rfl
theorem o63_14 : tm_op 63 14 = some (.aload 4, (0, 0, 0, 0)) := rfl
theorem r63_14 (d : Nat) (v : Nat) (l0 l1 l2 l3 l5 l6 : Option Value) (st : List Value) (h : tm_H) (K : Option Value → tm_H → Prop) : tm_A d 63 14 [l0, l1, l2, l3, some (.ref v), l5, l6] st h K ↔ tm_A d 63 16 [l0, l1, l2, l3, some (.ref v), l5, l6] (.ref v :: st) h K := tm_s o63_14 rfl rfl rfl
theorem r63_14n (d : Nat)  (l0 l1 l2 l3 l5 l6 : Option Value) (st : List Value) (h : tm_H) (K : Option Value → tm_H → Prop) : tm_A d 63 14 [l0, l1, l2, l3, some .null, l5, l6] st h K ↔ tm_A d 63 16 [l0, l1, l2, l3, some .null, l5, l6] (.null :: st) h K := tm_s o63_14 rfl rfl rfl
theorem o63_16 : tm_op 63 16 = some (.ifnull 8, (0, 0, 0, 0)) := rfl
theorem r63_16 (d : Nat) (v : Nat) (ls : tm_Lo) (st : List Value) (h : tm_H) (K : Option Value → tm_H → Prop) : tm_A d 63 16 ls (.ref v :: st) h K ↔ tm_A d 63 19 ls st h K := tm_s o63_16 rfl rfl rfl
theorem r63_16n (d : Nat) (ls : tm_Lo) (st : List Value) (h : tm_H) (K : Option Value → tm_H → Prop) : tm_A d 63 16 ls (.null :: st) h K ↔ tm_A d 63 24 ls st h K := tm_s o63_16 rfl rfl rfl
theorem o63_19 : tm_op 63 19 = some (.aload 5, (0, 0, 0, 0)) := rfl
theorem r63_19 (d : Nat) (v : Nat) (l0 l1 l2 l3 l4 l6 : Option Value) (st : List Value) (h : tm_H) (K : Option Value → tm_H → Prop) : tm_A d 63 19 [l0, l1, l2, l3, l4, some (.ref v), l6] st h K ↔ tm_A d 63 21 [l0, l1, l2, l3, l4, some (.ref v), l6] (.ref v :: st) h K := tm_s o63_19 rfl rfl rfl
theorem r63_19n (d : Nat)  (l0 l1 l2 l3 l4 l6 : Option Value) (st : List Value) (h : tm_H) (K : Option Value → tm_H → Prop) : tm_A d 63 19 [l0, l1, l2, l3, l4, some .null, l6] st h K ↔ tm_A d 63 21 [l0, l1, l2, l3, l4, some .null, l6] (.null :: st) h K := tm_s o63_19 rfl rfl rfl
theorem o63_21 : tm_op 63 21 = some (.ifnonnull 7, (0, 0, 0, 0)) := rfl
theorem r63_21 (d : Nat) (v : Nat) (ls : tm_Lo) (st : List Value) (h : tm_H) (K : Option Value → tm_H → Prop) : tm_A d 63 21 ls (.ref v :: st) h K ↔ tm_A d 63 28 ls st h K := tm_s o63_21 rfl rfl rfl
theorem r63_21n (d : Nat) (ls : tm_Lo) (st : List Value) (h : tm_H) (K : Option Value → tm_H → Prop) : tm_A d 63 21 ls (.null :: st) h K ↔ tm_A d 63 24 ls st h K := tm_s o63_21 rfl rfl rfl
theorem o63_24 : tm_op 63 24 = some (.sipush (-1000), (0, 0, 0, 0)) := rfl
theorem r63_24 (d : Nat) (ls : tm_Lo) (st : List Value) (h : tm_H) (K : Option Value → tm_H → Prop) : tm_A d 63 24 ls st h K ↔ tm_A d 63 27 ls (.int (-1000 : Int32) :: st) h K := tm_sp o63_24 (by decide)
theorem o63_27 : tm_op 63 27 = some (.ireturn, (0, 0, 0, 0)) := rfl
theorem r63_27 (d : Nat) (v : Int32) (ls : tm_Lo) (h : tm_H) (K : Option Value → tm_H → Prop) : tm_A d 63 27 ls [.int v] h K ↔ K (some (.int v)) h := tm_reti o63_27 rfl
theorem o63_28 : tm_op 63 28 = some (.aload_n 1, (0, 0, 0, 0)) := rfl
theorem r63_28 (d : Nat) (v : Nat) (l0 l2 l3 l4 l5 l6 : Option Value) (st : List Value) (h : tm_H) (K : Option Value → tm_H → Prop) : tm_A d 63 28 [l0, some (.ref v), l2, l3, l4, l5, l6] st h K ↔ tm_A d 63 29 [l0, some (.ref v), l2, l3, l4, l5, l6] (.ref v :: st) h K := tm_s o63_28 rfl rfl rfl
theorem r63_28n (d : Nat)  (l0 l2 l3 l4 l5 l6 : Option Value) (st : List Value) (h : tm_H) (K : Option Value → tm_H → Prop) : tm_A d 63 28 [l0, some .null, l2, l3, l4, l5, l6] st h K ↔ tm_A d 63 29 [l0, some .null, l2, l3, l4, l5, l6] (.null :: st) h K := tm_s o63_28 rfl rfl rfl
theorem o63_29 : tm_op 63 29 = some (.iload_n 2, (0, 0, 0, 0)) := rfl
theorem r63_29 (d : Nat) (v : Int32) (l0 l1 l3 l4 l5 l6 : Option Value) (st : List Value) (h : tm_H) (K : Option Value → tm_H → Prop) : tm_A d 63 29 [l0, l1, some (.int v), l3, l4, l5, l6] st h K ↔ tm_A d 63 30 [l0, l1, some (.int v), l3, l4, l5, l6] (.int v :: st) h K := tm_s o63_29 rfl rfl rfl
theorem o63_30 : tm_op 63 30 = some (.iload_n 3, (0, 0, 0, 0)) := rfl
theorem r63_30 (d : Nat) (v : Int32) (l0 l1 l2 l4 l5 l6 : Option Value) (st : List Value) (h : tm_H) (K : Option Value → tm_H → Prop) : tm_A d 63 30 [l0, l1, l2, some (.int v), l4, l5, l6] st h K ↔ tm_A d 63 31 [l0, l1, l2, some (.int v), l4, l5, l6] (.int v :: st) h K := tm_s o63_30 rfl rfl rfl
theorem o63_31 : tm_op 63 31 = some (.invokevirtual 30, (2, 37, 3, 3)) := rfl
theorem r63_31 (d : Nat) (v1 : Int32) (v2 : Int32) (a : Nat) (ls : tm_Lo) (st : List Value) (h : tm_H) (K : Option Value → tm_H → Prop) : tm_A (d + 1) 63 31 ls (.int v2 :: .int v1 :: .ref a :: st) h K ↔ (h.1.2.2 a = (0, 3) ∧ tm_cs st) ∧ tm_R d 37 [.ref a, .int v1, .int v2] h (fun r h' => tm_A (d + 1) 63 34 ls (r.toList ++ st) h' K) := tm_callV (as := [.int v1, .int v2]) o63_31 rfl rfl rfl rfl
theorem o63_34 : tm_op 63 34 = some (.iconst 2, (0, 0, 0, 0)) := rfl
theorem r63_34 (d : Nat) (ls : tm_Lo) (st : List Value) (h : tm_H) (K : Option Value → tm_H → Prop) : tm_A d 63 34 ls st h K ↔ tm_A d 63 35 ls (.int (2 : Int32) :: st) h K := tm_ic o63_34 (by decide)
theorem o63_35 : tm_op 63 35 = some (.if_icmp .eq 26, (0, 0, 0, 0)) := rfl
theorem r63_35 (d : Nat) (y x : Int32) (ls : tm_Lo) (st : List Value) (h : tm_H) (K : Option Value → tm_H → Prop) : tm_A d 63 35 ls (.int y :: .int x :: st) h K ↔ if x = y then tm_A d 63 61 ls st h K else tm_A d 63 38 ls st h K := tm_b o63_35 rfl rfl rfl rfl
theorem o63_38 : tm_op 63 38 = some (.aload 4, (0, 0, 0, 0)) := rfl
theorem r63_38 (d : Nat) (v : Nat) (l0 l1 l2 l3 l5 l6 : Option Value) (st : List Value) (h : tm_H) (K : Option Value → tm_H → Prop) : tm_A d 63 38 [l0, l1, l2, l3, some (.ref v), l5, l6] st h K ↔ tm_A d 63 40 [l0, l1, l2, l3, some (.ref v), l5, l6] (.ref v :: st) h K := tm_s o63_38 rfl rfl rfl
theorem r63_38n (d : Nat)  (l0 l1 l2 l3 l5 l6 : Option Value) (st : List Value) (h : tm_H) (K : Option Value → tm_H → Prop) : tm_A d 63 38 [l0, l1, l2, l3, some .null, l5, l6] st h K ↔ tm_A d 63 40 [l0, l1, l2, l3, some .null, l5, l6] (.null :: st) h K := tm_s o63_38 rfl rfl rfl
theorem o63_40 : tm_op 63 40 = some (.aload 5, (0, 0, 0, 0)) := rfl
theorem r63_40 (d : Nat) (v : Nat) (l0 l1 l2 l3 l4 l6 : Option Value) (st : List Value) (h : tm_H) (K : Option Value → tm_H → Prop) : tm_A d 63 40 [l0, l1, l2, l3, l4, some (.ref v), l6] st h K ↔ tm_A d 63 42 [l0, l1, l2, l3, l4, some (.ref v), l6] (.ref v :: st) h K := tm_s o63_40 rfl rfl rfl
theorem r63_40n (d : Nat)  (l0 l1 l2 l3 l4 l6 : Option Value) (st : List Value) (h : tm_H) (K : Option Value → tm_H → Prop) : tm_A d 63 40 [l0, l1, l2, l3, l4, some .null, l6] st h K ↔ tm_A d 63 42 [l0, l1, l2, l3, l4, some .null, l6] (.null :: st) h K := tm_s o63_40 rfl rfl rfl
theorem o63_42 : tm_op 63 42 = some (.iconst 4, (0, 0, 0, 0)) := rfl
theorem r63_42 (d : Nat) (ls : tm_Lo) (st : List Value) (h : tm_H) (K : Option Value → tm_H → Prop) : tm_A d 63 42 ls st h K ↔ tm_A d 63 43 ls (.int (4 : Int32) :: st) h K := tm_ic o63_42 (by decide)
theorem o63_43 : tm_op 63 43 = some (.invokestatic 40, (1, 64, 3, 0)) := rfl
theorem r63_43 (d : Nat) (v0 : Nat) (v1 : Nat) (v2 : Int32) (ls : tm_Lo) (st : List Value) (h : tm_H) (K : Option Value → tm_H → Prop) : tm_A (d + 1) 63 43 ls (.int v2 :: .ref v1 :: .ref v0 :: st) h K ↔ tm_cs st ∧ tm_R d 64 [.ref v0, .ref v1, .int v2] h (fun r h' => tm_A (d + 1) 63 46 ls (r.toList ++ st) h' K) := tm_callS (as := [.ref v0, .ref v1, .int v2]) o63_43 rfl rfl rfl rfl
theorem o63_46 : tm_op 63 46 = some (.ifCond .ne 15, (0, 0, 0, 0)) := rfl
theorem r63_46 (d : Nat) (x : Int32) (ls : tm_Lo) (st : List Value) (h : tm_H) (K : Option Value → tm_H → Prop) : tm_A d 63 46 ls (.int x :: st) h K ↔ if ¬ x = 0 then tm_A d 63 61 ls st h K else tm_A d 63 49 ls st h K := tm_b o63_46 rfl rfl rfl rfl
theorem o63_49 : tm_op 63 49 = some (.aload 4, (0, 0, 0, 0)) := rfl
theorem r63_49 (d : Nat) (v : Nat) (l0 l1 l2 l3 l5 l6 : Option Value) (st : List Value) (h : tm_H) (K : Option Value → tm_H → Prop) : tm_A d 63 49 [l0, l1, l2, l3, some (.ref v), l5, l6] st h K ↔ tm_A d 63 51 [l0, l1, l2, l3, some (.ref v), l5, l6] (.ref v :: st) h K := tm_s o63_49 rfl rfl rfl
theorem r63_49n (d : Nat)  (l0 l1 l2 l3 l5 l6 : Option Value) (st : List Value) (h : tm_H) (K : Option Value → tm_H → Prop) : tm_A d 63 49 [l0, l1, l2, l3, some .null, l5, l6] st h K ↔ tm_A d 63 51 [l0, l1, l2, l3, some .null, l5, l6] (.null :: st) h K := tm_s o63_49 rfl rfl rfl
theorem o63_51 : tm_op 63 51 = some (.aload 5, (0, 0, 0, 0)) := rfl
theorem r63_51 (d : Nat) (v : Nat) (l0 l1 l2 l3 l4 l6 : Option Value) (st : List Value) (h : tm_H) (K : Option Value → tm_H → Prop) : tm_A d 63 51 [l0, l1, l2, l3, l4, some (.ref v), l6] st h K ↔ tm_A d 63 53 [l0, l1, l2, l3, l4, some (.ref v), l6] (.ref v :: st) h K := tm_s o63_51 rfl rfl rfl
theorem r63_51n (d : Nat)  (l0 l1 l2 l3 l4 l6 : Option Value) (st : List Value) (h : tm_H) (K : Option Value → tm_H → Prop) : tm_A d 63 51 [l0, l1, l2, l3, l4, some .null, l6] st h K ↔ tm_A d 63 53 [l0, l1, l2, l3, l4, some .null, l6] (.null :: st) h K := tm_s o63_51 rfl rfl rfl
theorem o63_53 : tm_op 63 53 = some (.invokestatic 44, (1, 65, 2, 0)) := rfl
theorem r63_53 (d : Nat) (v0 : Nat) (v1 : Nat) (ls : tm_Lo) (st : List Value) (h : tm_H) (K : Option Value → tm_H → Prop) : tm_A (d + 1) 63 53 ls (.ref v1 :: .ref v0 :: st) h K ↔ tm_cs st ∧ tm_R d 65 [.ref v0, .ref v1] h (fun r h' => tm_A (d + 1) 63 56 ls (r.toList ++ st) h' K) := tm_callS (as := [.ref v0, .ref v1]) o63_53 rfl rfl rfl rfl
theorem o63_56 : tm_op 63 56 = some (.bipush 9, (0, 0, 0, 0)) := rfl
theorem r63_56 (d : Nat) (ls : tm_Lo) (st : List Value) (h : tm_H) (K : Option Value → tm_H → Prop) : tm_A d 63 56 ls st h K ↔ tm_A d 63 58 ls (.int (9 : Int32) :: st) h K := tm_bp o63_56 (by decide)
theorem o63_58 : tm_op 63 58 = some (.if_icmp .le 7, (0, 0, 0, 0)) := rfl
theorem r63_58 (d : Nat) (y x : Int32) (ls : tm_Lo) (st : List Value) (h : tm_H) (K : Option Value → tm_H → Prop) : tm_A d 63 58 ls (.int y :: .int x :: st) h K ↔ if x ≤ y then tm_A d 63 65 ls st h K else tm_A d 63 61 ls st h K := tm_b o63_58 rfl rfl rfl rfl
theorem o63_61 : tm_op 63 61 = some (.sipush 1000, (0, 0, 0, 0)) := rfl
theorem r63_61 (d : Nat) (ls : tm_Lo) (st : List Value) (h : tm_H) (K : Option Value → tm_H → Prop) : tm_A d 63 61 ls st h K ↔ tm_A d 63 64 ls (.int (1000 : Int32) :: st) h K := tm_sp o63_61 (by decide)
theorem o63_64 : tm_op 63 64 = some (.ireturn, (0, 0, 0, 0)) := rfl
theorem r63_64 (d : Nat) (v : Int32) (ls : tm_Lo) (h : tm_H) (K : Option Value → tm_H → Prop) : tm_A d 63 64 ls [.int v] h K ↔ K (some (.int v)) h := tm_reti o63_64 rfl
theorem o63_65 : tm_op 63 65 = some (.aload 4, (0, 0, 0, 0)) := rfl
theorem r63_65 (d : Nat) (v : Nat) (l0 l1 l2 l3 l5 l6 : Option Value) (st : List Value) (h : tm_H) (K : Option Value → tm_H → Prop) : tm_A d 63 65 [l0, l1, l2, l3, some (.ref v), l5, l6] st h K ↔ tm_A d 63 67 [l0, l1, l2, l3, some (.ref v), l5, l6] (.ref v :: st) h K := tm_s o63_65 rfl rfl rfl
theorem r63_65n (d : Nat)  (l0 l1 l2 l3 l5 l6 : Option Value) (st : List Value) (h : tm_H) (K : Option Value → tm_H → Prop) : tm_A d 63 65 [l0, l1, l2, l3, some .null, l5, l6] st h K ↔ tm_A d 63 67 [l0, l1, l2, l3, some .null, l5, l6] (.null :: st) h K := tm_s o63_65 rfl rfl rfl
theorem o63_67 : tm_op 63 67 = some (.aload 5, (0, 0, 0, 0)) := rfl
theorem r63_67 (d : Nat) (v : Nat) (l0 l1 l2 l3 l4 l6 : Option Value) (st : List Value) (h : tm_H) (K : Option Value → tm_H → Prop) : tm_A d 63 67 [l0, l1, l2, l3, l4, some (.ref v), l6] st h K ↔ tm_A d 63 69 [l0, l1, l2, l3, l4, some (.ref v), l6] (.ref v :: st) h K := tm_s o63_67 rfl rfl rfl
theorem r63_67n (d : Nat)  (l0 l1 l2 l3 l4 l6 : Option Value) (st : List Value) (h : tm_H) (K : Option Value → tm_H → Prop) : tm_A d 63 67 [l0, l1, l2, l3, l4, some .null, l6] st h K ↔ tm_A d 63 69 [l0, l1, l2, l3, l4, some .null, l6] (.null :: st) h K := tm_s o63_67 rfl rfl rfl
theorem o63_69 : tm_op 63 69 = some (.invokestatic 44, (1, 65, 2, 0)) := rfl
theorem r63_69 (d : Nat) (v0 : Nat) (v1 : Nat) (ls : tm_Lo) (st : List Value) (h : tm_H) (K : Option Value → tm_H → Prop) : tm_A (d + 1) 63 69 ls (.ref v1 :: .ref v0 :: st) h K ↔ tm_cs st ∧ tm_R d 65 [.ref v0, .ref v1] h (fun r h' => tm_A (d + 1) 63 72 ls (r.toList ++ st) h' K) := tm_callS (as := [.ref v0, .ref v1]) o63_69 rfl rfl rfl rfl
theorem o63_72 : tm_op 63 72 = some (.aload_n 0, (0, 0, 0, 0)) := rfl
theorem r63_72 (d : Nat) (v : Nat) (l1 l2 l3 l4 l5 l6 : Option Value) (st : List Value) (h : tm_H) (K : Option Value → tm_H → Prop) : tm_A d 63 72 [some (.ref v), l1, l2, l3, l4, l5, l6] st h K ↔ tm_A d 63 73 [some (.ref v), l1, l2, l3, l4, l5, l6] (.ref v :: st) h K := tm_s o63_72 rfl rfl rfl
theorem o63_73 : tm_op 63 73 = some (.aload 4, (0, 0, 0, 0)) := rfl
theorem r63_73 (d : Nat) (v : Nat) (l0 l1 l2 l3 l5 l6 : Option Value) (st : List Value) (h : tm_H) (K : Option Value → tm_H → Prop) : tm_A d 63 73 [l0, l1, l2, l3, some (.ref v), l5, l6] st h K ↔ tm_A d 63 75 [l0, l1, l2, l3, some (.ref v), l5, l6] (.ref v :: st) h K := tm_s o63_73 rfl rfl rfl
theorem r63_73n (d : Nat)  (l0 l1 l2 l3 l5 l6 : Option Value) (st : List Value) (h : tm_H) (K : Option Value → tm_H → Prop) : tm_A d 63 73 [l0, l1, l2, l3, some .null, l5, l6] st h K ↔ tm_A d 63 75 [l0, l1, l2, l3, some .null, l5, l6] (.null :: st) h K := tm_s o63_73 rfl rfl rfl
theorem o63_75 : tm_op 63 75 = some (.aload 5, (0, 0, 0, 0)) := rfl
theorem r63_75 (d : Nat) (v : Nat) (l0 l1 l2 l3 l4 l6 : Option Value) (st : List Value) (h : tm_H) (K : Option Value → tm_H → Prop) : tm_A d 63 75 [l0, l1, l2, l3, l4, some (.ref v), l6] st h K ↔ tm_A d 63 77 [l0, l1, l2, l3, l4, some (.ref v), l6] (.ref v :: st) h K := tm_s o63_75 rfl rfl rfl
theorem r63_75n (d : Nat)  (l0 l1 l2 l3 l4 l6 : Option Value) (st : List Value) (h : tm_H) (K : Option Value → tm_H → Prop) : tm_A d 63 75 [l0, l1, l2, l3, l4, some .null, l6] st h K ↔ tm_A d 63 77 [l0, l1, l2, l3, l4, some .null, l6] (.null :: st) h K := tm_s o63_75 rfl rfl rfl
theorem o63_77 : tm_op 63 77 = some (.invokestatic 48, (1, 67, 3, 0)) := rfl
theorem r63_77 (d : Nat) (v0 : Nat) (v1 : Nat) (v2 : Nat) (ls : tm_Lo) (st : List Value) (h : tm_H) (K : Option Value → tm_H → Prop) : tm_A (d + 1) 63 77 ls (.ref v2 :: .ref v1 :: .ref v0 :: st) h K ↔ tm_cs st ∧ tm_R d 67 [.ref v0, .ref v1, .ref v2] h (fun r h' => tm_A (d + 1) 63 80 ls (r.toList ++ st) h' K) := tm_callS (as := [.ref v0, .ref v1, .ref v2]) o63_77 rfl rfl rfl rfl
theorem o63_80 : tm_op 63 80 = some (.isub, (0, 0, 0, 0)) := rfl
theorem r63_80 (d : Nat) (u v : Int32) (ls : tm_Lo) (st : List Value) (h : tm_H) (K : Option Value → tm_H → Prop) : tm_A d 63 80 ls (.int u :: .int v :: st) h K ↔ tm_A d 63 81 ls (.int (v - u) :: st) h K := tm_s o63_80 rfl rfl rfl
theorem o63_81 : tm_op 63 81 = some (.istore 6, (0, 0, 0, 0)) := rfl
theorem r63_81 (d : Nat) (v : Int32) (l0 l1 l2 l3 l4 l5 l6 : Option Value) (st : List Value) (h : tm_H) (K : Option Value → tm_H → Prop) : tm_A d 63 81 [l0, l1, l2, l3, l4, l5, l6] (.int v :: st) h K ↔ tm_A d 63 83 [l0, l1, l2, l3, l4, l5, some (.int v)] st h K := tm_s o63_81 rfl rfl rfl
theorem o63_83 : tm_op 63 83 = some (.iload 6, (0, 0, 0, 0)) := rfl
theorem r63_83 (d : Nat) (v : Int32) (l0 l1 l2 l3 l4 l5 : Option Value) (st : List Value) (h : tm_H) (K : Option Value → tm_H → Prop) : tm_A d 63 83 [l0, l1, l2, l3, l4, l5, some (.int v)] st h K ↔ tm_A d 63 85 [l0, l1, l2, l3, l4, l5, some (.int v)] (.int v :: st) h K := tm_s o63_83 rfl rfl rfl
theorem o63_85 : tm_op 63 85 = some (.aload 4, (0, 0, 0, 0)) := rfl
theorem r63_85 (d : Nat) (v : Nat) (l0 l1 l2 l3 l5 l6 : Option Value) (st : List Value) (h : tm_H) (K : Option Value → tm_H → Prop) : tm_A d 63 85 [l0, l1, l2, l3, some (.ref v), l5, l6] st h K ↔ tm_A d 63 87 [l0, l1, l2, l3, some (.ref v), l5, l6] (.ref v :: st) h K := tm_s o63_85 rfl rfl rfl
theorem r63_85n (d : Nat)  (l0 l1 l2 l3 l5 l6 : Option Value) (st : List Value) (h : tm_H) (K : Option Value → tm_H → Prop) : tm_A d 63 85 [l0, l1, l2, l3, some .null, l5, l6] st h K ↔ tm_A d 63 87 [l0, l1, l2, l3, some .null, l5, l6] (.null :: st) h K := tm_s o63_85 rfl rfl rfl
theorem o63_87 : tm_op 63 87 = some (.aload 5, (0, 0, 0, 0)) := rfl
theorem r63_87 (d : Nat) (v : Nat) (l0 l1 l2 l3 l4 l6 : Option Value) (st : List Value) (h : tm_H) (K : Option Value → tm_H → Prop) : tm_A d 63 87 [l0, l1, l2, l3, l4, some (.ref v), l6] st h K ↔ tm_A d 63 89 [l0, l1, l2, l3, l4, some (.ref v), l6] (.ref v :: st) h K := tm_s o63_87 rfl rfl rfl
theorem r63_87n (d : Nat)  (l0 l1 l2 l3 l4 l6 : Option Value) (st : List Value) (h : tm_H) (K : Option Value → tm_H → Prop) : tm_A d 63 87 [l0, l1, l2, l3, l4, some .null, l6] st h K ↔ tm_A d 63 89 [l0, l1, l2, l3, l4, some .null, l6] (.null :: st) h K := tm_s o63_87 rfl rfl rfl
theorem o63_89 : tm_op 63 89 = some (.iconst 0, (0, 0, 0, 0)) := rfl
theorem r63_89 (d : Nat) (ls : tm_Lo) (st : List Value) (h : tm_H) (K : Option Value → tm_H → Prop) : tm_A d 63 89 ls st h K ↔ tm_A d 63 90 ls (.int (0 : Int32) :: st) h K := tm_ic o63_89 (by decide)
theorem o63_90 : tm_op 63 90 = some (.invokestatic 40, (1, 64, 3, 0)) := rfl
theorem r63_90 (d : Nat) (v0 : Nat) (v1 : Nat) (v2 : Int32) (ls : tm_Lo) (st : List Value) (h : tm_H) (K : Option Value → tm_H → Prop) : tm_A (d + 1) 63 90 ls (.int v2 :: .ref v1 :: .ref v0 :: st) h K ↔ tm_cs st ∧ tm_R d 64 [.ref v0, .ref v1, .int v2] h (fun r h' => tm_A (d + 1) 63 93 ls (r.toList ++ st) h' K) := tm_callS (as := [.ref v0, .ref v1, .int v2]) o63_90 rfl rfl rfl rfl
theorem o63_93 : tm_op 63 93 = some (.ifCond .eq 8, (0, 0, 0, 0)) := rfl
theorem r63_93 (d : Nat) (x : Int32) (ls : tm_Lo) (st : List Value) (h : tm_H) (K : Option Value → tm_H → Prop) : tm_A d 63 93 ls (.int x :: st) h K ↔ if x = 0 then tm_A d 63 101 ls st h K else tm_A d 63 96 ls st h K := tm_b o63_93 rfl rfl rfl rfl
theorem o63_96 : tm_op 63 96 = some (.bipush 6, (0, 0, 0, 0)) := rfl
theorem r63_96 (d : Nat) (ls : tm_Lo) (st : List Value) (h : tm_H) (K : Option Value → tm_H → Prop) : tm_A d 63 96 ls st h K ↔ tm_A d 63 98 ls (.int (6 : Int32) :: st) h K := tm_bp o63_96 (by decide)
theorem o63_98 : tm_op 63 98 = some (.goto 4, (0, 0, 0, 0)) := rfl
theorem r63_98 (d : Nat) (ls : tm_Lo) (st : List Value) (h : tm_H) (K : Option Value → tm_H → Prop) : tm_A d 63 98 ls st h K ↔ tm_A d 63 102 ls st h K := tm_s o63_98 rfl rfl rfl
theorem o63_101 : tm_op 63 101 = some (.iconst 0, (0, 0, 0, 0)) := rfl
theorem r63_101 (d : Nat) (ls : tm_Lo) (st : List Value) (h : tm_H) (K : Option Value → tm_H → Prop) : tm_A d 63 101 ls st h K ↔ tm_A d 63 102 ls (.int (0 : Int32) :: st) h K := tm_ic o63_101 (by decide)
theorem o63_102 : tm_op 63 102 = some (.iadd, (0, 0, 0, 0)) := rfl
theorem r63_102 (d : Nat) (u v : Int32) (ls : tm_Lo) (st : List Value) (h : tm_H) (K : Option Value → tm_H → Prop) : tm_A d 63 102 ls (.int u :: .int v :: st) h K ↔ tm_A d 63 103 ls (.int (v + u) :: st) h K := tm_s o63_102 rfl rfl rfl
theorem o63_103 : tm_op 63 103 = some (.istore 6, (0, 0, 0, 0)) := rfl
theorem r63_103 (d : Nat) (v : Int32) (l0 l1 l2 l3 l4 l5 l6 : Option Value) (st : List Value) (h : tm_H) (K : Option Value → tm_H → Prop) : tm_A d 63 103 [l0, l1, l2, l3, l4, l5, l6] (.int v :: st) h K ↔ tm_A d 63 105 [l0, l1, l2, l3, l4, l5, some (.int v)] st h K := tm_s o63_103 rfl rfl rfl
theorem o63_105 : tm_op 63 105 = some (.iload 6, (0, 0, 0, 0)) := rfl
theorem r63_105 (d : Nat) (v : Int32) (l0 l1 l2 l3 l4 l5 : Option Value) (st : List Value) (h : tm_H) (K : Option Value → tm_H → Prop) : tm_A d 63 105 [l0, l1, l2, l3, l4, l5, some (.int v)] st h K ↔ tm_A d 63 107 [l0, l1, l2, l3, l4, l5, some (.int v)] (.int v :: st) h K := tm_s o63_105 rfl rfl rfl
theorem o63_107 : tm_op 63 107 = some (.aload 4, (0, 0, 0, 0)) := rfl
theorem r63_107 (d : Nat) (v : Nat) (l0 l1 l2 l3 l5 l6 : Option Value) (st : List Value) (h : tm_H) (K : Option Value → tm_H → Prop) : tm_A d 63 107 [l0, l1, l2, l3, some (.ref v), l5, l6] st h K ↔ tm_A d 63 109 [l0, l1, l2, l3, some (.ref v), l5, l6] (.ref v :: st) h K := tm_s o63_107 rfl rfl rfl
theorem r63_107n (d : Nat)  (l0 l1 l2 l3 l5 l6 : Option Value) (st : List Value) (h : tm_H) (K : Option Value → tm_H → Prop) : tm_A d 63 107 [l0, l1, l2, l3, some .null, l5, l6] st h K ↔ tm_A d 63 109 [l0, l1, l2, l3, some .null, l5, l6] (.null :: st) h K := tm_s o63_107 rfl rfl rfl
theorem o63_109 : tm_op 63 109 = some (.aload 5, (0, 0, 0, 0)) := rfl
theorem r63_109 (d : Nat) (v : Nat) (l0 l1 l2 l3 l4 l6 : Option Value) (st : List Value) (h : tm_H) (K : Option Value → tm_H → Prop) : tm_A d 63 109 [l0, l1, l2, l3, l4, some (.ref v), l6] st h K ↔ tm_A d 63 111 [l0, l1, l2, l3, l4, some (.ref v), l6] (.ref v :: st) h K := tm_s o63_109 rfl rfl rfl
theorem r63_109n (d : Nat)  (l0 l1 l2 l3 l4 l6 : Option Value) (st : List Value) (h : tm_H) (K : Option Value → tm_H → Prop) : tm_A d 63 109 [l0, l1, l2, l3, l4, some .null, l6] st h K ↔ tm_A d 63 111 [l0, l1, l2, l3, l4, some .null, l6] (.null :: st) h K := tm_s o63_109 rfl rfl rfl
theorem o63_111 : tm_op 63 111 = some (.invokestatic 52, (1, 66, 2, 0)) := rfl
theorem r63_111 (d : Nat) (v0 : Nat) (v1 : Nat) (ls : tm_Lo) (st : List Value) (h : tm_H) (K : Option Value → tm_H → Prop) : tm_A (d + 1) 63 111 ls (.ref v1 :: .ref v0 :: st) h K ↔ tm_cs st ∧ tm_R d 66 [.ref v0, .ref v1] h (fun r h' => tm_A (d + 1) 63 114 ls (r.toList ++ st) h' K) := tm_callS (as := [.ref v0, .ref v1]) o63_111 rfl rfl rfl rfl
theorem o63_114 : tm_op 63 114 = some (.ifCond .eq 7, (0, 0, 0, 0)) := rfl
theorem r63_114 (d : Nat) (x : Int32) (ls : tm_Lo) (st : List Value) (h : tm_H) (K : Option Value → tm_H → Prop) : tm_A d 63 114 ls (.int x :: st) h K ↔ if x = 0 then tm_A d 63 121 ls st h K else tm_A d 63 117 ls st h K := tm_b o63_114 rfl rfl rfl rfl
theorem o63_117 : tm_op 63 117 = some (.iconst 4, (0, 0, 0, 0)) := rfl
theorem r63_117 (d : Nat) (ls : tm_Lo) (st : List Value) (h : tm_H) (K : Option Value → tm_H → Prop) : tm_A d 63 117 ls st h K ↔ tm_A d 63 118 ls (.int (4 : Int32) :: st) h K := tm_ic o63_117 (by decide)
theorem o63_118 : tm_op 63 118 = some (.goto 4, (0, 0, 0, 0)) := rfl
theorem r63_118 (d : Nat) (ls : tm_Lo) (st : List Value) (h : tm_H) (K : Option Value → tm_H → Prop) : tm_A d 63 118 ls st h K ↔ tm_A d 63 122 ls st h K := tm_s o63_118 rfl rfl rfl
theorem o63_121 : tm_op 63 121 = some (.iconst 0, (0, 0, 0, 0)) := rfl
theorem r63_121 (d : Nat) (ls : tm_Lo) (st : List Value) (h : tm_H) (K : Option Value → tm_H → Prop) : tm_A d 63 121 ls st h K ↔ tm_A d 63 122 ls (.int (0 : Int32) :: st) h K := tm_ic o63_121 (by decide)
theorem o63_122 : tm_op 63 122 = some (.iadd, (0, 0, 0, 0)) := rfl
theorem r63_122 (d : Nat) (u v : Int32) (ls : tm_Lo) (st : List Value) (h : tm_H) (K : Option Value → tm_H → Prop) : tm_A d 63 122 ls (.int u :: .int v :: st) h K ↔ tm_A d 63 123 ls (.int (v + u) :: st) h K := tm_s o63_122 rfl rfl rfl
theorem o63_123 : tm_op 63 123 = some (.istore 6, (0, 0, 0, 0)) := rfl
theorem r63_123 (d : Nat) (v : Int32) (l0 l1 l2 l3 l4 l5 l6 : Option Value) (st : List Value) (h : tm_H) (K : Option Value → tm_H → Prop) : tm_A d 63 123 [l0, l1, l2, l3, l4, l5, l6] (.int v :: st) h K ↔ tm_A d 63 125 [l0, l1, l2, l3, l4, l5, some (.int v)] st h K := tm_s o63_123 rfl rfl rfl
theorem o63_125 : tm_op 63 125 = some (.iload 6, (0, 0, 0, 0)) := rfl
theorem r63_125 (d : Nat) (v : Int32) (l0 l1 l2 l3 l4 l5 : Option Value) (st : List Value) (h : tm_H) (K : Option Value → tm_H → Prop) : tm_A d 63 125 [l0, l1, l2, l3, l4, l5, some (.int v)] st h K ↔ tm_A d 63 127 [l0, l1, l2, l3, l4, l5, some (.int v)] (.int v :: st) h K := tm_s o63_125 rfl rfl rfl
theorem o63_127 : tm_op 63 127 = some (.ireturn, (0, 0, 0, 0)) := rfl
theorem r63_127 (d : Nat) (v : Int32) (ls : tm_Lo) (h : tm_H) (K : Option Value → tm_H → Prop) : tm_A d 63 127 ls [.int v] h K ↔ K (some (.int v)) h := tm_reti o63_127 rfl
theorem o64_0 : tm_op 64 0 = some (.aload_n 0, (0, 0, 0, 0)) := rfl
theorem r64_0 (d : Nat) (v : Nat) (l1 l2 : Option Value) (st : List Value) (h : tm_H) (K : Option Value → tm_H → Prop) : tm_A d 64 0 [some (.ref v), l1, l2] st h K ↔ tm_A d 64 1 [some (.ref v), l1, l2] (.ref v :: st) h K := tm_s o64_0 rfl rfl rfl
theorem o64_1 : tm_op 64 1 = some (.iload_n 2, (0, 0, 0, 0)) := rfl
theorem r64_1 (d : Nat) (v : Int32) (l0 l1 : Option Value) (st : List Value) (h : tm_H) (K : Option Value → tm_H → Prop) : tm_A d 64 1 [l0, l1, some (.int v)] st h K ↔ tm_A d 64 2 [l0, l1, some (.int v)] (.int v :: st) h K := tm_s o64_1 rfl rfl rfl
theorem o64_2 : tm_op 64 2 = some (.invokevirtual 56, (2, 3, 2, 0)) := rfl
theorem r64_2 (d : Nat) (v1 : Int32) (a : Nat) (ls : tm_Lo) (st : List Value) (h : tm_H) (K : Option Value → tm_H → Prop) : tm_A (d + 1) 64 2 ls (.int v1 :: .ref a :: st) h K ↔ (h.1.2.2 a = (0, 0) ∧ tm_cs st) ∧ tm_R d 3 [.ref a, .int v1] h (fun r h' => tm_A (d + 1) 64 5 ls (r.toList ++ st) h' K) := tm_callV (as := [.int v1]) o64_2 rfl rfl rfl rfl
theorem o64_5 : tm_op 64 5 = some (.ifCond .eq 28, (0, 0, 0, 0)) := rfl
theorem r64_5 (d : Nat) (x : Int32) (ls : tm_Lo) (st : List Value) (h : tm_H) (K : Option Value → tm_H → Prop) : tm_A d 64 5 ls (.int x :: st) h K ↔ if x = 0 then tm_A d 64 33 ls st h K else tm_A d 64 8 ls st h K := tm_b o64_5 rfl rfl rfl rfl
theorem o64_8 : tm_op 64 8 = some (.aload_n 1, (0, 0, 0, 0)) := rfl
theorem r64_8 (d : Nat) (v : Nat) (l0 l2 : Option Value) (st : List Value) (h : tm_H) (K : Option Value → tm_H → Prop) : tm_A d 64 8 [l0, some (.ref v), l2] st h K ↔ tm_A d 64 9 [l0, some (.ref v), l2] (.ref v :: st) h K := tm_s o64_8 rfl rfl rfl
theorem r64_8n (d : Nat)  (l0 l2 : Option Value) (st : List Value) (h : tm_H) (K : Option Value → tm_H → Prop) : tm_A d 64 8 [l0, some .null, l2] st h K ↔ tm_A d 64 9 [l0, some .null, l2] (.null :: st) h K := tm_s o64_8 rfl rfl rfl
theorem o64_9 : tm_op 64 9 = some (.iload_n 2, (0, 0, 0, 0)) := rfl
theorem r64_9 (d : Nat) (v : Int32) (l0 l1 : Option Value) (st : List Value) (h : tm_H) (K : Option Value → tm_H → Prop) : tm_A d 64 9 [l0, l1, some (.int v)] st h K ↔ tm_A d 64 10 [l0, l1, some (.int v)] (.int v :: st) h K := tm_s o64_9 rfl rfl rfl
theorem o64_10 : tm_op 64 10 = some (.invokevirtual 56, (2, 3, 2, 0)) := rfl
theorem r64_10 (d : Nat) (v1 : Int32) (a : Nat) (ls : tm_Lo) (st : List Value) (h : tm_H) (K : Option Value → tm_H → Prop) : tm_A (d + 1) 64 10 ls (.int v1 :: .ref a :: st) h K ↔ (h.1.2.2 a = (0, 0) ∧ tm_cs st) ∧ tm_R d 3 [.ref a, .int v1] h (fun r h' => tm_A (d + 1) 64 13 ls (r.toList ++ st) h' K) := tm_callV (as := [.int v1]) o64_10 rfl rfl rfl rfl
theorem o64_13 : tm_op 64 13 = some (.ifCond .eq 20, (0, 0, 0, 0)) := rfl
theorem r64_13 (d : Nat) (x : Int32) (ls : tm_Lo) (st : List Value) (h : tm_H) (K : Option Value → tm_H → Prop) : tm_A d 64 13 ls (.int x :: st) h K ↔ if x = 0 then tm_A d 64 33 ls st h K else tm_A d 64 16 ls st h K := tm_b o64_13 rfl rfl rfl rfl
theorem o64_16 : tm_op 64 16 = some (.aload_n 0, (0, 0, 0, 0)) := rfl
theorem r64_16 (d : Nat) (v : Nat) (l1 l2 : Option Value) (st : List Value) (h : tm_H) (K : Option Value → tm_H → Prop) : tm_A d 64 16 [some (.ref v), l1, l2] st h K ↔ tm_A d 64 17 [some (.ref v), l1, l2] (.ref v :: st) h K := tm_s o64_16 rfl rfl rfl
theorem o64_17 : tm_op 64 17 = some (.iload_n 2, (0, 0, 0, 0)) := rfl
theorem r64_17 (d : Nat) (v : Int32) (l0 l1 : Option Value) (st : List Value) (h : tm_H) (K : Option Value → tm_H → Prop) : tm_A d 64 17 [l0, l1, some (.int v)] st h K ↔ tm_A d 64 18 [l0, l1, some (.int v)] (.int v :: st) h K := tm_s o64_17 rfl rfl rfl
theorem o64_18 : tm_op 64 18 = some (.invokevirtual 62, (2, 4, 2, 0)) := rfl
theorem r64_18 (d : Nat) (v1 : Int32) (a : Nat) (ls : tm_Lo) (st : List Value) (h : tm_H) (K : Option Value → tm_H → Prop) : tm_A (d + 1) 64 18 ls (.int v1 :: .ref a :: st) h K ↔ (h.1.2.2 a = (0, 0) ∧ tm_cs st) ∧ tm_R d 4 [.ref a, .int v1] h (fun r h' => tm_A (d + 1) 64 21 ls (r.toList ++ st) h' K) := tm_callV (as := [.int v1]) o64_18 rfl rfl rfl rfl
theorem o64_21 : tm_op 64 21 = some (.aload_n 1, (0, 0, 0, 0)) := rfl
theorem r64_21 (d : Nat) (v : Nat) (l0 l2 : Option Value) (st : List Value) (h : tm_H) (K : Option Value → tm_H → Prop) : tm_A d 64 21 [l0, some (.ref v), l2] st h K ↔ tm_A d 64 22 [l0, some (.ref v), l2] (.ref v :: st) h K := tm_s o64_21 rfl rfl rfl
theorem r64_21n (d : Nat)  (l0 l2 : Option Value) (st : List Value) (h : tm_H) (K : Option Value → tm_H → Prop) : tm_A d 64 21 [l0, some .null, l2] st h K ↔ tm_A d 64 22 [l0, some .null, l2] (.null :: st) h K := tm_s o64_21 rfl rfl rfl
theorem o64_22 : tm_op 64 22 = some (.iload_n 2, (0, 0, 0, 0)) := rfl
theorem r64_22 (d : Nat) (v : Int32) (l0 l1 : Option Value) (st : List Value) (h : tm_H) (K : Option Value → tm_H → Prop) : tm_A d 64 22 [l0, l1, some (.int v)] st h K ↔ tm_A d 64 23 [l0, l1, some (.int v)] (.int v :: st) h K := tm_s o64_22 rfl rfl rfl
theorem o64_23 : tm_op 64 23 = some (.invokevirtual 62, (2, 4, 2, 0)) := rfl
theorem r64_23 (d : Nat) (v1 : Int32) (a : Nat) (ls : tm_Lo) (st : List Value) (h : tm_H) (K : Option Value → tm_H → Prop) : tm_A (d + 1) 64 23 ls (.int v1 :: .ref a :: st) h K ↔ (h.1.2.2 a = (0, 0) ∧ tm_cs st) ∧ tm_R d 4 [.ref a, .int v1] h (fun r h' => tm_A (d + 1) 64 26 ls (r.toList ++ st) h' K) := tm_callV (as := [.int v1]) o64_23 rfl rfl rfl rfl
theorem o64_26 : tm_op 64 26 = some (.if_icmp .eq 7, (0, 0, 0, 0)) := rfl
theorem r64_26 (d : Nat) (y x : Int32) (ls : tm_Lo) (st : List Value) (h : tm_H) (K : Option Value → tm_H → Prop) : tm_A d 64 26 ls (.int y :: .int x :: st) h K ↔ if x = y then tm_A d 64 33 ls st h K else tm_A d 64 29 ls st h K := tm_b o64_26 rfl rfl rfl rfl
theorem o64_29 : tm_op 64 29 = some (.iconst 1, (0, 0, 0, 0)) := rfl
theorem r64_29 (d : Nat) (ls : tm_Lo) (st : List Value) (h : tm_H) (K : Option Value → tm_H → Prop) : tm_A d 64 29 ls st h K ↔ tm_A d 64 30 ls (.int (1 : Int32) :: st) h K := tm_ic o64_29 (by decide)
theorem o64_30 : tm_op 64 30 = some (.goto 4, (0, 0, 0, 0)) := rfl
theorem r64_30 (d : Nat) (ls : tm_Lo) (st : List Value) (h : tm_H) (K : Option Value → tm_H → Prop) : tm_A d 64 30 ls st h K ↔ tm_A d 64 34 ls st h K := tm_s o64_30 rfl rfl rfl
theorem o64_33 : tm_op 64 33 = some (.iconst 0, (0, 0, 0, 0)) := rfl
theorem r64_33 (d : Nat) (ls : tm_Lo) (st : List Value) (h : tm_H) (K : Option Value → tm_H → Prop) : tm_A d 64 33 ls st h K ↔ tm_A d 64 34 ls (.int (0 : Int32) :: st) h K := tm_ic o64_33 (by decide)
theorem o64_34 : tm_op 64 34 = some (.ireturn, (0, 0, 0, 0)) := rfl
theorem r64_34 (d : Nat) (v : Int32) (ls : tm_Lo) (h : tm_H) (K : Option Value → tm_H → Prop) : tm_A d 64 34 ls [.int v] h K ↔ (v = 0 ∨ v = 1) ∧ K (some (.int v)) h := tm_retz o64_34 rfl
theorem o65_0 : tm_op 65 0 = some (.aload_n 0, (0, 0, 0, 0)) := rfl
theorem r65_0 (d : Nat) (v : Nat) (l1 : Option Value) (st : List Value) (h : tm_H) (K : Option Value → tm_H → Prop) : tm_A d 65 0 [some (.ref v), l1] st h K ↔ tm_A d 65 1 [some (.ref v), l1] (.ref v :: st) h K := tm_s o65_0 rfl rfl rfl
theorem o65_1 : tm_op 65 1 = some (.aload_n 1, (0, 0, 0, 0)) := rfl
theorem r65_1 (d : Nat) (v : Nat) (l0 : Option Value) (st : List Value) (h : tm_H) (K : Option Value → tm_H → Prop) : tm_A d 65 1 [l0, some (.ref v)] st h K ↔ tm_A d 65 2 [l0, some (.ref v)] (.ref v :: st) h K := tm_s o65_1 rfl rfl rfl
theorem r65_1n (d : Nat)  (l0 : Option Value) (st : List Value) (h : tm_H) (K : Option Value → tm_H → Prop) : tm_A d 65 1 [l0, some .null] st h K ↔ tm_A d 65 2 [l0, some .null] (.null :: st) h K := tm_s o65_1 rfl rfl rfl
theorem o65_2 : tm_op 65 2 = some (.iconst 1, (0, 0, 0, 0)) := rfl
theorem r65_2 (d : Nat) (ls : tm_Lo) (st : List Value) (h : tm_H) (K : Option Value → tm_H → Prop) : tm_A d 65 2 ls st h K ↔ tm_A d 65 3 ls (.int (1 : Int32) :: st) h K := tm_ic o65_2 (by decide)
theorem o65_3 : tm_op 65 3 = some (.invokestatic 40, (1, 64, 3, 0)) := rfl
theorem r65_3 (d : Nat) (v0 : Nat) (v1 : Nat) (v2 : Int32) (ls : tm_Lo) (st : List Value) (h : tm_H) (K : Option Value → tm_H → Prop) : tm_A (d + 1) 65 3 ls (.int v2 :: .ref v1 :: .ref v0 :: st) h K ↔ tm_cs st ∧ tm_R d 64 [.ref v0, .ref v1, .int v2] h (fun r h' => tm_A (d + 1) 65 6 ls (r.toList ++ st) h' K) := tm_callS (as := [.ref v0, .ref v1, .int v2]) o65_3 rfl rfl rfl rfl
theorem o65_6 : tm_op 65 6 = some (.ifCond .eq 20, (0, 0, 0, 0)) := rfl
theorem r65_6 (d : Nat) (x : Int32) (ls : tm_Lo) (st : List Value) (h : tm_H) (K : Option Value → tm_H → Prop) : tm_A d 65 6 ls (.int x :: st) h K ↔ if x = 0 then tm_A d 65 26 ls st h K else tm_A d 65 9 ls st h K := tm_b o65_6 rfl rfl rfl rfl
theorem o65_9 : tm_op 65 9 = some (.aload_n 0, (0, 0, 0, 0)) := rfl
theorem r65_9 (d : Nat) (v : Nat) (l1 : Option Value) (st : List Value) (h : tm_H) (K : Option Value → tm_H → Prop) : tm_A d 65 9 [some (.ref v), l1] st h K ↔ tm_A d 65 10 [some (.ref v), l1] (.ref v :: st) h K := tm_s o65_9 rfl rfl rfl
theorem o65_10 : tm_op 65 10 = some (.iconst 1, (0, 0, 0, 0)) := rfl
theorem r65_10 (d : Nat) (ls : tm_Lo) (st : List Value) (h : tm_H) (K : Option Value → tm_H → Prop) : tm_A d 65 10 ls st h K ↔ tm_A d 65 11 ls (.int (1 : Int32) :: st) h K := tm_ic o65_10 (by decide)
theorem o65_11 : tm_op 65 11 = some (.invokevirtual 62, (2, 4, 2, 0)) := rfl
theorem r65_11 (d : Nat) (v1 : Int32) (a : Nat) (ls : tm_Lo) (st : List Value) (h : tm_H) (K : Option Value → tm_H → Prop) : tm_A (d + 1) 65 11 ls (.int v1 :: .ref a :: st) h K ↔ (h.1.2.2 a = (0, 0) ∧ tm_cs st) ∧ tm_R d 4 [.ref a, .int v1] h (fun r h' => tm_A (d + 1) 65 14 ls (r.toList ++ st) h' K) := tm_callV (as := [.int v1]) o65_11 rfl rfl rfl rfl
theorem o65_14 : tm_op 65 14 = some (.aload_n 1, (0, 0, 0, 0)) := rfl
theorem r65_14 (d : Nat) (v : Nat) (l0 : Option Value) (st : List Value) (h : tm_H) (K : Option Value → tm_H → Prop) : tm_A d 65 14 [l0, some (.ref v)] st h K ↔ tm_A d 65 15 [l0, some (.ref v)] (.ref v :: st) h K := tm_s o65_14 rfl rfl rfl
theorem r65_14n (d : Nat)  (l0 : Option Value) (st : List Value) (h : tm_H) (K : Option Value → tm_H → Prop) : tm_A d 65 14 [l0, some .null] st h K ↔ tm_A d 65 15 [l0, some .null] (.null :: st) h K := tm_s o65_14 rfl rfl rfl
theorem o65_15 : tm_op 65 15 = some (.iconst 1, (0, 0, 0, 0)) := rfl
theorem r65_15 (d : Nat) (ls : tm_Lo) (st : List Value) (h : tm_H) (K : Option Value → tm_H → Prop) : tm_A d 65 15 ls st h K ↔ tm_A d 65 16 ls (.int (1 : Int32) :: st) h K := tm_ic o65_15 (by decide)
theorem o65_16 : tm_op 65 16 = some (.invokevirtual 62, (2, 4, 2, 0)) := rfl
theorem r65_16 (d : Nat) (v1 : Int32) (a : Nat) (ls : tm_Lo) (st : List Value) (h : tm_H) (K : Option Value → tm_H → Prop) : tm_A (d + 1) 65 16 ls (.int v1 :: .ref a :: st) h K ↔ (h.1.2.2 a = (0, 0) ∧ tm_cs st) ∧ tm_R d 4 [.ref a, .int v1] h (fun r h' => tm_A (d + 1) 65 19 ls (r.toList ++ st) h' K) := tm_callV (as := [.int v1]) o65_16 rfl rfl rfl rfl
theorem o65_19 : tm_op 65 19 = some (.isub, (0, 0, 0, 0)) := rfl
theorem r65_19 (d : Nat) (u v : Int32) (ls : tm_Lo) (st : List Value) (h : tm_H) (K : Option Value → tm_H → Prop) : tm_A d 65 19 ls (.int u :: .int v :: st) h K ↔ tm_A d 65 20 ls (.int (v - u) :: st) h K := tm_s o65_19 rfl rfl rfl
theorem o65_20 : tm_op 65 20 = some (.invokestatic 66, (6, 0, 0, 0)) := rfl
theorem r65_20 (d : Nat) (v0 : Int32) (ls : tm_Lo) (st : List Value) (h : tm_H) (K : Option Value → tm_H → Prop) : tm_A (d + 1) 65 20 ls (.int v0 :: st) h K ↔ tm_cs st ∧ tm_A (d + 1) 65 23 ls (.int (if 0 ≤ v0 then v0 else 0 - v0) :: st) h K := tm_abs o65_20 rfl rfl
theorem o65_23 : tm_op 65 23 = some (.goto 4, (0, 0, 0, 0)) := rfl
theorem r65_23 (d : Nat) (ls : tm_Lo) (st : List Value) (h : tm_H) (K : Option Value → tm_H → Prop) : tm_A d 65 23 ls st h K ↔ tm_A d 65 27 ls st h K := tm_s o65_23 rfl rfl rfl
theorem o65_26 : tm_op 65 26 = some (.iconst 0, (0, 0, 0, 0)) := rfl
theorem r65_26 (d : Nat) (ls : tm_Lo) (st : List Value) (h : tm_H) (K : Option Value → tm_H → Prop) : tm_A d 65 26 ls st h K ↔ tm_A d 65 27 ls (.int (0 : Int32) :: st) h K := tm_ic o65_26 (by decide)
theorem o65_27 : tm_op 65 27 = some (.ireturn, (0, 0, 0, 0)) := rfl
theorem r65_27 (d : Nat) (v : Int32) (ls : tm_Lo) (h : tm_H) (K : Option Value → tm_H → Prop) : tm_A d 65 27 ls [.int v] h K ↔ K (some (.int v)) h := tm_reti o65_27 rfl
theorem o66_0 : tm_op 66 0 = some (.aload_n 0, (0, 0, 0, 0)) := rfl
theorem r66_0 (d : Nat) (v : Nat) (l1 : Option Value) (st : List Value) (h : tm_H) (K : Option Value → tm_H → Prop) : tm_A d 66 0 [some (.ref v), l1] st h K ↔ tm_A d 66 1 [some (.ref v), l1] (.ref v :: st) h K := tm_s o66_0 rfl rfl rfl
theorem o66_1 : tm_op 66 1 = some (.iconst 2, (0, 0, 0, 0)) := rfl
theorem r66_1 (d : Nat) (ls : tm_Lo) (st : List Value) (h : tm_H) (K : Option Value → tm_H → Prop) : tm_A d 66 1 ls st h K ↔ tm_A d 66 2 ls (.int (2 : Int32) :: st) h K := tm_ic o66_1 (by decide)
theorem o66_2 : tm_op 66 2 = some (.invokevirtual 56, (2, 3, 2, 0)) := rfl
theorem r66_2 (d : Nat) (v1 : Int32) (a : Nat) (ls : tm_Lo) (st : List Value) (h : tm_H) (K : Option Value → tm_H → Prop) : tm_A (d + 1) 66 2 ls (.int v1 :: .ref a :: st) h K ↔ (h.1.2.2 a = (0, 0) ∧ tm_cs st) ∧ tm_R d 3 [.ref a, .int v1] h (fun r h' => tm_A (d + 1) 66 5 ls (r.toList ++ st) h' K) := tm_callV (as := [.int v1]) o66_2 rfl rfl rfl rfl
theorem o66_5 : tm_op 66 5 = some (.ifCond .eq 11, (0, 0, 0, 0)) := rfl
theorem r66_5 (d : Nat) (x : Int32) (ls : tm_Lo) (st : List Value) (h : tm_H) (K : Option Value → tm_H → Prop) : tm_A d 66 5 ls (.int x :: st) h K ↔ if x = 0 then tm_A d 66 16 ls st h K else tm_A d 66 8 ls st h K := tm_b o66_5 rfl rfl rfl rfl
theorem o66_8 : tm_op 66 8 = some (.aload_n 1, (0, 0, 0, 0)) := rfl
theorem r66_8 (d : Nat) (v : Nat) (l0 : Option Value) (st : List Value) (h : tm_H) (K : Option Value → tm_H → Prop) : tm_A d 66 8 [l0, some (.ref v)] st h K ↔ tm_A d 66 9 [l0, some (.ref v)] (.ref v :: st) h K := tm_s o66_8 rfl rfl rfl
theorem r66_8n (d : Nat)  (l0 : Option Value) (st : List Value) (h : tm_H) (K : Option Value → tm_H → Prop) : tm_A d 66 8 [l0, some .null] st h K ↔ tm_A d 66 9 [l0, some .null] (.null :: st) h K := tm_s o66_8 rfl rfl rfl
theorem o66_9 : tm_op 66 9 = some (.iconst 2, (0, 0, 0, 0)) := rfl
theorem r66_9 (d : Nat) (ls : tm_Lo) (st : List Value) (h : tm_H) (K : Option Value → tm_H → Prop) : tm_A d 66 9 ls st h K ↔ tm_A d 66 10 ls (.int (2 : Int32) :: st) h K := tm_ic o66_9 (by decide)
theorem o66_10 : tm_op 66 10 = some (.invokevirtual 56, (2, 3, 2, 0)) := rfl
theorem r66_10 (d : Nat) (v1 : Int32) (a : Nat) (ls : tm_Lo) (st : List Value) (h : tm_H) (K : Option Value → tm_H → Prop) : tm_A (d + 1) 66 10 ls (.int v1 :: .ref a :: st) h K ↔ (h.1.2.2 a = (0, 0) ∧ tm_cs st) ∧ tm_R d 3 [.ref a, .int v1] h (fun r h' => tm_A (d + 1) 66 13 ls (r.toList ++ st) h' K) := tm_callV (as := [.int v1]) o66_10 rfl rfl rfl rfl
theorem o66_13 : tm_op 66 13 = some (.ifCond .ne 5, (0, 0, 0, 0)) := rfl
theorem r66_13 (d : Nat) (x : Int32) (ls : tm_Lo) (st : List Value) (h : tm_H) (K : Option Value → tm_H → Prop) : tm_A d 66 13 ls (.int x :: st) h K ↔ if ¬ x = 0 then tm_A d 66 18 ls st h K else tm_A d 66 16 ls st h K := tm_b o66_13 rfl rfl rfl rfl
theorem o66_16 : tm_op 66 16 = some (.iconst 0, (0, 0, 0, 0)) := rfl
theorem r66_16 (d : Nat) (ls : tm_Lo) (st : List Value) (h : tm_H) (K : Option Value → tm_H → Prop) : tm_A d 66 16 ls st h K ↔ tm_A d 66 17 ls (.int (0 : Int32) :: st) h K := tm_ic o66_16 (by decide)
theorem o66_17 : tm_op 66 17 = some (.ireturn, (0, 0, 0, 0)) := rfl
theorem r66_17 (d : Nat) (v : Int32) (ls : tm_Lo) (h : tm_H) (K : Option Value → tm_H → Prop) : tm_A d 66 17 ls [.int v] h K ↔ (v = 0 ∨ v = 1) ∧ K (some (.int v)) h := tm_retz o66_17 rfl
theorem o66_18 : tm_op 66 18 = some (.aload_n 0, (0, 0, 0, 0)) := rfl
theorem r66_18 (d : Nat) (v : Nat) (l1 : Option Value) (st : List Value) (h : tm_H) (K : Option Value → tm_H → Prop) : tm_A d 66 18 [some (.ref v), l1] st h K ↔ tm_A d 66 19 [some (.ref v), l1] (.ref v :: st) h K := tm_s o66_18 rfl rfl rfl
theorem o66_19 : tm_op 66 19 = some (.invokevirtual 71, (2, 5, 1, 0)) := rfl
theorem r66_19 (d : Nat) (a : Nat) (ls : tm_Lo) (st : List Value) (h : tm_H) (K : Option Value → tm_H → Prop) : tm_A (d + 1) 66 19 ls (.ref a :: st) h K ↔ (h.1.2.2 a = (0, 0) ∧ tm_cs st) ∧ tm_R d 5 [.ref a] h (fun r h' => tm_A (d + 1) 66 22 ls (r.toList ++ st) h' K) := tm_callV (as := []) o66_19 rfl rfl rfl rfl
theorem o66_22 : tm_op 66 22 = some (.aload_n 1, (0, 0, 0, 0)) := rfl
theorem r66_22 (d : Nat) (v : Nat) (l0 : Option Value) (st : List Value) (h : tm_H) (K : Option Value → tm_H → Prop) : tm_A d 66 22 [l0, some (.ref v)] st h K ↔ tm_A d 66 23 [l0, some (.ref v)] (.ref v :: st) h K := tm_s o66_22 rfl rfl rfl
theorem r66_22n (d : Nat)  (l0 : Option Value) (st : List Value) (h : tm_H) (K : Option Value → tm_H → Prop) : tm_A d 66 22 [l0, some .null] st h K ↔ tm_A d 66 23 [l0, some .null] (.null :: st) h K := tm_s o66_22 rfl rfl rfl
theorem o66_23 : tm_op 66 23 = some (.iconst 2, (0, 0, 0, 0)) := rfl
theorem r66_23 (d : Nat) (ls : tm_Lo) (st : List Value) (h : tm_H) (K : Option Value → tm_H → Prop) : tm_A d 66 23 ls st h K ↔ tm_A d 66 24 ls (.int (2 : Int32) :: st) h K := tm_ic o66_23 (by decide)
theorem o66_24 : tm_op 66 24 = some (.invokevirtual 62, (2, 4, 2, 0)) := rfl
theorem r66_24 (d : Nat) (v1 : Int32) (a : Nat) (ls : tm_Lo) (st : List Value) (h : tm_H) (K : Option Value → tm_H → Prop) : tm_A (d + 1) 66 24 ls (.int v1 :: .ref a :: st) h K ↔ (h.1.2.2 a = (0, 0) ∧ tm_cs st) ∧ tm_R d 4 [.ref a, .int v1] h (fun r h' => tm_A (d + 1) 66 27 ls (r.toList ++ st) h' K) := tm_callV (as := [.int v1]) o66_24 rfl rfl rfl rfl
theorem o66_27 : tm_op 66 27 = some (.if_icmp .lt 15, (0, 0, 0, 0)) := rfl
theorem r66_27 (d : Nat) (y x : Int32) (ls : tm_Lo) (st : List Value) (h : tm_H) (K : Option Value → tm_H → Prop) : tm_A d 66 27 ls (.int y :: .int x :: st) h K ↔ if x < y then tm_A d 66 42 ls st h K else tm_A d 66 30 ls st h K := tm_b o66_27 rfl rfl rfl rfl
theorem o66_30 : tm_op 66 30 = some (.aload_n 1, (0, 0, 0, 0)) := rfl
theorem r66_30 (d : Nat) (v : Nat) (l0 : Option Value) (st : List Value) (h : tm_H) (K : Option Value → tm_H → Prop) : tm_A d 66 30 [l0, some (.ref v)] st h K ↔ tm_A d 66 31 [l0, some (.ref v)] (.ref v :: st) h K := tm_s o66_30 rfl rfl rfl
theorem r66_30n (d : Nat)  (l0 : Option Value) (st : List Value) (h : tm_H) (K : Option Value → tm_H → Prop) : tm_A d 66 30 [l0, some .null] st h K ↔ tm_A d 66 31 [l0, some .null] (.null :: st) h K := tm_s o66_30 rfl rfl rfl
theorem o66_31 : tm_op 66 31 = some (.invokevirtual 71, (2, 5, 1, 0)) := rfl
theorem r66_31 (d : Nat) (a : Nat) (ls : tm_Lo) (st : List Value) (h : tm_H) (K : Option Value → tm_H → Prop) : tm_A (d + 1) 66 31 ls (.ref a :: st) h K ↔ (h.1.2.2 a = (0, 0) ∧ tm_cs st) ∧ tm_R d 5 [.ref a] h (fun r h' => tm_A (d + 1) 66 34 ls (r.toList ++ st) h' K) := tm_callV (as := []) o66_31 rfl rfl rfl rfl
theorem o66_34 : tm_op 66 34 = some (.aload_n 0, (0, 0, 0, 0)) := rfl
theorem r66_34 (d : Nat) (v : Nat) (l1 : Option Value) (st : List Value) (h : tm_H) (K : Option Value → tm_H → Prop) : tm_A d 66 34 [some (.ref v), l1] st h K ↔ tm_A d 66 35 [some (.ref v), l1] (.ref v :: st) h K := tm_s o66_34 rfl rfl rfl
theorem o66_35 : tm_op 66 35 = some (.iconst 2, (0, 0, 0, 0)) := rfl
theorem r66_35 (d : Nat) (ls : tm_Lo) (st : List Value) (h : tm_H) (K : Option Value → tm_H → Prop) : tm_A d 66 35 ls st h K ↔ tm_A d 66 36 ls (.int (2 : Int32) :: st) h K := tm_ic o66_35 (by decide)
theorem o66_36 : tm_op 66 36 = some (.invokevirtual 62, (2, 4, 2, 0)) := rfl
theorem r66_36 (d : Nat) (v1 : Int32) (a : Nat) (ls : tm_Lo) (st : List Value) (h : tm_H) (K : Option Value → tm_H → Prop) : tm_A (d + 1) 66 36 ls (.int v1 :: .ref a :: st) h K ↔ (h.1.2.2 a = (0, 0) ∧ tm_cs st) ∧ tm_R d 4 [.ref a, .int v1] h (fun r h' => tm_A (d + 1) 66 39 ls (r.toList ++ st) h' K) := tm_callV (as := [.int v1]) o66_36 rfl rfl rfl rfl
theorem o66_39 : tm_op 66 39 = some (.if_icmp .ge 7, (0, 0, 0, 0)) := rfl
theorem r66_39 (d : Nat) (y x : Int32) (ls : tm_Lo) (st : List Value) (h : tm_H) (K : Option Value → tm_H → Prop) : tm_A d 66 39 ls (.int y :: .int x :: st) h K ↔ if y ≤ x then tm_A d 66 46 ls st h K else tm_A d 66 42 ls st h K := tm_b o66_39 rfl rfl rfl rfl
theorem o66_42 : tm_op 66 42 = some (.iconst 1, (0, 0, 0, 0)) := rfl
theorem r66_42 (d : Nat) (ls : tm_Lo) (st : List Value) (h : tm_H) (K : Option Value → tm_H → Prop) : tm_A d 66 42 ls st h K ↔ tm_A d 66 43 ls (.int (1 : Int32) :: st) h K := tm_ic o66_42 (by decide)
theorem o66_43 : tm_op 66 43 = some (.goto 4, (0, 0, 0, 0)) := rfl
theorem r66_43 (d : Nat) (ls : tm_Lo) (st : List Value) (h : tm_H) (K : Option Value → tm_H → Prop) : tm_A d 66 43 ls st h K ↔ tm_A d 66 47 ls st h K := tm_s o66_43 rfl rfl rfl
theorem o66_46 : tm_op 66 46 = some (.iconst 0, (0, 0, 0, 0)) := rfl
theorem r66_46 (d : Nat) (ls : tm_Lo) (st : List Value) (h : tm_H) (K : Option Value → tm_H → Prop) : tm_A d 66 46 ls st h K ↔ tm_A d 66 47 ls (.int (0 : Int32) :: st) h K := tm_ic o66_46 (by decide)
theorem o66_47 : tm_op 66 47 = some (.ireturn, (0, 0, 0, 0)) := rfl
theorem r66_47 (d : Nat) (v : Int32) (ls : tm_Lo) (h : tm_H) (K : Option Value → tm_H → Prop) : tm_A d 66 47 ls [.int v] h K ↔ (v = 0 ∨ v = 1) ∧ K (some (.int v)) h := tm_retz o66_47 rfl
theorem o67_0 : tm_op 67 0 = some (.iconst 0, (0, 0, 0, 0)) := rfl
theorem r67_0 (d : Nat) (ls : tm_Lo) (st : List Value) (h : tm_H) (K : Option Value → tm_H → Prop) : tm_A d 67 0 ls st h K ↔ tm_A d 67 1 ls (.int (0 : Int32) :: st) h K := tm_ic o67_0 (by decide)
theorem o67_1 : tm_op 67 1 = some (.istore_n 3, (0, 0, 0, 0)) := rfl
theorem r67_1 (d : Nat) (v : Int32) (l0 l1 l2 l3 l4 l5 l6 : Option Value) (st : List Value) (h : tm_H) (K : Option Value → tm_H → Prop) : tm_A d 67 1 [l0, l1, l2, l3, l4, l5, l6] (.int v :: st) h K ↔ tm_A d 67 2 [l0, l1, l2, some (.int v), l4, l5, l6] st h K := tm_s o67_1 rfl rfl rfl
theorem o67_2 : tm_op 67 2 = some (.iconst 0, (0, 0, 0, 0)) := rfl
theorem r67_2 (d : Nat) (ls : tm_Lo) (st : List Value) (h : tm_H) (K : Option Value → tm_H → Prop) : tm_A d 67 2 ls st h K ↔ tm_A d 67 3 ls (.int (0 : Int32) :: st) h K := tm_ic o67_2 (by decide)
theorem o67_3 : tm_op 67 3 = some (.istore 4, (0, 0, 0, 0)) := rfl
theorem r67_3 (d : Nat) (v : Int32) (l0 l1 l2 l3 l4 l5 l6 : Option Value) (st : List Value) (h : tm_H) (K : Option Value → tm_H → Prop) : tm_A d 67 3 [l0, l1, l2, l3, l4, l5, l6] (.int v :: st) h K ↔ tm_A d 67 5 [l0, l1, l2, l3, some (.int v), l5, l6] st h K := tm_s o67_3 rfl rfl rfl
theorem o67_5 : tm_op 67 5 = some (.iload 4, (0, 0, 0, 0)) := rfl
theorem r67_5 (d : Nat) (v : Int32) (l0 l1 l2 l3 l5 l6 : Option Value) (st : List Value) (h : tm_H) (K : Option Value → tm_H → Prop) : tm_A d 67 5 [l0, l1, l2, l3, some (.int v), l5, l6] st h K ↔ tm_A d 67 7 [l0, l1, l2, l3, some (.int v), l5, l6] (.int v :: st) h K := tm_s o67_5 rfl rfl rfl
theorem o67_7 : tm_op 67 7 = some (.iconst 3, (0, 0, 0, 0)) := rfl
theorem r67_7 (d : Nat) (ls : tm_Lo) (st : List Value) (h : tm_H) (K : Option Value → tm_H → Prop) : tm_A d 67 7 ls st h K ↔ tm_A d 67 8 ls (.int (3 : Int32) :: st) h K := tm_ic o67_7 (by decide)
theorem o67_8 : tm_op 67 8 = some (.if_icmp .ge 63, (0, 0, 0, 0)) := rfl
theorem r67_8 (d : Nat) (y x : Int32) (ls : tm_Lo) (st : List Value) (h : tm_H) (K : Option Value → tm_H → Prop) : tm_A d 67 8 ls (.int y :: .int x :: st) h K ↔ if y ≤ x then tm_A d 67 71 ls st h K else tm_A d 67 11 ls st h K := tm_b o67_8 rfl rfl rfl rfl
theorem o67_11 : tm_op 67 11 = some (.aload_n 1, (0, 0, 0, 0)) := rfl
theorem r67_11 (d : Nat) (v : Nat) (l0 l2 l3 l4 l5 l6 : Option Value) (st : List Value) (h : tm_H) (K : Option Value → tm_H → Prop) : tm_A d 67 11 [l0, some (.ref v), l2, l3, l4, l5, l6] st h K ↔ tm_A d 67 12 [l0, some (.ref v), l2, l3, l4, l5, l6] (.ref v :: st) h K := tm_s o67_11 rfl rfl rfl
theorem r67_11n (d : Nat)  (l0 l2 l3 l4 l5 l6 : Option Value) (st : List Value) (h : tm_H) (K : Option Value → tm_H → Prop) : tm_A d 67 11 [l0, some .null, l2, l3, l4, l5, l6] st h K ↔ tm_A d 67 12 [l0, some .null, l2, l3, l4, l5, l6] (.null :: st) h K := tm_s o67_11 rfl rfl rfl
theorem o67_12 : tm_op 67 12 = some (.iload 4, (0, 0, 0, 0)) := rfl
theorem r67_12 (d : Nat) (v : Int32) (l0 l1 l2 l3 l5 l6 : Option Value) (st : List Value) (h : tm_H) (K : Option Value → tm_H → Prop) : tm_A d 67 12 [l0, l1, l2, l3, some (.int v), l5, l6] st h K ↔ tm_A d 67 14 [l0, l1, l2, l3, some (.int v), l5, l6] (.int v :: st) h K := tm_s o67_12 rfl rfl rfl
theorem o67_14 : tm_op 67 14 = some (.invokevirtual 74, (2, 6, 2, 0)) := rfl
theorem r67_14 (d : Nat) (v1 : Int32) (a : Nat) (ls : tm_Lo) (st : List Value) (h : tm_H) (K : Option Value → tm_H → Prop) : tm_A (d + 1) 67 14 ls (.int v1 :: .ref a :: st) h K ↔ (h.1.2.2 a = (0, 0) ∧ tm_cs st) ∧ tm_R d 6 [.ref a, .int v1] h (fun r h' => tm_A (d + 1) 67 17 ls (r.toList ++ st) h' K) := tm_callV (as := [.int v1]) o67_14 rfl rfl rfl rfl
theorem o67_17 : tm_op 67 17 = some (.istore 5, (0, 0, 0, 0)) := rfl
theorem r67_17 (d : Nat) (v : Int32) (l0 l1 l2 l3 l4 l5 l6 : Option Value) (st : List Value) (h : tm_H) (K : Option Value → tm_H → Prop) : tm_A d 67 17 [l0, l1, l2, l3, l4, l5, l6] (.int v :: st) h K ↔ tm_A d 67 19 [l0, l1, l2, l3, l4, some (.int v), l6] st h K := tm_s o67_17 rfl rfl rfl
theorem o67_19 : tm_op 67 19 = some (.iload 5, (0, 0, 0, 0)) := rfl
theorem r67_19 (d : Nat) (v : Int32) (l0 l1 l2 l3 l4 l6 : Option Value) (st : List Value) (h : tm_H) (K : Option Value → tm_H → Prop) : tm_A d 67 19 [l0, l1, l2, l3, l4, some (.int v), l6] st h K ↔ tm_A d 67 21 [l0, l1, l2, l3, l4, some (.int v), l6] (.int v :: st) h K := tm_s o67_19 rfl rfl rfl
theorem o67_21 : tm_op 67 21 = some (.iconst (-1), (0, 0, 0, 0)) := rfl
theorem r67_21 (d : Nat) (ls : tm_Lo) (st : List Value) (h : tm_H) (K : Option Value → tm_H → Prop) : tm_A d 67 21 ls st h K ↔ tm_A d 67 22 ls (.int (-1 : Int32) :: st) h K := tm_ic o67_21 (by decide)
theorem o67_22 : tm_op 67 22 = some (.if_icmp .eq 21, (0, 0, 0, 0)) := rfl
theorem r67_22 (d : Nat) (y x : Int32) (ls : tm_Lo) (st : List Value) (h : tm_H) (K : Option Value → tm_H → Prop) : tm_A d 67 22 ls (.int y :: .int x :: st) h K ↔ if x = y then tm_A d 67 43 ls st h K else tm_A d 67 25 ls st h K := tm_b o67_22 rfl rfl rfl rfl
theorem o67_25 : tm_op 67 25 = some (.aload_n 2, (0, 0, 0, 0)) := rfl
theorem r67_25 (d : Nat) (v : Nat) (l0 l1 l3 l4 l5 l6 : Option Value) (st : List Value) (h : tm_H) (K : Option Value → tm_H → Prop) : tm_A d 67 25 [l0, l1, some (.ref v), l3, l4, l5, l6] st h K ↔ tm_A d 67 26 [l0, l1, some (.ref v), l3, l4, l5, l6] (.ref v :: st) h K := tm_s o67_25 rfl rfl rfl
theorem r67_25n (d : Nat)  (l0 l1 l3 l4 l5 l6 : Option Value) (st : List Value) (h : tm_H) (K : Option Value → tm_H → Prop) : tm_A d 67 25 [l0, l1, some .null, l3, l4, l5, l6] st h K ↔ tm_A d 67 26 [l0, l1, some .null, l3, l4, l5, l6] (.null :: st) h K := tm_s o67_25 rfl rfl rfl
theorem o67_26 : tm_op 67 26 = some (.iload 5, (0, 0, 0, 0)) := rfl
theorem r67_26 (d : Nat) (v : Int32) (l0 l1 l2 l3 l4 l6 : Option Value) (st : List Value) (h : tm_H) (K : Option Value → tm_H → Prop) : tm_A d 67 26 [l0, l1, l2, l3, l4, some (.int v), l6] st h K ↔ tm_A d 67 28 [l0, l1, l2, l3, l4, some (.int v), l6] (.int v :: st) h K := tm_s o67_26 rfl rfl rfl
theorem o67_28 : tm_op 67 28 = some (.invokevirtual 77, (2, 8, 2, 0)) := rfl
theorem r67_28 (d : Nat) (v1 : Int32) (a : Nat) (ls : tm_Lo) (st : List Value) (h : tm_H) (K : Option Value → tm_H → Prop) : tm_A (d + 1) 67 28 ls (.int v1 :: .ref a :: st) h K ↔ (h.1.2.2 a = (0, 0) ∧ tm_cs st) ∧ tm_R d 8 [.ref a, .int v1] h (fun r h' => tm_A (d + 1) 67 31 ls (r.toList ++ st) h' K) := tm_callV (as := [.int v1]) o67_28 rfl rfl rfl rfl
theorem o67_31 : tm_op 67 31 = some (.ifCond .eq 12, (0, 0, 0, 0)) := rfl
theorem r67_31 (d : Nat) (x : Int32) (ls : tm_Lo) (st : List Value) (h : tm_H) (K : Option Value → tm_H → Prop) : tm_A d 67 31 ls (.int x :: st) h K ↔ if x = 0 then tm_A d 67 43 ls st h K else tm_A d 67 34 ls st h K := tm_b o67_31 rfl rfl rfl rfl
theorem o67_34 : tm_op 67 34 = some (.aload_n 0, (0, 0, 0, 0)) := rfl
theorem r67_34 (d : Nat) (v : Nat) (l1 l2 l3 l4 l5 l6 : Option Value) (st : List Value) (h : tm_H) (K : Option Value → tm_H → Prop) : tm_A d 67 34 [some (.ref v), l1, l2, l3, l4, l5, l6] st h K ↔ tm_A d 67 35 [some (.ref v), l1, l2, l3, l4, l5, l6] (.ref v :: st) h K := tm_s o67_34 rfl rfl rfl
theorem o67_35 : tm_op 67 35 = some (.iload 5, (0, 0, 0, 0)) := rfl
theorem r67_35 (d : Nat) (v : Int32) (l0 l1 l2 l3 l4 l6 : Option Value) (st : List Value) (h : tm_H) (K : Option Value → tm_H → Prop) : tm_A d 67 35 [l0, l1, l2, l3, l4, some (.int v), l6] st h K ↔ tm_A d 67 37 [l0, l1, l2, l3, l4, some (.int v), l6] (.int v :: st) h K := tm_s o67_35 rfl rfl rfl
theorem o67_37 : tm_op 67 37 = some (.invokevirtual 80, (2, 47, 2, 4)) := rfl
theorem r67_37 (d : Nat) (v1 : Int32) (a : Nat) (ls : tm_Lo) (st : List Value) (h : tm_H) (K : Option Value → tm_H → Prop) : tm_A (d + 1) 67 37 ls (.int v1 :: .ref a :: st) h K ↔ (h.1.2.2 a = (0, 4) ∧ tm_cs st) ∧ tm_R d 47 [.ref a, .int v1] h (fun r h' => tm_A (d + 1) 67 40 ls (r.toList ++ st) h' K) := tm_callV (as := [.int v1]) o67_37 rfl rfl rfl rfl
theorem o67_40 : tm_op 67 40 = some (.goto 4, (0, 0, 0, 0)) := rfl
theorem r67_40 (d : Nat) (ls : tm_Lo) (st : List Value) (h : tm_H) (K : Option Value → tm_H → Prop) : tm_A d 67 40 ls st h K ↔ tm_A d 67 44 ls st h K := tm_s o67_40 rfl rfl rfl
theorem o67_43 : tm_op 67 43 = some (.iconst 0, (0, 0, 0, 0)) := rfl
theorem r67_43 (d : Nat) (ls : tm_Lo) (st : List Value) (h : tm_H) (K : Option Value → tm_H → Prop) : tm_A d 67 43 ls st h K ↔ tm_A d 67 44 ls (.int (0 : Int32) :: st) h K := tm_ic o67_43 (by decide)
theorem o67_44 : tm_op 67 44 = some (.istore 6, (0, 0, 0, 0)) := rfl
theorem r67_44 (d : Nat) (v : Int32) (l0 l1 l2 l3 l4 l5 l6 : Option Value) (st : List Value) (h : tm_H) (K : Option Value → tm_H → Prop) : tm_A d 67 44 [l0, l1, l2, l3, l4, l5, l6] (.int v :: st) h K ↔ tm_A d 67 46 [l0, l1, l2, l3, l4, l5, some (.int v)] st h K := tm_s o67_44 rfl rfl rfl
theorem o67_46 : tm_op 67 46 = some (.iload 6, (0, 0, 0, 0)) := rfl
theorem r67_46 (d : Nat) (v : Int32) (l0 l1 l2 l3 l4 l5 : Option Value) (st : List Value) (h : tm_H) (K : Option Value → tm_H → Prop) : tm_A d 67 46 [l0, l1, l2, l3, l4, l5, some (.int v)] st h K ↔ tm_A d 67 48 [l0, l1, l2, l3, l4, l5, some (.int v)] (.int v :: st) h K := tm_s o67_46 rfl rfl rfl
theorem o67_48 : tm_op 67 48 = some (.ifCond .le 17, (0, 0, 0, 0)) := rfl
theorem r67_48 (d : Nat) (x : Int32) (ls : tm_Lo) (st : List Value) (h : tm_H) (K : Option Value → tm_H → Prop) : tm_A d 67 48 ls (.int x :: st) h K ↔ if x ≤ 0 then tm_A d 67 65 ls st h K else tm_A d 67 51 ls st h K := tm_b o67_48 rfl rfl rfl rfl
theorem o67_51 : tm_op 67 51 = some (.iload 6, (0, 0, 0, 0)) := rfl
theorem r67_51 (d : Nat) (v : Int32) (l0 l1 l2 l3 l4 l5 : Option Value) (st : List Value) (h : tm_H) (K : Option Value → tm_H → Prop) : tm_A d 67 51 [l0, l1, l2, l3, l4, l5, some (.int v)] st h K ↔ tm_A d 67 53 [l0, l1, l2, l3, l4, l5, some (.int v)] (.int v :: st) h K := tm_s o67_51 rfl rfl rfl
theorem o67_53 : tm_op 67 53 = some (.iconst 4, (0, 0, 0, 0)) := rfl
theorem r67_53 (d : Nat) (ls : tm_Lo) (st : List Value) (h : tm_H) (K : Option Value → tm_H → Prop) : tm_A d 67 53 ls st h K ↔ tm_A d 67 54 ls (.int (4 : Int32) :: st) h K := tm_ic o67_53 (by decide)
theorem o67_54 : tm_op 67 54 = some (.if_icmp .gt 11, (0, 0, 0, 0)) := rfl
theorem r67_54 (d : Nat) (y x : Int32) (ls : tm_Lo) (st : List Value) (h : tm_H) (K : Option Value → tm_H → Prop) : tm_A d 67 54 ls (.int y :: .int x :: st) h K ↔ if y < x then tm_A d 67 65 ls st h K else tm_A d 67 57 ls st h K := tm_b o67_54 rfl rfl rfl rfl
theorem o67_57 : tm_op 67 57 = some (.iload_n 3, (0, 0, 0, 0)) := rfl
theorem r67_57 (d : Nat) (v : Int32) (l0 l1 l2 l4 l5 l6 : Option Value) (st : List Value) (h : tm_H) (K : Option Value → tm_H → Prop) : tm_A d 67 57 [l0, l1, l2, some (.int v), l4, l5, l6] st h K ↔ tm_A d 67 58 [l0, l1, l2, some (.int v), l4, l5, l6] (.int v :: st) h K := tm_s o67_57 rfl rfl rfl
theorem o67_58 : tm_op 67 58 = some (.bipush 12, (0, 0, 0, 0)) := rfl
theorem r67_58 (d : Nat) (ls : tm_Lo) (st : List Value) (h : tm_H) (K : Option Value → tm_H → Prop) : tm_A d 67 58 ls st h K ↔ tm_A d 67 60 ls (.int (12 : Int32) :: st) h K := tm_bp o67_58 (by decide)
theorem o67_60 : tm_op 67 60 = some (.iload 6, (0, 0, 0, 0)) := rfl
theorem r67_60 (d : Nat) (v : Int32) (l0 l1 l2 l3 l4 l5 : Option Value) (st : List Value) (h : tm_H) (K : Option Value → tm_H → Prop) : tm_A d 67 60 [l0, l1, l2, l3, l4, l5, some (.int v)] st h K ↔ tm_A d 67 62 [l0, l1, l2, l3, l4, l5, some (.int v)] (.int v :: st) h K := tm_s o67_60 rfl rfl rfl
theorem o67_62 : tm_op 67 62 = some (.idiv, (0, 0, 0, 0)) := rfl
theorem r67_62 (d : Nat) (u v : Int32) (ls : tm_Lo) (st : List Value) (h : tm_H) (K : Option Value → tm_H → Prop) : tm_A d 67 62 ls (.int u :: .int v :: st) h K ↔ ¬ u = 0 ∧ tm_A d 67 63 ls (.int (v / u) :: st) h K := tm_idv o67_62
theorem o67_63 : tm_op 67 63 = some (.iadd, (0, 0, 0, 0)) := rfl
theorem r67_63 (d : Nat) (u v : Int32) (ls : tm_Lo) (st : List Value) (h : tm_H) (K : Option Value → tm_H → Prop) : tm_A d 67 63 ls (.int u :: .int v :: st) h K ↔ tm_A d 67 64 ls (.int (v + u) :: st) h K := tm_s o67_63 rfl rfl rfl
theorem o67_64 : tm_op 67 64 = some (.istore_n 3, (0, 0, 0, 0)) := rfl
theorem r67_64 (d : Nat) (v : Int32) (l0 l1 l2 l3 l4 l5 l6 : Option Value) (st : List Value) (h : tm_H) (K : Option Value → tm_H → Prop) : tm_A d 67 64 [l0, l1, l2, l3, l4, l5, l6] (.int v :: st) h K ↔ tm_A d 67 65 [l0, l1, l2, some (.int v), l4, l5, l6] st h K := tm_s o67_64 rfl rfl rfl
theorem o67_65 : tm_op 67 65 = some (.iinc 4 1, (0, 0, 0, 0)) := rfl
theorem r67_65 (d : Nat) (v : Int32) (l0 l1 l2 l3 l5 l6 : Option Value) (st : List Value) (h : tm_H) (K : Option Value → tm_H → Prop) : tm_A d 67 65 [l0, l1, l2, l3, some (.int v), l5, l6] st h K ↔ tm_A d 67 68 [l0, l1, l2, l3, some (.int (v + (1 : Int32))), l5, l6] st h K := tm_s o67_65 rfl rfl rfl
theorem o67_68 : tm_op 67 68 = some (.goto (-63), (0, 0, 0, 0)) := rfl
theorem r67_68 (d : Nat) (ls : tm_Lo) (st : List Value) (h : tm_H) (K : Option Value → tm_H → Prop) : tm_A d 67 68 ls st h K ↔ tm_A d 67 5 ls st h K := tm_s o67_68 rfl rfl rfl
theorem o67_71 : tm_op 67 71 = some (.iload_n 3, (0, 0, 0, 0)) := rfl
theorem r67_71 (d : Nat) (v : Int32) (l0 l1 l2 l4 l5 l6 : Option Value) (st : List Value) (h : tm_H) (K : Option Value → tm_H → Prop) : tm_A d 67 71 [l0, l1, l2, some (.int v), l4, l5, l6] st h K ↔ tm_A d 67 72 [l0, l1, l2, some (.int v), l4, l5, l6] (.int v :: st) h K := tm_s o67_71 rfl rfl rfl
theorem o67_72 : tm_op 67 72 = some (.ireturn, (0, 0, 0, 0)) := rfl
theorem r67_72 (d : Nat) (v : Int32) (ls : tm_Lo) (h : tm_H) (K : Option Value → tm_H → Prop) : tm_A d 67 72 ls [.int v] h K ↔ K (some (.int v)) h := tm_reti o67_72 rfl
theorem o68_0 : tm_op 68 0 = some (.aload_n 0, (0, 0, 0, 0)) := rfl
theorem r68_0 (d : Nat) (v : Nat) (st : List Value) (h : tm_H) (K : Option Value → tm_H → Prop) : tm_A d 68 0 [some (.ref v)] st h K ↔ tm_A d 68 1 [some (.ref v)] (.ref v :: st) h K := tm_s o68_0 rfl rfl rfl
theorem o68_1 : tm_op 68 1 = some (.invokespecial 3, (4, 0, 0, 0)) := rfl
theorem r68_1 (d : Nat) (a : Nat) (ls : tm_Lo) (st : List Value) (h : tm_H) (K : Option Value → tm_H → Prop) : tm_A (d + 1) 68 1 ls (.ref a :: st) h K ↔ tm_cs st ∧ tm_A (d + 1) 68 4 ls st h K := tm_obj o68_1 rfl rfl
theorem o68_4 : tm_op 68 4 = some (.aload_n 0, (0, 0, 0, 0)) := rfl
theorem r68_4 (d : Nat) (v : Nat) (st : List Value) (h : tm_H) (K : Option Value → tm_H → Prop) : tm_A d 68 4 [some (.ref v)] st h K ↔ tm_A d 68 5 [some (.ref v)] (.ref v :: st) h K := tm_s o68_4 rfl rfl rfl
theorem o68_5 : tm_op 68 5 = some (.bipush 100, (0, 0, 0, 0)) := rfl
theorem r68_5 (d : Nat) (ls : tm_Lo) (st : List Value) (h : tm_H) (K : Option Value → tm_H → Prop) : tm_A d 68 5 ls st h K ↔ tm_A d 68 7 ls (.int (100 : Int32) :: st) h K := tm_bp o68_5 (by decide)
theorem o68_7 : tm_op 68 7 = some (.newarray .int, (1, 0, 0, 0)) := rfl
theorem r68_7 (d : Nat) (v : Int32) (ls : tm_Lo) (st : List Value) (G : tm_G) (I : Nat → Nat → Int32) (J : Nat → Nat → Int64) (R : Nat → Nat → Option Nat) (K : Option Value → tm_H → Prop) : tm_A d 68 7 ls (.int v :: st) (G, I, J, R) K ↔ (¬ v < 0 ∧ (tm_ix v) ≤ 100000) ∧ tm_A d 68 9 ls (.ref G.1 :: st) (tm_nw (1, (tm_ix v)) (tm_ix v) (G, I, J, R)) K := tm_newa o68_7
theorem o68_9 : tm_op 68 9 = some (.putfield 9, (2, 7, 0, 0)) := rfl
theorem r68_9 (d : Nat) (v : Nat) (a : Nat) (ls : tm_Lo) (st : List Value) (G : tm_G) (I : Nat → Nat → Int32) (J : Nat → Nat → Int64) (R : Nat → Nat → Option Nat) (K : Option Value → tm_H → Prop) : tm_A d 68 9 ls (.ref v :: .ref a :: st) (G, I, J, R) K ↔ G.2.2 a = (0, 7) ∧ tm_A d 68 12 ls st (G, I, J, up2 R a 0 (some v)) K := tm_putR o68_9
theorem o68_12 : tm_op 68 12 = some (.aload_n 0, (0, 0, 0, 0)) := rfl
theorem r68_12 (d : Nat) (v : Nat) (st : List Value) (h : tm_H) (K : Option Value → tm_H → Prop) : tm_A d 68 12 [some (.ref v)] st h K ↔ tm_A d 68 13 [some (.ref v)] (.ref v :: st) h K := tm_s o68_12 rfl rfl rfl
theorem o68_13 : tm_op 68 13 = some (.iconst 0, (0, 0, 0, 0)) := rfl
theorem r68_13 (d : Nat) (ls : tm_Lo) (st : List Value) (h : tm_H) (K : Option Value → tm_H → Prop) : tm_A d 68 13 ls st h K ↔ tm_A d 68 14 ls (.int (0 : Int32) :: st) h K := tm_ic o68_13 (by decide)
theorem o68_14 : tm_op 68 14 = some (.putfield 15, (0, 7, 1, 0)) := rfl
theorem r68_14 (d : Nat) (v : Int32) (a : Nat) (ls : tm_Lo) (st : List Value) (G : tm_G) (I : Nat → Nat → Int32) (J : Nat → Nat → Int64) (R : Nat → Nat → Option Nat) (K : Option Value → tm_H → Prop) : tm_A d 68 14 ls (.int v :: .ref a :: st) (G, I, J, R) K ↔ G.2.2 a = (0, 7) ∧ tm_A d 68 17 ls st (G, up2 I a 1 v, J, R) K := tm_putI o68_14
theorem o68_17 : tm_op 68 17 = some (.aload_n 0, (0, 0, 0, 0)) := rfl
theorem r68_17 (d : Nat) (v : Nat) (st : List Value) (h : tm_H) (K : Option Value → tm_H → Prop) : tm_A d 68 17 [some (.ref v)] st h K ↔ tm_A d 68 18 [some (.ref v)] (.ref v :: st) h K := tm_s o68_17 rfl rfl rfl
theorem o68_18 : tm_op 68 18 = some (.iconst 0, (0, 0, 0, 0)) := rfl
theorem r68_18 (d : Nat) (ls : tm_Lo) (st : List Value) (h : tm_H) (K : Option Value → tm_H → Prop) : tm_A d 68 18 ls st h K ↔ tm_A d 68 19 ls (.int (0 : Int32) :: st) h K := tm_ic o68_18 (by decide)
theorem o68_19 : tm_op 68 19 = some (.putfield 19, (0, 7, 2, 0)) := rfl
theorem r68_19 (d : Nat) (v : Int32) (a : Nat) (ls : tm_Lo) (st : List Value) (G : tm_G) (I : Nat → Nat → Int32) (J : Nat → Nat → Int64) (R : Nat → Nat → Option Nat) (K : Option Value → tm_H → Prop) : tm_A d 68 19 ls (.int v :: .ref a :: st) (G, I, J, R) K ↔ G.2.2 a = (0, 7) ∧ tm_A d 68 22 ls st (G, up2 I a 2 v, J, R) K := tm_putI o68_19
theorem o68_22 : tm_op 68 22 = some (.aload_n 0, (0, 0, 0, 0)) := rfl
theorem r68_22 (d : Nat) (v : Nat) (st : List Value) (h : tm_H) (K : Option Value → tm_H → Prop) : tm_A d 68 22 [some (.ref v)] st h K ↔ tm_A d 68 23 [some (.ref v)] (.ref v :: st) h K := tm_s o68_22 rfl rfl rfl
theorem o68_23 : tm_op 68 23 = some (.new 22, (0, 0, 4, 0)) := rfl
theorem r68_23 (d : Nat) (ls : tm_Lo) (st : List Value) (G : tm_G) (I : Nat → Nat → Int32) (J : Nat → Nat → Int64) (R : Nat → Nat → Option Nat) (K : Option Value → tm_H → Prop) : tm_A d 68 23 ls st (G, I, J, R) K ↔ tm_A d 68 26 ls (.ref G.1 :: st) (tm_nw (0, 0) 4 (G, I, J, R)) K := tm_s o68_23 rfl rfl rfl
theorem o68_26 : tm_op 68 26 = some (.dup, (0, 0, 0, 0)) := rfl
theorem r68_26 (d : Nat) (v : Nat) (ls : tm_Lo) (st : List Value) (h : tm_H) (K : Option Value → tm_H → Prop) : tm_A d 68 26 ls (.ref v :: st) h K ↔ tm_A d 68 27 ls (.ref v :: .ref v :: st) h K := tm_s o68_26 rfl rfl rfl
theorem r68_26i (d : Nat) (v : Int32) (ls : tm_Lo) (st : List Value) (h : tm_H) (K : Option Value → tm_H → Prop) : tm_A d 68 26 ls (.int v :: st) h K ↔ tm_A d 68 27 ls (.int v :: .int v :: st) h K := tm_s o68_26 rfl rfl rfl
theorem o68_27 : tm_op 68 27 = some (.invokespecial 24, (3, 0, 1, 0)) := rfl
theorem r68_27 (d : Nat) (a : Nat) (ls : tm_Lo) (st : List Value) (h : tm_H) (K : Option Value → tm_H → Prop) : tm_A (d + 1) 68 27 ls (.ref a :: st) h K ↔ tm_cs st ∧ tm_R d 0 [.ref a] h (fun r h' => tm_A (d + 1) 68 30 ls (r.toList ++ st) h' K) := tm_callI (as := []) o68_27 rfl rfl rfl rfl
theorem o68_30 : tm_op 68 30 = some (.putfield 25, (2, 7, 3, 0)) := rfl
theorem r68_30 (d : Nat) (v : Nat) (a : Nat) (ls : tm_Lo) (st : List Value) (G : tm_G) (I : Nat → Nat → Int32) (J : Nat → Nat → Int64) (R : Nat → Nat → Option Nat) (K : Option Value → tm_H → Prop) : tm_A d 68 30 ls (.ref v :: .ref a :: st) (G, I, J, R) K ↔ G.2.2 a = (0, 7) ∧ tm_A d 68 33 ls st (G, I, J, up2 R a 3 (some v)) K := tm_putR o68_30
theorem o68_33 : tm_op 68 33 = some (.return_, (0, 0, 0, 0)) := rfl
theorem r68_33 (d : Nat) (ls : tm_Lo) (h : tm_H) (K : Option Value → tm_H → Prop) : tm_A d 68 33 ls [] h K ↔ K none h := tm_retv o68_33 rfl
theorem o69_0 : tm_op 69 0 = some (.iload_n 0, (0, 0, 0, 0)) := rfl
theorem r69_0 (d : Nat) (v : Int32) (l1 : Option Value) (st : List Value) (h : tm_H) (K : Option Value → tm_H → Prop) : tm_A d 69 0 [some (.int v), l1] st h K ↔ tm_A d 69 1 [some (.int v), l1] (.int v :: st) h K := tm_s o69_0 rfl rfl rfl
theorem o69_1 : tm_op 69 1 = some (.bipush 8, (0, 0, 0, 0)) := rfl
theorem r69_1 (d : Nat) (ls : tm_Lo) (st : List Value) (h : tm_H) (K : Option Value → tm_H → Prop) : tm_A d 69 1 ls st h K ↔ tm_A d 69 3 ls (.int (8 : Int32) :: st) h K := tm_bp o69_1 (by decide)
theorem o69_3 : tm_op 69 3 = some (.iconst 3, (0, 0, 0, 0)) := rfl
theorem r69_3 (d : Nat) (ls : tm_Lo) (st : List Value) (h : tm_H) (K : Option Value → tm_H → Prop) : tm_A d 69 3 ls st h K ↔ tm_A d 69 4 ls (.int (3 : Int32) :: st) h K := tm_ic o69_3 (by decide)
theorem o69_4 : tm_op 69 4 = some (.iload_n 1, (0, 0, 0, 0)) := rfl
theorem r69_4 (d : Nat) (v : Int32) (l0 : Option Value) (st : List Value) (h : tm_H) (K : Option Value → tm_H → Prop) : tm_A d 69 4 [l0, some (.int v)] st h K ↔ tm_A d 69 5 [l0, some (.int v)] (.int v :: st) h K := tm_s o69_4 rfl rfl rfl
theorem o69_5 : tm_op 69 5 = some (.isub, (0, 0, 0, 0)) := rfl
theorem r69_5 (d : Nat) (u v : Int32) (ls : tm_Lo) (st : List Value) (h : tm_H) (K : Option Value → tm_H → Prop) : tm_A d 69 5 ls (.int u :: .int v :: st) h K ↔ tm_A d 69 6 ls (.int (v - u) :: st) h K := tm_s o69_5 rfl rfl rfl
theorem o69_6 : tm_op 69 6 = some (.imul, (0, 0, 0, 0)) := rfl
theorem r69_6 (d : Nat) (u v : Int32) (ls : tm_Lo) (st : List Value) (h : tm_H) (K : Option Value → tm_H → Prop) : tm_A d 69 6 ls (.int u :: .int v :: st) h K ↔ tm_A d 69 7 ls (.int (v * u) :: st) h K := tm_s o69_6 rfl rfl rfl
theorem o69_7 : tm_op 69 7 = some (.iushr, (0, 0, 0, 0)) := rfl
theorem r69_7 (d : Nat) (u v : Int32) (ls : tm_Lo) (st : List Value) (h : tm_H) (K : Option Value → tm_H → Prop) : tm_A d 69 7 ls (.int u :: .int v :: st) h K ↔ tm_A d 69 8 ls (.int ((v.toUInt32 >>> (u.toUInt32 &&& Int32.toUInt32 31)).toInt32) :: st) h K := tm_s o69_7 rfl rfl rfl
theorem o69_8 : tm_op 69 8 = some (.sipush 255, (0, 0, 0, 0)) := rfl
theorem r69_8 (d : Nat) (ls : tm_Lo) (st : List Value) (h : tm_H) (K : Option Value → tm_H → Prop) : tm_A d 69 8 ls st h K ↔ tm_A d 69 11 ls (.int (255 : Int32) :: st) h K := tm_sp o69_8 (by decide)
theorem o69_11 : tm_op 69 11 = some (.iand, (0, 0, 0, 0)) := rfl
theorem r69_11 (d : Nat) (u v : Int32) (ls : tm_Lo) (st : List Value) (h : tm_H) (K : Option Value → tm_H → Prop) : tm_A d 69 11 ls (.int u :: .int v :: st) h K ↔ tm_A d 69 12 ls (.int (v &&& u) :: st) h K := tm_s o69_11 rfl rfl rfl
theorem o69_12 : tm_op 69 12 = some (.ireturn, (0, 0, 0, 0)) := rfl
theorem r69_12 (d : Nat) (v : Int32) (ls : tm_Lo) (h : tm_H) (K : Option Value → tm_H → Prop) : tm_A d 69 12 ls [.int v] h K ↔ K (some (.int v)) h := tm_reti o69_12 rfl
theorem o70_0 : tm_op 70 0 = some (.iconst 0, (0, 0, 0, 0)) := rfl
theorem r70_0 (d : Nat) (ls : tm_Lo) (st : List Value) (h : tm_H) (K : Option Value → tm_H → Prop) : tm_A d 70 0 ls st h K ↔ tm_A d 70 1 ls (.int (0 : Int32) :: st) h K := tm_ic o70_0 (by decide)
theorem o70_1 : tm_op 70 1 = some (.istore_n 1, (0, 0, 0, 0)) := rfl
theorem r70_1 (d : Nat) (v : Int32) (l0 l1 l2 : Option Value) (st : List Value) (h : tm_H) (K : Option Value → tm_H → Prop) : tm_A d 70 1 [l0, l1, l2] (.int v :: st) h K ↔ tm_A d 70 2 [l0, some (.int v), l2] st h K := tm_s o70_1 rfl rfl rfl
theorem o70_2 : tm_op 70 2 = some (.iconst 0, (0, 0, 0, 0)) := rfl
theorem r70_2 (d : Nat) (ls : tm_Lo) (st : List Value) (h : tm_H) (K : Option Value → tm_H → Prop) : tm_A d 70 2 ls st h K ↔ tm_A d 70 3 ls (.int (0 : Int32) :: st) h K := tm_ic o70_2 (by decide)
theorem o70_3 : tm_op 70 3 = some (.istore_n 2, (0, 0, 0, 0)) := rfl
theorem r70_3 (d : Nat) (v : Int32) (l0 l1 l2 : Option Value) (st : List Value) (h : tm_H) (K : Option Value → tm_H → Prop) : tm_A d 70 3 [l0, l1, l2] (.int v :: st) h K ↔ tm_A d 70 4 [l0, l1, some (.int v)] st h K := tm_s o70_3 rfl rfl rfl
theorem o70_4 : tm_op 70 4 = some (.iload_n 2, (0, 0, 0, 0)) := rfl
theorem r70_4 (d : Nat) (v : Int32) (l0 l1 : Option Value) (st : List Value) (h : tm_H) (K : Option Value → tm_H → Prop) : tm_A d 70 4 [l0, l1, some (.int v)] st h K ↔ tm_A d 70 5 [l0, l1, some (.int v)] (.int v :: st) h K := tm_s o70_4 rfl rfl rfl
theorem o70_5 : tm_op 70 5 = some (.iconst 4, (0, 0, 0, 0)) := rfl
theorem r70_5 (d : Nat) (ls : tm_Lo) (st : List Value) (h : tm_H) (K : Option Value → tm_H → Prop) : tm_A d 70 5 ls st h K ↔ tm_A d 70 6 ls (.int (4 : Int32) :: st) h K := tm_ic o70_5 (by decide)
theorem o70_6 : tm_op 70 6 = some (.if_icmp .ge 20, (0, 0, 0, 0)) := rfl
theorem r70_6 (d : Nat) (y x : Int32) (ls : tm_Lo) (st : List Value) (h : tm_H) (K : Option Value → tm_H → Prop) : tm_A d 70 6 ls (.int y :: .int x :: st) h K ↔ if y ≤ x then tm_A d 70 26 ls st h K else tm_A d 70 9 ls st h K := tm_b o70_6 rfl rfl rfl rfl
theorem o70_9 : tm_op 70 9 = some (.iload_n 0, (0, 0, 0, 0)) := rfl
theorem r70_9 (d : Nat) (v : Int32) (l1 l2 : Option Value) (st : List Value) (h : tm_H) (K : Option Value → tm_H → Prop) : tm_A d 70 9 [some (.int v), l1, l2] st h K ↔ tm_A d 70 10 [some (.int v), l1, l2] (.int v :: st) h K := tm_s o70_9 rfl rfl rfl
theorem o70_10 : tm_op 70 10 = some (.iload_n 2, (0, 0, 0, 0)) := rfl
theorem r70_10 (d : Nat) (v : Int32) (l0 l1 : Option Value) (st : List Value) (h : tm_H) (K : Option Value → tm_H → Prop) : tm_A d 70 10 [l0, l1, some (.int v)] st h K ↔ tm_A d 70 11 [l0, l1, some (.int v)] (.int v :: st) h K := tm_s o70_10 rfl rfl rfl
theorem o70_11 : tm_op 70 11 = some (.invokestatic 29, (1, 69, 2, 0)) := rfl
theorem r70_11 (d : Nat) (v0 : Int32) (v1 : Int32) (ls : tm_Lo) (st : List Value) (h : tm_H) (K : Option Value → tm_H → Prop) : tm_A (d + 1) 70 11 ls (.int v1 :: .int v0 :: st) h K ↔ tm_cs st ∧ tm_R d 69 [.int v0, .int v1] h (fun r h' => tm_A (d + 1) 70 14 ls (r.toList ++ st) h' K) := tm_callS (as := [.int v0, .int v1]) o70_11 rfl rfl rfl rfl
theorem o70_14 : tm_op 70 14 = some (.ifCond .eq 6, (0, 0, 0, 0)) := rfl
theorem r70_14 (d : Nat) (x : Int32) (ls : tm_Lo) (st : List Value) (h : tm_H) (K : Option Value → tm_H → Prop) : tm_A d 70 14 ls (.int x :: st) h K ↔ if x = 0 then tm_A d 70 20 ls st h K else tm_A d 70 17 ls st h K := tm_b o70_14 rfl rfl rfl rfl
theorem o70_17 : tm_op 70 17 = some (.iinc 1 1, (0, 0, 0, 0)) := rfl
theorem r70_17 (d : Nat) (v : Int32) (l0 l2 : Option Value) (st : List Value) (h : tm_H) (K : Option Value → tm_H → Prop) : tm_A d 70 17 [l0, some (.int v), l2] st h K ↔ tm_A d 70 20 [l0, some (.int (v + (1 : Int32))), l2] st h K := tm_s o70_17 rfl rfl rfl
theorem o70_20 : tm_op 70 20 = some (.iinc 2 1, (0, 0, 0, 0)) := rfl
theorem r70_20 (d : Nat) (v : Int32) (l0 l1 : Option Value) (st : List Value) (h : tm_H) (K : Option Value → tm_H → Prop) : tm_A d 70 20 [l0, l1, some (.int v)] st h K ↔ tm_A d 70 23 [l0, l1, some (.int (v + (1 : Int32)))] st h K := tm_s o70_20 rfl rfl rfl
theorem o70_23 : tm_op 70 23 = some (.goto (-19), (0, 0, 0, 0)) := rfl
theorem r70_23 (d : Nat) (ls : tm_Lo) (st : List Value) (h : tm_H) (K : Option Value → tm_H → Prop) : tm_A d 70 23 ls st h K ↔ tm_A d 70 4 ls st h K := tm_s o70_23 rfl rfl rfl
theorem o70_26 : tm_op 70 26 = some (.iload_n 1, (0, 0, 0, 0)) := rfl
theorem r70_26 (d : Nat) (v : Int32) (l0 l2 : Option Value) (st : List Value) (h : tm_H) (K : Option Value → tm_H → Prop) : tm_A d 70 26 [l0, some (.int v), l2] st h K ↔ tm_A d 70 27 [l0, some (.int v), l2] (.int v :: st) h K := tm_s o70_26 rfl rfl rfl
theorem o70_27 : tm_op 70 27 = some (.ireturn, (0, 0, 0, 0)) := rfl
theorem r70_27 (d : Nat) (v : Int32) (ls : tm_Lo) (h : tm_H) (K : Option Value → tm_H → Prop) : tm_A d 70 27 ls [.int v] h K ↔ K (some (.int v)) h := tm_reti o70_27 rfl
theorem o71_0 : tm_op 71 0 = some (.aload_n 0, (0, 0, 0, 0)) := rfl
theorem r71_0 (d : Nat) (v : Nat) (st : List Value) (h : tm_H) (K : Option Value → tm_H → Prop) : tm_A d 71 0 [some (.ref v)] st h K ↔ tm_A d 71 1 [some (.ref v)] (.ref v :: st) h K := tm_s o71_0 rfl rfl rfl
theorem o71_1 : tm_op 71 1 = some (.getfield 15, (0, 7, 1, 0)) := rfl
theorem r71_1 (d : Nat) (a : Nat) (ls : tm_Lo) (st : List Value) (G : tm_G) (I : Nat → Nat → Int32) (J : Nat → Nat → Int64) (R : Nat → Nat → Option Nat) (K : Option Value → tm_H → Prop) : tm_A d 71 1 ls (.ref a :: st) (G, I, J, R) K ↔ G.2.2 a = (0, 7) ∧ tm_A d 71 4 ls (.int (I a 1) :: st) (G, I, J, R) K := tm_getI o71_1
theorem o71_4 : tm_op 71 4 = some (.ireturn, (0, 0, 0, 0)) := rfl
theorem r71_4 (d : Nat) (v : Int32) (ls : tm_Lo) (h : tm_H) (K : Option Value → tm_H → Prop) : tm_A d 71 4 ls [.int v] h K ↔ K (some (.int v)) h := tm_reti o71_4 rfl
theorem o72_0 : tm_op 72 0 = some (.iconst 0, (0, 0, 0, 0)) := rfl
theorem r72_0 (d : Nat) (ls : tm_Lo) (st : List Value) (h : tm_H) (K : Option Value → tm_H → Prop) : tm_A d 72 0 ls st h K ↔ tm_A d 72 1 ls (.int (0 : Int32) :: st) h K := tm_ic o72_0 (by decide)
theorem o72_1 : tm_op 72 1 = some (.istore_n 2, (0, 0, 0, 0)) := rfl
theorem r72_1 (d : Nat) (v : Int32) (l0 l1 l2 l3 : Option Value) (st : List Value) (h : tm_H) (K : Option Value → tm_H → Prop) : tm_A d 72 1 [l0, l1, l2, l3] (.int v :: st) h K ↔ tm_A d 72 2 [l0, l1, some (.int v), l3] st h K := tm_s o72_1 rfl rfl rfl
theorem o72_2 : tm_op 72 2 = some (.iload_n 2, (0, 0, 0, 0)) := rfl
theorem r72_2 (d : Nat) (v : Int32) (l0 l1 l3 : Option Value) (st : List Value) (h : tm_H) (K : Option Value → tm_H → Prop) : tm_A d 72 2 [l0, l1, some (.int v), l3] st h K ↔ tm_A d 72 3 [l0, l1, some (.int v), l3] (.int v :: st) h K := tm_s o72_2 rfl rfl rfl
theorem o72_3 : tm_op 72 3 = some (.iconst 4, (0, 0, 0, 0)) := rfl
theorem r72_3 (d : Nat) (ls : tm_Lo) (st : List Value) (h : tm_H) (K : Option Value → tm_H → Prop) : tm_A d 72 3 ls st h K ↔ tm_A d 72 4 ls (.int (4 : Int32) :: st) h K := tm_ic o72_3 (by decide)
theorem o72_4 : tm_op 72 4 = some (.if_icmp .ge 48, (0, 0, 0, 0)) := rfl
theorem r72_4 (d : Nat) (y x : Int32) (ls : tm_Lo) (st : List Value) (h : tm_H) (K : Option Value → tm_H → Prop) : tm_A d 72 4 ls (.int y :: .int x :: st) h K ↔ if y ≤ x then tm_A d 72 52 ls st h K else tm_A d 72 7 ls st h K := tm_b o72_4 rfl rfl rfl rfl
theorem o72_7 : tm_op 72 7 = some (.iload_n 1, (0, 0, 0, 0)) := rfl
theorem r72_7 (d : Nat) (v : Int32) (l0 l2 l3 : Option Value) (st : List Value) (h : tm_H) (K : Option Value → tm_H → Prop) : tm_A d 72 7 [l0, some (.int v), l2, l3] st h K ↔ tm_A d 72 8 [l0, some (.int v), l2, l3] (.int v :: st) h K := tm_s o72_7 rfl rfl rfl
theorem o72_8 : tm_op 72 8 = some (.iload_n 2, (0, 0, 0, 0)) := rfl
theorem r72_8 (d : Nat) (v : Int32) (l0 l1 l3 : Option Value) (st : List Value) (h : tm_H) (K : Option Value → tm_H → Prop) : tm_A d 72 8 [l0, l1, some (.int v), l3] st h K ↔ tm_A d 72 9 [l0, l1, some (.int v), l3] (.int v :: st) h K := tm_s o72_8 rfl rfl rfl
theorem o72_9 : tm_op 72 9 = some (.invokestatic 29, (1, 69, 2, 0)) := rfl
theorem r72_9 (d : Nat) (v0 : Int32) (v1 : Int32) (ls : tm_Lo) (st : List Value) (h : tm_H) (K : Option Value → tm_H → Prop) : tm_A (d + 1) 72 9 ls (.int v1 :: .int v0 :: st) h K ↔ tm_cs st ∧ tm_R d 69 [.int v0, .int v1] h (fun r h' => tm_A (d + 1) 72 12 ls (r.toList ++ st) h' K) := tm_callS (as := [.int v0, .int v1]) o72_9 rfl rfl rfl rfl
theorem o72_12 : tm_op 72 12 = some (.istore_n 3, (0, 0, 0, 0)) := rfl
theorem r72_12 (d : Nat) (v : Int32) (l0 l1 l2 l3 : Option Value) (st : List Value) (h : tm_H) (K : Option Value → tm_H → Prop) : tm_A d 72 12 [l0, l1, l2, l3] (.int v :: st) h K ↔ tm_A d 72 13 [l0, l1, l2, some (.int v)] st h K := tm_s o72_12 rfl rfl rfl
theorem o72_13 : tm_op 72 13 = some (.iload_n 3, (0, 0, 0, 0)) := rfl
theorem r72_13 (d : Nat) (v : Int32) (l0 l1 l2 : Option Value) (st : List Value) (h : tm_H) (K : Option Value → tm_H → Prop) : tm_A d 72 13 [l0, l1, l2, some (.int v)] st h K ↔ tm_A d 72 14 [l0, l1, l2, some (.int v)] (.int v :: st) h K := tm_s o72_13 rfl rfl rfl
theorem o72_14 : tm_op 72 14 = some (.ifCond .eq 32, (0, 0, 0, 0)) := rfl
theorem r72_14 (d : Nat) (x : Int32) (ls : tm_Lo) (st : List Value) (h : tm_H) (K : Option Value → tm_H → Prop) : tm_A d 72 14 ls (.int x :: st) h K ↔ if x = 0 then tm_A d 72 46 ls st h K else tm_A d 72 17 ls st h K := tm_b o72_14 rfl rfl rfl rfl
theorem o72_17 : tm_op 72 17 = some (.aload_n 0, (0, 0, 0, 0)) := rfl
theorem r72_17 (d : Nat) (v : Nat) (l1 l2 l3 : Option Value) (st : List Value) (h : tm_H) (K : Option Value → tm_H → Prop) : tm_A d 72 17 [some (.ref v), l1, l2, l3] st h K ↔ tm_A d 72 18 [some (.ref v), l1, l2, l3] (.ref v :: st) h K := tm_s o72_17 rfl rfl rfl
theorem o72_18 : tm_op 72 18 = some (.getfield 15, (0, 7, 1, 0)) := rfl
theorem r72_18 (d : Nat) (a : Nat) (ls : tm_Lo) (st : List Value) (G : tm_G) (I : Nat → Nat → Int32) (J : Nat → Nat → Int64) (R : Nat → Nat → Option Nat) (K : Option Value → tm_H → Prop) : tm_A d 72 18 ls (.ref a :: st) (G, I, J, R) K ↔ G.2.2 a = (0, 7) ∧ tm_A d 72 21 ls (.int (I a 1) :: st) (G, I, J, R) K := tm_getI o72_18
theorem o72_21 : tm_op 72 21 = some (.bipush 100, (0, 0, 0, 0)) := rfl
theorem r72_21 (d : Nat) (ls : tm_Lo) (st : List Value) (h : tm_H) (K : Option Value → tm_H → Prop) : tm_A d 72 21 ls st h K ↔ tm_A d 72 23 ls (.int (100 : Int32) :: st) h K := tm_bp o72_21 (by decide)
theorem o72_23 : tm_op 72 23 = some (.if_icmp .ge 23, (0, 0, 0, 0)) := rfl
theorem r72_23 (d : Nat) (y x : Int32) (ls : tm_Lo) (st : List Value) (h : tm_H) (K : Option Value → tm_H → Prop) : tm_A d 72 23 ls (.int y :: .int x :: st) h K ↔ if y ≤ x then tm_A d 72 46 ls st h K else tm_A d 72 26 ls st h K := tm_b o72_23 rfl rfl rfl rfl
theorem o72_26 : tm_op 72 26 = some (.aload_n 0, (0, 0, 0, 0)) := rfl
theorem r72_26 (d : Nat) (v : Nat) (l1 l2 l3 : Option Value) (st : List Value) (h : tm_H) (K : Option Value → tm_H → Prop) : tm_A d 72 26 [some (.ref v), l1, l2, l3] st h K ↔ tm_A d 72 27 [some (.ref v), l1, l2, l3] (.ref v :: st) h K := tm_s o72_26 rfl rfl rfl
theorem o72_27 : tm_op 72 27 = some (.getfield 9, (2, 7, 0, 0)) := rfl
theorem r72_27 (d : Nat) (a : Nat) (ls : tm_Lo) (st : List Value) (G : tm_G) (I : Nat → Nat → Int32) (J : Nat → Nat → Int64) (R : Nat → Nat → Option Nat) (K : Option Value → tm_H → Prop) : tm_A d 72 27 ls (.ref a :: st) (G, I, J, R) K ↔ G.2.2 a = (0, 7) ∧ tm_A d 72 30 ls (tm_rf (R a 0) :: st) (G, I, J, R) K := tm_getR o72_27
theorem o72_30 : tm_op 72 30 = some (.aload_n 0, (0, 0, 0, 0)) := rfl
theorem r72_30 (d : Nat) (v : Nat) (l1 l2 l3 : Option Value) (st : List Value) (h : tm_H) (K : Option Value → tm_H → Prop) : tm_A d 72 30 [some (.ref v), l1, l2, l3] st h K ↔ tm_A d 72 31 [some (.ref v), l1, l2, l3] (.ref v :: st) h K := tm_s o72_30 rfl rfl rfl
theorem o72_31 : tm_op 72 31 = some (.getfield 15, (0, 7, 1, 0)) := rfl
theorem r72_31 (d : Nat) (a : Nat) (ls : tm_Lo) (st : List Value) (G : tm_G) (I : Nat → Nat → Int32) (J : Nat → Nat → Int64) (R : Nat → Nat → Option Nat) (K : Option Value → tm_H → Prop) : tm_A d 72 31 ls (.ref a :: st) (G, I, J, R) K ↔ G.2.2 a = (0, 7) ∧ tm_A d 72 34 ls (.int (I a 1) :: st) (G, I, J, R) K := tm_getI o72_31
theorem o72_34 : tm_op 72 34 = some (.iload_n 3, (0, 0, 0, 0)) := rfl
theorem r72_34 (d : Nat) (v : Int32) (l0 l1 l2 : Option Value) (st : List Value) (h : tm_H) (K : Option Value → tm_H → Prop) : tm_A d 72 34 [l0, l1, l2, some (.int v)] st h K ↔ tm_A d 72 35 [l0, l1, l2, some (.int v)] (.int v :: st) h K := tm_s o72_34 rfl rfl rfl
theorem o72_35 : tm_op 72 35 = some (.iastore, (0, 0, 0, 0)) := rfl
theorem r72_35 (d : Nat) (u v : Int32) (a : Nat) (ls : tm_Lo) (st : List Value) (G : tm_G) (I : Nat → Nat → Int32) (J : Nat → Nat → Int64) (R : Nat → Nat → Option Nat) (K : Option Value → tm_H → Prop) : tm_A d 72 35 ls (.int u :: .int v :: .ref a :: st) (G, I, J, R) K ↔ (3 ≤ a ∧ (G.2.2 a).1 = 1 ∧ tm_in v (G.2.2 a).2) ∧ tm_A d 72 36 ls st (G, up2 I a (tm_ix v) u, J, R) K := tm_iast o72_35
theorem o72_36 : tm_op 72 36 = some (.aload_n 0, (0, 0, 0, 0)) := rfl
theorem r72_36 (d : Nat) (v : Nat) (l1 l2 l3 : Option Value) (st : List Value) (h : tm_H) (K : Option Value → tm_H → Prop) : tm_A d 72 36 [some (.ref v), l1, l2, l3] st h K ↔ tm_A d 72 37 [some (.ref v), l1, l2, l3] (.ref v :: st) h K := tm_s o72_36 rfl rfl rfl
theorem o72_37 : tm_op 72 37 = some (.dup, (0, 0, 0, 0)) := rfl
theorem r72_37 (d : Nat) (v : Nat) (ls : tm_Lo) (st : List Value) (h : tm_H) (K : Option Value → tm_H → Prop) : tm_A d 72 37 ls (.ref v :: st) h K ↔ tm_A d 72 38 ls (.ref v :: .ref v :: st) h K := tm_s o72_37 rfl rfl rfl
theorem r72_37i (d : Nat) (v : Int32) (ls : tm_Lo) (st : List Value) (h : tm_H) (K : Option Value → tm_H → Prop) : tm_A d 72 37 ls (.int v :: st) h K ↔ tm_A d 72 38 ls (.int v :: .int v :: st) h K := tm_s o72_37 rfl rfl rfl
theorem o72_38 : tm_op 72 38 = some (.getfield 15, (0, 7, 1, 0)) := rfl
theorem r72_38 (d : Nat) (a : Nat) (ls : tm_Lo) (st : List Value) (G : tm_G) (I : Nat → Nat → Int32) (J : Nat → Nat → Int64) (R : Nat → Nat → Option Nat) (K : Option Value → tm_H → Prop) : tm_A d 72 38 ls (.ref a :: st) (G, I, J, R) K ↔ G.2.2 a = (0, 7) ∧ tm_A d 72 41 ls (.int (I a 1) :: st) (G, I, J, R) K := tm_getI o72_38
theorem o72_41 : tm_op 72 41 = some (.iconst 1, (0, 0, 0, 0)) := rfl
theorem r72_41 (d : Nat) (ls : tm_Lo) (st : List Value) (h : tm_H) (K : Option Value → tm_H → Prop) : tm_A d 72 41 ls st h K ↔ tm_A d 72 42 ls (.int (1 : Int32) :: st) h K := tm_ic o72_41 (by decide)
theorem o72_42 : tm_op 72 42 = some (.iadd, (0, 0, 0, 0)) := rfl
theorem r72_42 (d : Nat) (u v : Int32) (ls : tm_Lo) (st : List Value) (h : tm_H) (K : Option Value → tm_H → Prop) : tm_A d 72 42 ls (.int u :: .int v :: st) h K ↔ tm_A d 72 43 ls (.int (v + u) :: st) h K := tm_s o72_42 rfl rfl rfl
theorem o72_43 : tm_op 72 43 = some (.putfield 15, (0, 7, 1, 0)) := rfl
theorem r72_43 (d : Nat) (v : Int32) (a : Nat) (ls : tm_Lo) (st : List Value) (G : tm_G) (I : Nat → Nat → Int32) (J : Nat → Nat → Int64) (R : Nat → Nat → Option Nat) (K : Option Value → tm_H → Prop) : tm_A d 72 43 ls (.int v :: .ref a :: st) (G, I, J, R) K ↔ G.2.2 a = (0, 7) ∧ tm_A d 72 46 ls st (G, up2 I a 1 v, J, R) K := tm_putI o72_43
theorem o72_46 : tm_op 72 46 = some (.iinc 2 1, (0, 0, 0, 0)) := rfl
theorem r72_46 (d : Nat) (v : Int32) (l0 l1 l3 : Option Value) (st : List Value) (h : tm_H) (K : Option Value → tm_H → Prop) : tm_A d 72 46 [l0, l1, some (.int v), l3] st h K ↔ tm_A d 72 49 [l0, l1, some (.int (v + (1 : Int32))), l3] st h K := tm_s o72_46 rfl rfl rfl
theorem o72_49 : tm_op 72 49 = some (.goto (-47), (0, 0, 0, 0)) := rfl
theorem r72_49 (d : Nat) (ls : tm_Lo) (st : List Value) (h : tm_H) (K : Option Value → tm_H → Prop) : tm_A d 72 49 ls st h K ↔ tm_A d 72 2 ls st h K := tm_s o72_49 rfl rfl rfl
theorem o72_52 : tm_op 72 52 = some (.return_, (0, 0, 0, 0)) := rfl
theorem r72_52 (d : Nat) (ls : tm_Lo) (h : tm_H) (K : Option Value → tm_H → Prop) : tm_A d 72 52 ls [] h K ↔ K none h := tm_retv o72_52 rfl
theorem o73_0 : tm_op 73 0 = some (.iload_n 1, (0, 0, 0, 0)) := rfl
theorem r73_0 (d : Nat) (v : Int32) (l0 : Option Value) (st : List Value) (h : tm_H) (K : Option Value → tm_H → Prop) : tm_A d 73 0 [l0, some (.int v)] st h K ↔ tm_A d 73 1 [l0, some (.int v)] (.int v :: st) h K := tm_s o73_0 rfl rfl rfl
theorem o73_1 : tm_op 73 1 = some (.ifCond .lt 11, (0, 0, 0, 0)) := rfl
theorem r73_1 (d : Nat) (x : Int32) (ls : tm_Lo) (st : List Value) (h : tm_H) (K : Option Value → tm_H → Prop) : tm_A d 73 1 ls (.int x :: st) h K ↔ if x < 0 then tm_A d 73 12 ls st h K else tm_A d 73 4 ls st h K := tm_b o73_1 rfl rfl rfl rfl
theorem o73_4 : tm_op 73 4 = some (.iload_n 1, (0, 0, 0, 0)) := rfl
theorem r73_4 (d : Nat) (v : Int32) (l0 : Option Value) (st : List Value) (h : tm_H) (K : Option Value → tm_H → Prop) : tm_A d 73 4 [l0, some (.int v)] st h K ↔ tm_A d 73 5 [l0, some (.int v)] (.int v :: st) h K := tm_s o73_4 rfl rfl rfl
theorem o73_5 : tm_op 73 5 = some (.aload_n 0, (0, 0, 0, 0)) := rfl
theorem r73_5 (d : Nat) (v : Nat) (l1 : Option Value) (st : List Value) (h : tm_H) (K : Option Value → tm_H → Prop) : tm_A d 73 5 [some (.ref v), l1] st h K ↔ tm_A d 73 6 [some (.ref v), l1] (.ref v :: st) h K := tm_s o73_5 rfl rfl rfl
theorem o73_6 : tm_op 73 6 = some (.getfield 15, (0, 7, 1, 0)) := rfl
theorem r73_6 (d : Nat) (a : Nat) (ls : tm_Lo) (st : List Value) (G : tm_G) (I : Nat → Nat → Int32) (J : Nat → Nat → Int64) (R : Nat → Nat → Option Nat) (K : Option Value → tm_H → Prop) : tm_A d 73 6 ls (.ref a :: st) (G, I, J, R) K ↔ G.2.2 a = (0, 7) ∧ tm_A d 73 9 ls (.int (I a 1) :: st) (G, I, J, R) K := tm_getI o73_6
theorem o73_9 : tm_op 73 9 = some (.if_icmp .le 5, (0, 0, 0, 0)) := rfl
theorem r73_9 (d : Nat) (y x : Int32) (ls : tm_Lo) (st : List Value) (h : tm_H) (K : Option Value → tm_H → Prop) : tm_A d 73 9 ls (.int y :: .int x :: st) h K ↔ if x ≤ y then tm_A d 73 14 ls st h K else tm_A d 73 12 ls st h K := tm_b o73_9 rfl rfl rfl rfl
theorem o73_12 : tm_op 73 12 = some (.iconst 0, (0, 0, 0, 0)) := rfl
theorem r73_12 (d : Nat) (ls : tm_Lo) (st : List Value) (h : tm_H) (K : Option Value → tm_H → Prop) : tm_A d 73 12 ls st h K ↔ tm_A d 73 13 ls (.int (0 : Int32) :: st) h K := tm_ic o73_12 (by decide)
theorem o73_13 : tm_op 73 13 = some (.ireturn, (0, 0, 0, 0)) := rfl
theorem r73_13 (d : Nat) (v : Int32) (ls : tm_Lo) (h : tm_H) (K : Option Value → tm_H → Prop) : tm_A d 73 13 ls [.int v] h K ↔ (v = 0 ∨ v = 1) ∧ K (some (.int v)) h := tm_retz o73_13 rfl
theorem o73_14 : tm_op 73 14 = some (.aload_n 0, (0, 0, 0, 0)) := rfl
theorem r73_14 (d : Nat) (v : Nat) (l1 : Option Value) (st : List Value) (h : tm_H) (K : Option Value → tm_H → Prop) : tm_A d 73 14 [some (.ref v), l1] st h K ↔ tm_A d 73 15 [some (.ref v), l1] (.ref v :: st) h K := tm_s o73_14 rfl rfl rfl
theorem o73_15 : tm_op 73 15 = some (.iload_n 1, (0, 0, 0, 0)) := rfl
theorem r73_15 (d : Nat) (v : Int32) (l0 : Option Value) (st : List Value) (h : tm_H) (K : Option Value → tm_H → Prop) : tm_A d 73 15 [l0, some (.int v)] st h K ↔ tm_A d 73 16 [l0, some (.int v)] (.int v :: st) h K := tm_s o73_15 rfl rfl rfl
theorem o73_16 : tm_op 73 16 = some (.putfield 15, (0, 7, 1, 0)) := rfl
theorem r73_16 (d : Nat) (v : Int32) (a : Nat) (ls : tm_Lo) (st : List Value) (G : tm_G) (I : Nat → Nat → Int32) (J : Nat → Nat → Int64) (R : Nat → Nat → Option Nat) (K : Option Value → tm_H → Prop) : tm_A d 73 16 ls (.int v :: .ref a :: st) (G, I, J, R) K ↔ G.2.2 a = (0, 7) ∧ tm_A d 73 19 ls st (G, up2 I a 1 v, J, R) K := tm_putI o73_16
theorem o73_19 : tm_op 73 19 = some (.iconst 1, (0, 0, 0, 0)) := rfl
theorem r73_19 (d : Nat) (ls : tm_Lo) (st : List Value) (h : tm_H) (K : Option Value → tm_H → Prop) : tm_A d 73 19 ls st h K ↔ tm_A d 73 20 ls (.int (1 : Int32) :: st) h K := tm_ic o73_19 (by decide)
theorem o73_20 : tm_op 73 20 = some (.ireturn, (0, 0, 0, 0)) := rfl
theorem r73_20 (d : Nat) (v : Int32) (ls : tm_Lo) (h : tm_H) (K : Option Value → tm_H → Prop) : tm_A d 73 20 ls [.int v] h K ↔ (v = 0 ∨ v = 1) ∧ K (some (.int v)) h := tm_retz o73_20 rfl
theorem o74_0 : tm_op 74 0 = some (.aload_n 0, (0, 0, 0, 0)) := rfl
theorem r74_0 (d : Nat) (v : Nat) (l1 l2 : Option Value) (st : List Value) (h : tm_H) (K : Option Value → tm_H → Prop) : tm_A d 74 0 [some (.ref v), l1, l2] st h K ↔ tm_A d 74 1 [some (.ref v), l1, l2] (.ref v :: st) h K := tm_s o74_0 rfl rfl rfl
theorem o74_1 : tm_op 74 1 = some (.getfield 25, (2, 7, 3, 0)) := rfl
theorem r74_1 (d : Nat) (a : Nat) (ls : tm_Lo) (st : List Value) (G : tm_G) (I : Nat → Nat → Int32) (J : Nat → Nat → Int64) (R : Nat → Nat → Option Nat) (K : Option Value → tm_H → Prop) : tm_A d 74 1 ls (.ref a :: st) (G, I, J, R) K ↔ G.2.2 a = (0, 7) ∧ tm_A d 74 4 ls (tm_rf (R a 3) :: st) (G, I, J, R) K := tm_getR o74_1
theorem o74_4 : tm_op 74 4 = some (.invokevirtual 33, (2, 1, 1, 0)) := rfl
theorem r74_4 (d : Nat) (a : Nat) (ls : tm_Lo) (st : List Value) (h : tm_H) (K : Option Value → tm_H → Prop) : tm_A (d + 1) 74 4 ls (.ref a :: st) h K ↔ (h.1.2.2 a = (0, 0) ∧ tm_cs st) ∧ tm_R d 1 [.ref a] h (fun r h' => tm_A (d + 1) 74 7 ls (r.toList ++ st) h' K) := tm_callV (as := []) o74_4 rfl rfl rfl rfl
theorem o74_7 : tm_op 74 7 = some (.aload_n 0, (0, 0, 0, 0)) := rfl
theorem r74_7 (d : Nat) (v : Nat) (l1 l2 : Option Value) (st : List Value) (h : tm_H) (K : Option Value → tm_H → Prop) : tm_A d 74 7 [some (.ref v), l1, l2] st h K ↔ tm_A d 74 8 [some (.ref v), l1, l2] (.ref v :: st) h K := tm_s o74_7 rfl rfl rfl
theorem o74_8 : tm_op 74 8 = some (.iconst 0, (0, 0, 0, 0)) := rfl
theorem r74_8 (d : Nat) (ls : tm_Lo) (st : List Value) (h : tm_H) (K : Option Value → tm_H → Prop) : tm_A d 74 8 ls st h K ↔ tm_A d 74 9 ls (.int (0 : Int32) :: st) h K := tm_ic o74_8 (by decide)
theorem o74_9 : tm_op 74 9 = some (.putfield 19, (0, 7, 2, 0)) := rfl
theorem r74_9 (d : Nat) (v : Int32) (a : Nat) (ls : tm_Lo) (st : List Value) (G : tm_G) (I : Nat → Nat → Int32) (J : Nat → Nat → Int64) (R : Nat → Nat → Option Nat) (K : Option Value → tm_H → Prop) : tm_A d 74 9 ls (.int v :: .ref a :: st) (G, I, J, R) K ↔ G.2.2 a = (0, 7) ∧ tm_A d 74 12 ls st (G, up2 I a 2 v, J, R) K := tm_putI o74_9
theorem o74_12 : tm_op 74 12 = some (.aload_n 0, (0, 0, 0, 0)) := rfl
theorem r74_12 (d : Nat) (v : Nat) (l1 l2 : Option Value) (st : List Value) (h : tm_H) (K : Option Value → tm_H → Prop) : tm_A d 74 12 [some (.ref v), l1, l2] st h K ↔ tm_A d 74 13 [some (.ref v), l1, l2] (.ref v :: st) h K := tm_s o74_12 rfl rfl rfl
theorem o74_13 : tm_op 74 13 = some (.invokevirtual 36, (2, 76, 1, 7)) := rfl
theorem r74_13 (d : Nat) (a : Nat) (ls : tm_Lo) (st : List Value) (h : tm_H) (K : Option Value → tm_H → Prop) : tm_A (d + 1) 74 13 ls (.ref a :: st) h K ↔ (h.1.2.2 a = (0, 7) ∧ tm_cs st) ∧ tm_R d 76 [.ref a] h (fun r h' => tm_A (d + 1) 74 16 ls (r.toList ++ st) h' K) := tm_callV (as := []) o74_13 rfl rfl rfl rfl
theorem o74_16 : tm_op 74 16 = some (.iconst 0, (0, 0, 0, 0)) := rfl
theorem r74_16 (d : Nat) (ls : tm_Lo) (st : List Value) (h : tm_H) (K : Option Value → tm_H → Prop) : tm_A d 74 16 ls st h K ↔ tm_A d 74 17 ls (.int (0 : Int32) :: st) h K := tm_ic o74_16 (by decide)
theorem o74_17 : tm_op 74 17 = some (.istore_n 1, (0, 0, 0, 0)) := rfl
theorem r74_17 (d : Nat) (v : Int32) (l0 l1 l2 : Option Value) (st : List Value) (h : tm_H) (K : Option Value → tm_H → Prop) : tm_A d 74 17 [l0, l1, l2] (.int v :: st) h K ↔ tm_A d 74 18 [l0, some (.int v), l2] st h K := tm_s o74_17 rfl rfl rfl
theorem o74_18 : tm_op 74 18 = some (.iload_n 1, (0, 0, 0, 0)) := rfl
theorem r74_18 (d : Nat) (v : Int32) (l0 l2 : Option Value) (st : List Value) (h : tm_H) (K : Option Value → tm_H → Prop) : tm_A d 74 18 [l0, some (.int v), l2] st h K ↔ tm_A d 74 19 [l0, some (.int v), l2] (.int v :: st) h K := tm_s o74_18 rfl rfl rfl
theorem o74_19 : tm_op 74 19 = some (.bipush 100, (0, 0, 0, 0)) := rfl
theorem r74_19 (d : Nat) (ls : tm_Lo) (st : List Value) (h : tm_H) (K : Option Value → tm_H → Prop) : tm_A d 74 19 ls st h K ↔ tm_A d 74 21 ls (.int (100 : Int32) :: st) h K := tm_bp o74_19 (by decide)
theorem o74_21 : tm_op 74 21 = some (.if_icmp .ge 59, (0, 0, 0, 0)) := rfl
theorem r74_21 (d : Nat) (y x : Int32) (ls : tm_Lo) (st : List Value) (h : tm_H) (K : Option Value → tm_H → Prop) : tm_A d 74 21 ls (.int y :: .int x :: st) h K ↔ if y ≤ x then tm_A d 74 80 ls st h K else tm_A d 74 24 ls st h K := tm_b o74_21 rfl rfl rfl rfl
theorem o74_24 : tm_op 74 24 = some (.aload_n 0, (0, 0, 0, 0)) := rfl
theorem r74_24 (d : Nat) (v : Nat) (l1 l2 : Option Value) (st : List Value) (h : tm_H) (K : Option Value → tm_H → Prop) : tm_A d 74 24 [some (.ref v), l1, l2] st h K ↔ tm_A d 74 25 [some (.ref v), l1, l2] (.ref v :: st) h K := tm_s o74_24 rfl rfl rfl
theorem o74_25 : tm_op 74 25 = some (.getfield 19, (0, 7, 2, 0)) := rfl
theorem r74_25 (d : Nat) (a : Nat) (ls : tm_Lo) (st : List Value) (G : tm_G) (I : Nat → Nat → Int32) (J : Nat → Nat → Int64) (R : Nat → Nat → Option Nat) (K : Option Value → tm_H → Prop) : tm_A d 74 25 ls (.ref a :: st) (G, I, J, R) K ↔ G.2.2 a = (0, 7) ∧ tm_A d 74 28 ls (.int (I a 2) :: st) (G, I, J, R) K := tm_getI o74_25
theorem o74_28 : tm_op 74 28 = some (.aload_n 0, (0, 0, 0, 0)) := rfl
theorem r74_28 (d : Nat) (v : Nat) (l1 l2 : Option Value) (st : List Value) (h : tm_H) (K : Option Value → tm_H → Prop) : tm_A d 74 28 [some (.ref v), l1, l2] st h K ↔ tm_A d 74 29 [some (.ref v), l1, l2] (.ref v :: st) h K := tm_s o74_28 rfl rfl rfl
theorem o74_29 : tm_op 74 29 = some (.getfield 15, (0, 7, 1, 0)) := rfl
theorem r74_29 (d : Nat) (a : Nat) (ls : tm_Lo) (st : List Value) (G : tm_G) (I : Nat → Nat → Int32) (J : Nat → Nat → Int64) (R : Nat → Nat → Option Nat) (K : Option Value → tm_H → Prop) : tm_A d 74 29 ls (.ref a :: st) (G, I, J, R) K ↔ G.2.2 a = (0, 7) ∧ tm_A d 74 32 ls (.int (I a 1) :: st) (G, I, J, R) K := tm_getI o74_29
theorem o74_32 : tm_op 74 32 = some (.if_icmp .ge 48, (0, 0, 0, 0)) := rfl
theorem r74_32 (d : Nat) (y x : Int32) (ls : tm_Lo) (st : List Value) (h : tm_H) (K : Option Value → tm_H → Prop) : tm_A d 74 32 ls (.int y :: .int x :: st) h K ↔ if y ≤ x then tm_A d 74 80 ls st h K else tm_A d 74 35 ls st h K := tm_b o74_32 rfl rfl rfl rfl
theorem o74_35 : tm_op 74 35 = some (.aload_n 0, (0, 0, 0, 0)) := rfl
theorem r74_35 (d : Nat) (v : Nat) (l1 l2 : Option Value) (st : List Value) (h : tm_H) (K : Option Value → tm_H → Prop) : tm_A d 74 35 [some (.ref v), l1, l2] st h K ↔ tm_A d 74 36 [some (.ref v), l1, l2] (.ref v :: st) h K := tm_s o74_35 rfl rfl rfl
theorem o74_36 : tm_op 74 36 = some (.getfield 19, (0, 7, 2, 0)) := rfl
theorem r74_36 (d : Nat) (a : Nat) (ls : tm_Lo) (st : List Value) (G : tm_G) (I : Nat → Nat → Int32) (J : Nat → Nat → Int64) (R : Nat → Nat → Option Nat) (K : Option Value → tm_H → Prop) : tm_A d 74 36 ls (.ref a :: st) (G, I, J, R) K ↔ G.2.2 a = (0, 7) ∧ tm_A d 74 39 ls (.int (I a 2) :: st) (G, I, J, R) K := tm_getI o74_36
theorem o74_39 : tm_op 74 39 = some (.istore_n 2, (0, 0, 0, 0)) := rfl
theorem r74_39 (d : Nat) (v : Int32) (l0 l1 l2 : Option Value) (st : List Value) (h : tm_H) (K : Option Value → tm_H → Prop) : tm_A d 74 39 [l0, l1, l2] (.int v :: st) h K ↔ tm_A d 74 40 [l0, l1, some (.int v)] st h K := tm_s o74_39 rfl rfl rfl
theorem o74_40 : tm_op 74 40 = some (.aload_n 0, (0, 0, 0, 0)) := rfl
theorem r74_40 (d : Nat) (v : Nat) (l1 l2 : Option Value) (st : List Value) (h : tm_H) (K : Option Value → tm_H → Prop) : tm_A d 74 40 [some (.ref v), l1, l2] st h K ↔ tm_A d 74 41 [some (.ref v), l1, l2] (.ref v :: st) h K := tm_s o74_40 rfl rfl rfl
theorem o74_41 : tm_op 74 41 = some (.invokevirtual 39, (2, 77, 1, 7)) := rfl
theorem r74_41 (d : Nat) (a : Nat) (ls : tm_Lo) (st : List Value) (h : tm_H) (K : Option Value → tm_H → Prop) : tm_A (d + 1) 74 41 ls (.ref a :: st) h K ↔ (h.1.2.2 a = (0, 7) ∧ tm_cs st) ∧ tm_R d 77 [.ref a] h (fun r h' => tm_A (d + 1) 74 44 ls (r.toList ++ st) h' K) := tm_callV (as := []) o74_41 rfl rfl rfl rfl
theorem o74_44 : tm_op 74 44 = some (.ifCond .ne 5, (0, 0, 0, 0)) := rfl
theorem r74_44 (d : Nat) (x : Int32) (ls : tm_Lo) (st : List Value) (h : tm_H) (K : Option Value → tm_H → Prop) : tm_A d 74 44 ls (.int x :: st) h K ↔ if ¬ x = 0 then tm_A d 74 49 ls st h K else tm_A d 74 47 ls st h K := tm_b o74_44 rfl rfl rfl rfl
theorem o74_47 : tm_op 74 47 = some (.iload_n 2, (0, 0, 0, 0)) := rfl
theorem r74_47 (d : Nat) (v : Int32) (l0 l1 : Option Value) (st : List Value) (h : tm_H) (K : Option Value → tm_H → Prop) : tm_A d 74 47 [l0, l1, some (.int v)] st h K ↔ tm_A d 74 48 [l0, l1, some (.int v)] (.int v :: st) h K := tm_s o74_47 rfl rfl rfl
theorem o74_48 : tm_op 74 48 = some (.ireturn, (0, 0, 0, 0)) := rfl
theorem r74_48 (d : Nat) (v : Int32) (ls : tm_Lo) (h : tm_H) (K : Option Value → tm_H → Prop) : tm_A d 74 48 ls [.int v] h K ↔ K (some (.int v)) h := tm_reti o74_48 rfl
theorem o74_49 : tm_op 74 49 = some (.aload_n 0, (0, 0, 0, 0)) := rfl
theorem r74_49 (d : Nat) (v : Nat) (l1 l2 : Option Value) (st : List Value) (h : tm_H) (K : Option Value → tm_H → Prop) : tm_A d 74 49 [some (.ref v), l1, l2] st h K ↔ tm_A d 74 50 [some (.ref v), l1, l2] (.ref v :: st) h K := tm_s o74_49 rfl rfl rfl
theorem o74_50 : tm_op 74 50 = some (.invokevirtual 43, (2, 75, 1, 7)) := rfl
theorem r74_50 (d : Nat) (a : Nat) (ls : tm_Lo) (st : List Value) (h : tm_H) (K : Option Value → tm_H → Prop) : tm_A (d + 1) 74 50 ls (.ref a :: st) h K ↔ (h.1.2.2 a = (0, 7) ∧ tm_cs st) ∧ tm_R d 75 [.ref a] h (fun r h' => tm_A (d + 1) 74 53 ls (r.toList ++ st) h' K) := tm_callV (as := []) o74_50 rfl rfl rfl rfl
theorem o74_53 : tm_op 74 53 = some (.bipush 32, (0, 0, 0, 0)) := rfl
theorem r74_53 (d : Nat) (ls : tm_Lo) (st : List Value) (h : tm_H) (K : Option Value → tm_H → Prop) : tm_A d 74 53 ls st h K ↔ tm_A d 74 55 ls (.int (32 : Int32) :: st) h K := tm_bp o74_53 (by decide)
theorem o74_55 : tm_op 74 55 = some (.if_icmp .eq 15, (0, 0, 0, 0)) := rfl
theorem r74_55 (d : Nat) (y x : Int32) (ls : tm_Lo) (st : List Value) (h : tm_H) (K : Option Value → tm_H → Prop) : tm_A d 74 55 ls (.int y :: .int x :: st) h K ↔ if x = y then tm_A d 74 70 ls st h K else tm_A d 74 58 ls st h K := tm_b o74_55 rfl rfl rfl rfl
theorem o74_58 : tm_op 74 58 = some (.aload_n 0, (0, 0, 0, 0)) := rfl
theorem r74_58 (d : Nat) (v : Nat) (l1 l2 : Option Value) (st : List Value) (h : tm_H) (K : Option Value → tm_H → Prop) : tm_A d 74 58 [some (.ref v), l1, l2] st h K ↔ tm_A d 74 59 [some (.ref v), l1, l2] (.ref v :: st) h K := tm_s o74_58 rfl rfl rfl
theorem o74_59 : tm_op 74 59 = some (.invokevirtual 43, (2, 75, 1, 7)) := rfl
theorem r74_59 (d : Nat) (a : Nat) (ls : tm_Lo) (st : List Value) (h : tm_H) (K : Option Value → tm_H → Prop) : tm_A (d + 1) 74 59 ls (.ref a :: st) h K ↔ (h.1.2.2 a = (0, 7) ∧ tm_cs st) ∧ tm_R d 75 [.ref a] h (fun r h' => tm_A (d + 1) 74 62 ls (r.toList ++ st) h' K) := tm_callV (as := []) o74_59 rfl rfl rfl rfl
theorem o74_62 : tm_op 74 62 = some (.ifCond .eq 8, (0, 0, 0, 0)) := rfl
theorem r74_62 (d : Nat) (x : Int32) (ls : tm_Lo) (st : List Value) (h : tm_H) (K : Option Value → tm_H → Prop) : tm_A d 74 62 ls (.int x :: st) h K ↔ if x = 0 then tm_A d 74 70 ls st h K else tm_A d 74 65 ls st h K := tm_b o74_62 rfl rfl rfl rfl
theorem o74_65 : tm_op 74 65 = some (.aload_n 0, (0, 0, 0, 0)) := rfl
theorem r74_65 (d : Nat) (v : Nat) (l1 l2 : Option Value) (st : List Value) (h : tm_H) (K : Option Value → tm_H → Prop) : tm_A d 74 65 [some (.ref v), l1, l2] st h K ↔ tm_A d 74 66 [some (.ref v), l1, l2] (.ref v :: st) h K := tm_s o74_65 rfl rfl rfl
theorem o74_66 : tm_op 74 66 = some (.getfield 19, (0, 7, 2, 0)) := rfl
theorem r74_66 (d : Nat) (a : Nat) (ls : tm_Lo) (st : List Value) (G : tm_G) (I : Nat → Nat → Int32) (J : Nat → Nat → Int64) (R : Nat → Nat → Option Nat) (K : Option Value → tm_H → Prop) : tm_A d 74 66 ls (.ref a :: st) (G, I, J, R) K ↔ G.2.2 a = (0, 7) ∧ tm_A d 74 69 ls (.int (I a 2) :: st) (G, I, J, R) K := tm_getI o74_66
theorem o74_69 : tm_op 74 69 = some (.ireturn, (0, 0, 0, 0)) := rfl
theorem r74_69 (d : Nat) (v : Int32) (ls : tm_Lo) (h : tm_H) (K : Option Value → tm_H → Prop) : tm_A d 74 69 ls [.int v] h K ↔ K (some (.int v)) h := tm_reti o74_69 rfl
theorem o74_70 : tm_op 74 70 = some (.aload_n 0, (0, 0, 0, 0)) := rfl
theorem r74_70 (d : Nat) (v : Nat) (l1 l2 : Option Value) (st : List Value) (h : tm_H) (K : Option Value → tm_H → Prop) : tm_A d 74 70 [some (.ref v), l1, l2] st h K ↔ tm_A d 74 71 [some (.ref v), l1, l2] (.ref v :: st) h K := tm_s o74_70 rfl rfl rfl
theorem o74_71 : tm_op 74 71 = some (.invokevirtual 36, (2, 76, 1, 7)) := rfl
theorem r74_71 (d : Nat) (a : Nat) (ls : tm_Lo) (st : List Value) (h : tm_H) (K : Option Value → tm_H → Prop) : tm_A (d + 1) 74 71 ls (.ref a :: st) h K ↔ (h.1.2.2 a = (0, 7) ∧ tm_cs st) ∧ tm_R d 76 [.ref a] h (fun r h' => tm_A (d + 1) 74 74 ls (r.toList ++ st) h' K) := tm_callV (as := []) o74_71 rfl rfl rfl rfl
theorem o74_74 : tm_op 74 74 = some (.iinc 1 1, (0, 0, 0, 0)) := rfl
theorem r74_74 (d : Nat) (v : Int32) (l0 l2 : Option Value) (st : List Value) (h : tm_H) (K : Option Value → tm_H → Prop) : tm_A d 74 74 [l0, some (.int v), l2] st h K ↔ tm_A d 74 77 [l0, some (.int (v + (1 : Int32))), l2] st h K := tm_s o74_74 rfl rfl rfl
theorem o74_77 : tm_op 74 77 = some (.goto (-59), (0, 0, 0, 0)) := rfl
theorem r74_77 (d : Nat) (ls : tm_Lo) (st : List Value) (h : tm_H) (K : Option Value → tm_H → Prop) : tm_A d 74 77 ls st h K ↔ tm_A d 74 18 ls st h K := tm_s o74_77 rfl rfl rfl
theorem o74_80 : tm_op 74 80 = some (.aload_n 0, (0, 0, 0, 0)) := rfl
theorem r74_80 (d : Nat) (v : Nat) (l1 l2 : Option Value) (st : List Value) (h : tm_H) (K : Option Value → tm_H → Prop) : tm_A d 74 80 [some (.ref v), l1, l2] st h K ↔ tm_A d 74 81 [some (.ref v), l1, l2] (.ref v :: st) h K := tm_s o74_80 rfl rfl rfl
theorem o74_81 : tm_op 74 81 = some (.getfield 25, (2, 7, 3, 0)) := rfl
theorem r74_81 (d : Nat) (a : Nat) (ls : tm_Lo) (st : List Value) (G : tm_G) (I : Nat → Nat → Int32) (J : Nat → Nat → Int64) (R : Nat → Nat → Option Nat) (K : Option Value → tm_H → Prop) : tm_A d 74 81 ls (.ref a :: st) (G, I, J, R) K ↔ G.2.2 a = (0, 7) ∧ tm_A d 74 84 ls (tm_rf (R a 3) :: st) (G, I, J, R) K := tm_getR o74_81
theorem o74_84 : tm_op 74 84 = some (.invokevirtual 47, (2, 2, 1, 0)) := rfl
theorem r74_84 (d : Nat) (a : Nat) (ls : tm_Lo) (st : List Value) (h : tm_H) (K : Option Value → tm_H → Prop) : tm_A (d + 1) 74 84 ls (.ref a :: st) h K ↔ (h.1.2.2 a = (0, 0) ∧ tm_cs st) ∧ tm_R d 2 [.ref a] h (fun r h' => tm_A (d + 1) 74 87 ls (r.toList ++ st) h' K) := tm_callV (as := []) o74_84 rfl rfl rfl rfl
theorem o74_87 : tm_op 74 87 = some (.ifCond .ne 10, (0, 0, 0, 0)) := rfl
theorem r74_87 (d : Nat) (x : Int32) (ls : tm_Lo) (st : List Value) (h : tm_H) (K : Option Value → tm_H → Prop) : tm_A d 74 87 ls (.int x :: st) h K ↔ if ¬ x = 0 then tm_A d 74 97 ls st h K else tm_A d 74 90 ls st h K := tm_b o74_87 rfl rfl rfl rfl
theorem o74_90 : tm_op 74 90 = some (.aload_n 0, (0, 0, 0, 0)) := rfl
theorem r74_90 (d : Nat) (v : Nat) (l1 l2 : Option Value) (st : List Value) (h : tm_H) (K : Option Value → tm_H → Prop) : tm_A d 74 90 [some (.ref v), l1, l2] st h K ↔ tm_A d 74 91 [some (.ref v), l1, l2] (.ref v :: st) h K := tm_s o74_90 rfl rfl rfl
theorem o74_91 : tm_op 74 91 = some (.getfield 15, (0, 7, 1, 0)) := rfl
theorem r74_91 (d : Nat) (a : Nat) (ls : tm_Lo) (st : List Value) (G : tm_G) (I : Nat → Nat → Int32) (J : Nat → Nat → Int64) (R : Nat → Nat → Option Nat) (K : Option Value → tm_H → Prop) : tm_A d 74 91 ls (.ref a :: st) (G, I, J, R) K ↔ G.2.2 a = (0, 7) ∧ tm_A d 74 94 ls (.int (I a 1) :: st) (G, I, J, R) K := tm_getI o74_91
theorem o74_94 : tm_op 74 94 = some (.goto 4, (0, 0, 0, 0)) := rfl
theorem r74_94 (d : Nat) (ls : tm_Lo) (st : List Value) (h : tm_H) (K : Option Value → tm_H → Prop) : tm_A d 74 94 ls st h K ↔ tm_A d 74 98 ls st h K := tm_s o74_94 rfl rfl rfl
theorem o74_97 : tm_op 74 97 = some (.iconst (-1), (0, 0, 0, 0)) := rfl
theorem r74_97 (d : Nat) (ls : tm_Lo) (st : List Value) (h : tm_H) (K : Option Value → tm_H → Prop) : tm_A d 74 97 ls st h K ↔ tm_A d 74 98 ls (.int (-1 : Int32) :: st) h K := tm_ic o74_97 (by decide)
theorem o74_98 : tm_op 74 98 = some (.ireturn, (0, 0, 0, 0)) := rfl
theorem r74_98 (d : Nat) (v : Int32) (ls : tm_Lo) (h : tm_H) (K : Option Value → tm_H → Prop) : tm_A d 74 98 ls [.int v] h K ↔ K (some (.int v)) h := tm_reti o74_98 rfl
theorem o75_0 : tm_op 75 0 = some (.aload_n 0, (0, 0, 0, 0)) := rfl
theorem r75_0 (d : Nat) (v : Nat) (st : List Value) (h : tm_H) (K : Option Value → tm_H → Prop) : tm_A d 75 0 [some (.ref v)] st h K ↔ tm_A d 75 1 [some (.ref v)] (.ref v :: st) h K := tm_s o75_0 rfl rfl rfl
theorem o75_1 : tm_op 75 1 = some (.getfield 19, (0, 7, 2, 0)) := rfl
theorem r75_1 (d : Nat) (a : Nat) (ls : tm_Lo) (st : List Value) (G : tm_G) (I : Nat → Nat → Int32) (J : Nat → Nat → Int64) (R : Nat → Nat → Option Nat) (K : Option Value → tm_H → Prop) : tm_A d 75 1 ls (.ref a :: st) (G, I, J, R) K ↔ G.2.2 a = (0, 7) ∧ tm_A d 75 4 ls (.int (I a 2) :: st) (G, I, J, R) K := tm_getI o75_1
theorem o75_4 : tm_op 75 4 = some (.ifCond .lt 35, (0, 0, 0, 0)) := rfl
theorem r75_4 (d : Nat) (x : Int32) (ls : tm_Lo) (st : List Value) (h : tm_H) (K : Option Value → tm_H → Prop) : tm_A d 75 4 ls (.int x :: st) h K ↔ if x < 0 then tm_A d 75 39 ls st h K else tm_A d 75 7 ls st h K := tm_b o75_4 rfl rfl rfl rfl
theorem o75_7 : tm_op 75 7 = some (.aload_n 0, (0, 0, 0, 0)) := rfl
theorem r75_7 (d : Nat) (v : Nat) (st : List Value) (h : tm_H) (K : Option Value → tm_H → Prop) : tm_A d 75 7 [some (.ref v)] st h K ↔ tm_A d 75 8 [some (.ref v)] (.ref v :: st) h K := tm_s o75_7 rfl rfl rfl
theorem o75_8 : tm_op 75 8 = some (.getfield 19, (0, 7, 2, 0)) := rfl
theorem r75_8 (d : Nat) (a : Nat) (ls : tm_Lo) (st : List Value) (G : tm_G) (I : Nat → Nat → Int32) (J : Nat → Nat → Int64) (R : Nat → Nat → Option Nat) (K : Option Value → tm_H → Prop) : tm_A d 75 8 ls (.ref a :: st) (G, I, J, R) K ↔ G.2.2 a = (0, 7) ∧ tm_A d 75 11 ls (.int (I a 2) :: st) (G, I, J, R) K := tm_getI o75_8
theorem o75_11 : tm_op 75 11 = some (.aload_n 0, (0, 0, 0, 0)) := rfl
theorem r75_11 (d : Nat) (v : Nat) (st : List Value) (h : tm_H) (K : Option Value → tm_H → Prop) : tm_A d 75 11 [some (.ref v)] st h K ↔ tm_A d 75 12 [some (.ref v)] (.ref v :: st) h K := tm_s o75_11 rfl rfl rfl
theorem o75_12 : tm_op 75 12 = some (.getfield 15, (0, 7, 1, 0)) := rfl
theorem r75_12 (d : Nat) (a : Nat) (ls : tm_Lo) (st : List Value) (G : tm_G) (I : Nat → Nat → Int32) (J : Nat → Nat → Int64) (R : Nat → Nat → Option Nat) (K : Option Value → tm_H → Prop) : tm_A d 75 12 ls (.ref a :: st) (G, I, J, R) K ↔ G.2.2 a = (0, 7) ∧ tm_A d 75 15 ls (.int (I a 1) :: st) (G, I, J, R) K := tm_getI o75_12
theorem o75_15 : tm_op 75 15 = some (.if_icmp .ge 24, (0, 0, 0, 0)) := rfl
theorem r75_15 (d : Nat) (y x : Int32) (ls : tm_Lo) (st : List Value) (h : tm_H) (K : Option Value → tm_H → Prop) : tm_A d 75 15 ls (.int y :: .int x :: st) h K ↔ if y ≤ x then tm_A d 75 39 ls st h K else tm_A d 75 18 ls st h K := tm_b o75_15 rfl rfl rfl rfl
theorem o75_18 : tm_op 75 18 = some (.aload_n 0, (0, 0, 0, 0)) := rfl
theorem r75_18 (d : Nat) (v : Nat) (st : List Value) (h : tm_H) (K : Option Value → tm_H → Prop) : tm_A d 75 18 [some (.ref v)] st h K ↔ tm_A d 75 19 [some (.ref v)] (.ref v :: st) h K := tm_s o75_18 rfl rfl rfl
theorem o75_19 : tm_op 75 19 = some (.getfield 19, (0, 7, 2, 0)) := rfl
theorem r75_19 (d : Nat) (a : Nat) (ls : tm_Lo) (st : List Value) (G : tm_G) (I : Nat → Nat → Int32) (J : Nat → Nat → Int64) (R : Nat → Nat → Option Nat) (K : Option Value → tm_H → Prop) : tm_A d 75 19 ls (.ref a :: st) (G, I, J, R) K ↔ G.2.2 a = (0, 7) ∧ tm_A d 75 22 ls (.int (I a 2) :: st) (G, I, J, R) K := tm_getI o75_19
theorem o75_22 : tm_op 75 22 = some (.bipush 100, (0, 0, 0, 0)) := rfl
theorem r75_22 (d : Nat) (ls : tm_Lo) (st : List Value) (h : tm_H) (K : Option Value → tm_H → Prop) : tm_A d 75 22 ls st h K ↔ tm_A d 75 24 ls (.int (100 : Int32) :: st) h K := tm_bp o75_22 (by decide)
theorem o75_24 : tm_op 75 24 = some (.if_icmp .ge 15, (0, 0, 0, 0)) := rfl
theorem r75_24 (d : Nat) (y x : Int32) (ls : tm_Lo) (st : List Value) (h : tm_H) (K : Option Value → tm_H → Prop) : tm_A d 75 24 ls (.int y :: .int x :: st) h K ↔ if y ≤ x then tm_A d 75 39 ls st h K else tm_A d 75 27 ls st h K := tm_b o75_24 rfl rfl rfl rfl
theorem o75_27 : tm_op 75 27 = some (.aload_n 0, (0, 0, 0, 0)) := rfl
theorem r75_27 (d : Nat) (v : Nat) (st : List Value) (h : tm_H) (K : Option Value → tm_H → Prop) : tm_A d 75 27 [some (.ref v)] st h K ↔ tm_A d 75 28 [some (.ref v)] (.ref v :: st) h K := tm_s o75_27 rfl rfl rfl
theorem o75_28 : tm_op 75 28 = some (.getfield 9, (2, 7, 0, 0)) := rfl
theorem r75_28 (d : Nat) (a : Nat) (ls : tm_Lo) (st : List Value) (G : tm_G) (I : Nat → Nat → Int32) (J : Nat → Nat → Int64) (R : Nat → Nat → Option Nat) (K : Option Value → tm_H → Prop) : tm_A d 75 28 ls (.ref a :: st) (G, I, J, R) K ↔ G.2.2 a = (0, 7) ∧ tm_A d 75 31 ls (tm_rf (R a 0) :: st) (G, I, J, R) K := tm_getR o75_28
theorem o75_31 : tm_op 75 31 = some (.aload_n 0, (0, 0, 0, 0)) := rfl
theorem r75_31 (d : Nat) (v : Nat) (st : List Value) (h : tm_H) (K : Option Value → tm_H → Prop) : tm_A d 75 31 [some (.ref v)] st h K ↔ tm_A d 75 32 [some (.ref v)] (.ref v :: st) h K := tm_s o75_31 rfl rfl rfl
theorem o75_32 : tm_op 75 32 = some (.getfield 19, (0, 7, 2, 0)) := rfl
theorem r75_32 (d : Nat) (a : Nat) (ls : tm_Lo) (st : List Value) (G : tm_G) (I : Nat → Nat → Int32) (J : Nat → Nat → Int64) (R : Nat → Nat → Option Nat) (K : Option Value → tm_H → Prop) : tm_A d 75 32 ls (.ref a :: st) (G, I, J, R) K ↔ G.2.2 a = (0, 7) ∧ tm_A d 75 35 ls (.int (I a 2) :: st) (G, I, J, R) K := tm_getI o75_32
theorem o75_35 : tm_op 75 35 = some (.iaload, (0, 0, 0, 0)) := rfl
theorem r75_35 (d : Nat) (v : Int32) (a : Nat) (ls : tm_Lo) (st : List Value) (G : tm_G) (I : Nat → Nat → Int32) (J : Nat → Nat → Int64) (R : Nat → Nat → Option Nat) (K : Option Value → tm_H → Prop) : tm_A d 75 35 ls (.int v :: .ref a :: st) (G, I, J, R) K ↔ ((G.2.2 a).1 = 1 ∧ tm_in v (G.2.2 a).2) ∧ tm_A d 75 36 ls (.int (I a (tm_ix v)) :: st) (G, I, J, R) K := tm_iald o75_35
theorem o75_36 : tm_op 75 36 = some (.goto 4, (0, 0, 0, 0)) := rfl
theorem r75_36 (d : Nat) (ls : tm_Lo) (st : List Value) (h : tm_H) (K : Option Value → tm_H → Prop) : tm_A d 75 36 ls st h K ↔ tm_A d 75 40 ls st h K := tm_s o75_36 rfl rfl rfl
theorem o75_39 : tm_op 75 39 = some (.iconst 0, (0, 0, 0, 0)) := rfl
theorem r75_39 (d : Nat) (ls : tm_Lo) (st : List Value) (h : tm_H) (K : Option Value → tm_H → Prop) : tm_A d 75 39 ls st h K ↔ tm_A d 75 40 ls (.int (0 : Int32) :: st) h K := tm_ic o75_39 (by decide)
theorem o75_40 : tm_op 75 40 = some (.ireturn, (0, 0, 0, 0)) := rfl
theorem r75_40 (d : Nat) (v : Int32) (ls : tm_Lo) (h : tm_H) (K : Option Value → tm_H → Prop) : tm_A d 75 40 ls [.int v] h K ↔ K (some (.int v)) h := tm_reti o75_40 rfl
theorem o76_0 : tm_op 76 0 = some (.iconst 0, (0, 0, 0, 0)) := rfl
theorem r76_0 (d : Nat) (ls : tm_Lo) (st : List Value) (h : tm_H) (K : Option Value → tm_H → Prop) : tm_A d 76 0 ls st h K ↔ tm_A d 76 1 ls (.int (0 : Int32) :: st) h K := tm_ic o76_0 (by decide)
theorem o76_1 : tm_op 76 1 = some (.istore_n 1, (0, 0, 0, 0)) := rfl
theorem r76_1 (d : Nat) (v : Int32) (l0 l1 : Option Value) (st : List Value) (h : tm_H) (K : Option Value → tm_H → Prop) : tm_A d 76 1 [l0, l1] (.int v :: st) h K ↔ tm_A d 76 2 [l0, some (.int v)] st h K := tm_s o76_1 rfl rfl rfl
theorem o76_2 : tm_op 76 2 = some (.iload_n 1, (0, 0, 0, 0)) := rfl
theorem r76_2 (d : Nat) (v : Int32) (l0 : Option Value) (st : List Value) (h : tm_H) (K : Option Value → tm_H → Prop) : tm_A d 76 2 [l0, some (.int v)] st h K ↔ tm_A d 76 3 [l0, some (.int v)] (.int v :: st) h K := tm_s o76_2 rfl rfl rfl
theorem o76_3 : tm_op 76 3 = some (.bipush 100, (0, 0, 0, 0)) := rfl
theorem r76_3 (d : Nat) (ls : tm_Lo) (st : List Value) (h : tm_H) (K : Option Value → tm_H → Prop) : tm_A d 76 3 ls st h K ↔ tm_A d 76 5 ls (.int (100 : Int32) :: st) h K := tm_bp o76_3 (by decide)
theorem o76_5 : tm_op 76 5 = some (.if_icmp .ge 28, (0, 0, 0, 0)) := rfl
theorem r76_5 (d : Nat) (y x : Int32) (ls : tm_Lo) (st : List Value) (h : tm_H) (K : Option Value → tm_H → Prop) : tm_A d 76 5 ls (.int y :: .int x :: st) h K ↔ if y ≤ x then tm_A d 76 33 ls st h K else tm_A d 76 8 ls st h K := tm_b o76_5 rfl rfl rfl rfl
theorem o76_8 : tm_op 76 8 = some (.aload_n 0, (0, 0, 0, 0)) := rfl
theorem r76_8 (d : Nat) (v : Nat) (l1 : Option Value) (st : List Value) (h : tm_H) (K : Option Value → tm_H → Prop) : tm_A d 76 8 [some (.ref v), l1] st h K ↔ tm_A d 76 9 [some (.ref v), l1] (.ref v :: st) h K := tm_s o76_8 rfl rfl rfl
theorem o76_9 : tm_op 76 9 = some (.invokevirtual 43, (2, 75, 1, 7)) := rfl
theorem r76_9 (d : Nat) (a : Nat) (ls : tm_Lo) (st : List Value) (h : tm_H) (K : Option Value → tm_H → Prop) : tm_A (d + 1) 76 9 ls (.ref a :: st) h K ↔ (h.1.2.2 a = (0, 7) ∧ tm_cs st) ∧ tm_R d 75 [.ref a] h (fun r h' => tm_A (d + 1) 76 12 ls (r.toList ++ st) h' K) := tm_callV (as := []) o76_9 rfl rfl rfl rfl
theorem o76_12 : tm_op 76 12 = some (.bipush 32, (0, 0, 0, 0)) := rfl
theorem r76_12 (d : Nat) (ls : tm_Lo) (st : List Value) (h : tm_H) (K : Option Value → tm_H → Prop) : tm_A d 76 12 ls st h K ↔ tm_A d 76 14 ls (.int (32 : Int32) :: st) h K := tm_bp o76_12 (by decide)
theorem o76_14 : tm_op 76 14 = some (.if_icmp .ne 19, (0, 0, 0, 0)) := rfl
theorem r76_14 (d : Nat) (y x : Int32) (ls : tm_Lo) (st : List Value) (h : tm_H) (K : Option Value → tm_H → Prop) : tm_A d 76 14 ls (.int y :: .int x :: st) h K ↔ if ¬ x = y then tm_A d 76 33 ls st h K else tm_A d 76 17 ls st h K := tm_b o76_14 rfl rfl rfl rfl
theorem o76_17 : tm_op 76 17 = some (.aload_n 0, (0, 0, 0, 0)) := rfl
theorem r76_17 (d : Nat) (v : Nat) (l1 : Option Value) (st : List Value) (h : tm_H) (K : Option Value → tm_H → Prop) : tm_A d 76 17 [some (.ref v), l1] st h K ↔ tm_A d 76 18 [some (.ref v), l1] (.ref v :: st) h K := tm_s o76_17 rfl rfl rfl
theorem o76_18 : tm_op 76 18 = some (.dup, (0, 0, 0, 0)) := rfl
theorem r76_18 (d : Nat) (v : Nat) (ls : tm_Lo) (st : List Value) (h : tm_H) (K : Option Value → tm_H → Prop) : tm_A d 76 18 ls (.ref v :: st) h K ↔ tm_A d 76 19 ls (.ref v :: .ref v :: st) h K := tm_s o76_18 rfl rfl rfl
theorem r76_18i (d : Nat) (v : Int32) (ls : tm_Lo) (st : List Value) (h : tm_H) (K : Option Value → tm_H → Prop) : tm_A d 76 18 ls (.int v :: st) h K ↔ tm_A d 76 19 ls (.int v :: .int v :: st) h K := tm_s o76_18 rfl rfl rfl
theorem o76_19 : tm_op 76 19 = some (.getfield 19, (0, 7, 2, 0)) := rfl
theorem r76_19 (d : Nat) (a : Nat) (ls : tm_Lo) (st : List Value) (G : tm_G) (I : Nat → Nat → Int32) (J : Nat → Nat → Int64) (R : Nat → Nat → Option Nat) (K : Option Value → tm_H → Prop) : tm_A d 76 19 ls (.ref a :: st) (G, I, J, R) K ↔ G.2.2 a = (0, 7) ∧ tm_A d 76 22 ls (.int (I a 2) :: st) (G, I, J, R) K := tm_getI o76_19
theorem o76_22 : tm_op 76 22 = some (.iconst 1, (0, 0, 0, 0)) := rfl
theorem r76_22 (d : Nat) (ls : tm_Lo) (st : List Value) (h : tm_H) (K : Option Value → tm_H → Prop) : tm_A d 76 22 ls st h K ↔ tm_A d 76 23 ls (.int (1 : Int32) :: st) h K := tm_ic o76_22 (by decide)
theorem o76_23 : tm_op 76 23 = some (.iadd, (0, 0, 0, 0)) := rfl
theorem r76_23 (d : Nat) (u v : Int32) (ls : tm_Lo) (st : List Value) (h : tm_H) (K : Option Value → tm_H → Prop) : tm_A d 76 23 ls (.int u :: .int v :: st) h K ↔ tm_A d 76 24 ls (.int (v + u) :: st) h K := tm_s o76_23 rfl rfl rfl
theorem o76_24 : tm_op 76 24 = some (.putfield 19, (0, 7, 2, 0)) := rfl
theorem r76_24 (d : Nat) (v : Int32) (a : Nat) (ls : tm_Lo) (st : List Value) (G : tm_G) (I : Nat → Nat → Int32) (J : Nat → Nat → Int64) (R : Nat → Nat → Option Nat) (K : Option Value → tm_H → Prop) : tm_A d 76 24 ls (.int v :: .ref a :: st) (G, I, J, R) K ↔ G.2.2 a = (0, 7) ∧ tm_A d 76 27 ls st (G, up2 I a 2 v, J, R) K := tm_putI o76_24
theorem o76_27 : tm_op 76 27 = some (.iinc 1 1, (0, 0, 0, 0)) := rfl
theorem r76_27 (d : Nat) (v : Int32) (l0 : Option Value) (st : List Value) (h : tm_H) (K : Option Value → tm_H → Prop) : tm_A d 76 27 [l0, some (.int v)] st h K ↔ tm_A d 76 30 [l0, some (.int (v + (1 : Int32)))] st h K := tm_s o76_27 rfl rfl rfl
theorem o76_30 : tm_op 76 30 = some (.goto (-28), (0, 0, 0, 0)) := rfl
theorem r76_30 (d : Nat) (ls : tm_Lo) (st : List Value) (h : tm_H) (K : Option Value → tm_H → Prop) : tm_A d 76 30 ls st h K ↔ tm_A d 76 2 ls st h K := tm_s o76_30 rfl rfl rfl
theorem o76_33 : tm_op 76 33 = some (.return_, (0, 0, 0, 0)) := rfl
theorem r76_33 (d : Nat) (ls : tm_Lo) (h : tm_H) (K : Option Value → tm_H → Prop) : tm_A d 76 33 ls [] h K ↔ K none h := tm_retv o76_33 rfl
theorem o77_0 : tm_op 77 0 = some (.aload_n 0, (0, 0, 0, 0)) := rfl
theorem r77_0 (d : Nat) (v : Nat) (l1 : Option Value) (st : List Value) (h : tm_H) (K : Option Value → tm_H → Prop) : tm_A d 77 0 [some (.ref v), l1] st h K ↔ tm_A d 77 1 [some (.ref v), l1] (.ref v :: st) h K := tm_s o77_0 rfl rfl rfl
theorem o77_1 : tm_op 77 1 = some (.invokevirtual 50, (2, 78, 1, 7)) := rfl
theorem r77_1 (d : Nat) (a : Nat) (ls : tm_Lo) (st : List Value) (h : tm_H) (K : Option Value → tm_H → Prop) : tm_A (d + 1) 77 1 ls (.ref a :: st) h K ↔ (h.1.2.2 a = (0, 7) ∧ tm_cs st) ∧ tm_R d 78 [.ref a] h (fun r h' => tm_A (d + 1) 77 4 ls (r.toList ++ st) h' K) := tm_callV (as := []) o77_1 rfl rfl rfl rfl
theorem o77_4 : tm_op 77 4 = some (.istore_n 1, (0, 0, 0, 0)) := rfl
theorem r77_4 (d : Nat) (v : Int32) (l0 l1 : Option Value) (st : List Value) (h : tm_H) (K : Option Value → tm_H → Prop) : tm_A d 77 4 [l0, l1] (.int v :: st) h K ↔ tm_A d 77 5 [l0, some (.int v)] st h K := tm_s o77_4 rfl rfl rfl
theorem o77_5 : tm_op 77 5 = some (.iload_n 1, (0, 0, 0, 0)) := rfl
theorem r77_5 (d : Nat) (v : Int32) (l0 : Option Value) (st : List Value) (h : tm_H) (K : Option Value → tm_H → Prop) : tm_A d 77 5 [l0, some (.int v)] st h K ↔ tm_A d 77 6 [l0, some (.int v)] (.int v :: st) h K := tm_s o77_5 rfl rfl rfl
theorem o77_6 : tm_op 77 6 = some (.iconst (-1), (0, 0, 0, 0)) := rfl
theorem r77_6 (d : Nat) (ls : tm_Lo) (st : List Value) (h : tm_H) (K : Option Value → tm_H → Prop) : tm_A d 77 6 ls st h K ↔ tm_A d 77 7 ls (.int (-1 : Int32) :: st) h K := tm_ic o77_6 (by decide)
theorem o77_7 : tm_op 77 7 = some (.if_icmp .eq 14, (0, 0, 0, 0)) := rfl
theorem r77_7 (d : Nat) (y x : Int32) (ls : tm_Lo) (st : List Value) (h : tm_H) (K : Option Value → tm_H → Prop) : tm_A d 77 7 ls (.int y :: .int x :: st) h K ↔ if x = y then tm_A d 77 21 ls st h K else tm_A d 77 10 ls st h K := tm_b o77_7 rfl rfl rfl rfl
theorem o77_10 : tm_op 77 10 = some (.aload_n 0, (0, 0, 0, 0)) := rfl
theorem r77_10 (d : Nat) (v : Nat) (l1 : Option Value) (st : List Value) (h : tm_H) (K : Option Value → tm_H → Prop) : tm_A d 77 10 [some (.ref v), l1] st h K ↔ tm_A d 77 11 [some (.ref v), l1] (.ref v :: st) h K := tm_s o77_10 rfl rfl rfl
theorem o77_11 : tm_op 77 11 = some (.getfield 25, (2, 7, 3, 0)) := rfl
theorem r77_11 (d : Nat) (a : Nat) (ls : tm_Lo) (st : List Value) (G : tm_G) (I : Nat → Nat → Int32) (J : Nat → Nat → Int64) (R : Nat → Nat → Option Nat) (K : Option Value → tm_H → Prop) : tm_A d 77 11 ls (.ref a :: st) (G, I, J, R) K ↔ G.2.2 a = (0, 7) ∧ tm_A d 77 14 ls (tm_rf (R a 3) :: st) (G, I, J, R) K := tm_getR o77_11
theorem o77_14 : tm_op 77 14 = some (.iload_n 1, (0, 0, 0, 0)) := rfl
theorem r77_14 (d : Nat) (v : Int32) (l0 : Option Value) (st : List Value) (h : tm_H) (K : Option Value → tm_H → Prop) : tm_A d 77 14 [l0, some (.int v)] st h K ↔ tm_A d 77 15 [l0, some (.int v)] (.int v :: st) h K := tm_s o77_14 rfl rfl rfl
theorem o77_15 : tm_op 77 15 = some (.invokevirtual 53, (2, 3, 2, 0)) := rfl
theorem r77_15 (d : Nat) (v1 : Int32) (a : Nat) (ls : tm_Lo) (st : List Value) (h : tm_H) (K : Option Value → tm_H → Prop) : tm_A (d + 1) 77 15 ls (.int v1 :: .ref a :: st) h K ↔ (h.1.2.2 a = (0, 0) ∧ tm_cs st) ∧ tm_R d 3 [.ref a, .int v1] h (fun r h' => tm_A (d + 1) 77 18 ls (r.toList ++ st) h' K) := tm_callV (as := [.int v1]) o77_15 rfl rfl rfl rfl
theorem o77_18 : tm_op 77 18 = some (.ifCond .eq 5, (0, 0, 0, 0)) := rfl
theorem r77_18 (d : Nat) (x : Int32) (ls : tm_Lo) (st : List Value) (h : tm_H) (K : Option Value → tm_H → Prop) : tm_A d 77 18 ls (.int x :: st) h K ↔ if x = 0 then tm_A d 77 23 ls st h K else tm_A d 77 21 ls st h K := tm_b o77_18 rfl rfl rfl rfl
theorem o77_21 : tm_op 77 21 = some (.iconst 0, (0, 0, 0, 0)) := rfl
theorem r77_21 (d : Nat) (ls : tm_Lo) (st : List Value) (h : tm_H) (K : Option Value → tm_H → Prop) : tm_A d 77 21 ls st h K ↔ tm_A d 77 22 ls (.int (0 : Int32) :: st) h K := tm_ic o77_21 (by decide)
theorem o77_22 : tm_op 77 22 = some (.ireturn, (0, 0, 0, 0)) := rfl
theorem r77_22 (d : Nat) (v : Int32) (ls : tm_Lo) (h : tm_H) (K : Option Value → tm_H → Prop) : tm_A d 77 22 ls [.int v] h K ↔ (v = 0 ∨ v = 1) ∧ K (some (.int v)) h := tm_retz o77_22 rfl
theorem o77_23 : tm_op 77 23 = some (.aload_n 0, (0, 0, 0, 0)) := rfl
theorem r77_23 (d : Nat) (v : Nat) (l1 : Option Value) (st : List Value) (h : tm_H) (K : Option Value → tm_H → Prop) : tm_A d 77 23 [some (.ref v), l1] st h K ↔ tm_A d 77 24 [some (.ref v), l1] (.ref v :: st) h K := tm_s o77_23 rfl rfl rfl
theorem o77_24 : tm_op 77 24 = some (.dup, (0, 0, 0, 0)) := rfl
theorem r77_24 (d : Nat) (v : Nat) (ls : tm_Lo) (st : List Value) (h : tm_H) (K : Option Value → tm_H → Prop) : tm_A d 77 24 ls (.ref v :: st) h K ↔ tm_A d 77 25 ls (.ref v :: .ref v :: st) h K := tm_s o77_24 rfl rfl rfl
theorem r77_24i (d : Nat) (v : Int32) (ls : tm_Lo) (st : List Value) (h : tm_H) (K : Option Value → tm_H → Prop) : tm_A d 77 24 ls (.int v :: st) h K ↔ tm_A d 77 25 ls (.int v :: .int v :: st) h K := tm_s o77_24 rfl rfl rfl
theorem o77_25 : tm_op 77 25 = some (.getfield 19, (0, 7, 2, 0)) := rfl
theorem r77_25 (d : Nat) (a : Nat) (ls : tm_Lo) (st : List Value) (G : tm_G) (I : Nat → Nat → Int32) (J : Nat → Nat → Int64) (R : Nat → Nat → Option Nat) (K : Option Value → tm_H → Prop) : tm_A d 77 25 ls (.ref a :: st) (G, I, J, R) K ↔ G.2.2 a = (0, 7) ∧ tm_A d 77 28 ls (.int (I a 2) :: st) (G, I, J, R) K := tm_getI o77_25
theorem o77_28 : tm_op 77 28 = some (.iconst 1, (0, 0, 0, 0)) := rfl
theorem r77_28 (d : Nat) (ls : tm_Lo) (st : List Value) (h : tm_H) (K : Option Value → tm_H → Prop) : tm_A d 77 28 ls st h K ↔ tm_A d 77 29 ls (.int (1 : Int32) :: st) h K := tm_ic o77_28 (by decide)
theorem o77_29 : tm_op 77 29 = some (.iadd, (0, 0, 0, 0)) := rfl
theorem r77_29 (d : Nat) (u v : Int32) (ls : tm_Lo) (st : List Value) (h : tm_H) (K : Option Value → tm_H → Prop) : tm_A d 77 29 ls (.int u :: .int v :: st) h K ↔ tm_A d 77 30 ls (.int (v + u) :: st) h K := tm_s o77_29 rfl rfl rfl
theorem o77_30 : tm_op 77 30 = some (.putfield 19, (0, 7, 2, 0)) := rfl
theorem r77_30 (d : Nat) (v : Int32) (a : Nat) (ls : tm_Lo) (st : List Value) (G : tm_G) (I : Nat → Nat → Int32) (J : Nat → Nat → Int64) (R : Nat → Nat → Option Nat) (K : Option Value → tm_H → Prop) : tm_A d 77 30 ls (.int v :: .ref a :: st) (G, I, J, R) K ↔ G.2.2 a = (0, 7) ∧ tm_A d 77 33 ls st (G, up2 I a 2 v, J, R) K := tm_putI o77_30
theorem o77_33 : tm_op 77 33 = some (.iload_n 1, (0, 0, 0, 0)) := rfl
theorem r77_33 (d : Nat) (v : Int32) (l0 : Option Value) (st : List Value) (h : tm_H) (K : Option Value → tm_H → Prop) : tm_A d 77 33 [l0, some (.int v)] st h K ↔ tm_A d 77 34 [l0, some (.int v)] (.int v :: st) h K := tm_s o77_33 rfl rfl rfl
theorem o77_34 : tm_op 77 34 = some (.iconst 3, (0, 0, 0, 0)) := rfl
theorem r77_34 (d : Nat) (ls : tm_Lo) (st : List Value) (h : tm_H) (K : Option Value → tm_H → Prop) : tm_A d 77 34 ls st h K ↔ tm_A d 77 35 ls (.int (3 : Int32) :: st) h K := tm_ic o77_34 (by decide)
theorem o77_35 : tm_op 77 35 = some (.if_icmp .ne 8, (0, 0, 0, 0)) := rfl
theorem r77_35 (d : Nat) (y x : Int32) (ls : tm_Lo) (st : List Value) (h : tm_H) (K : Option Value → tm_H → Prop) : tm_A d 77 35 ls (.int y :: .int x :: st) h K ↔ if ¬ x = y then tm_A d 77 43 ls st h K else tm_A d 77 38 ls st h K := tm_b o77_35 rfl rfl rfl rfl
theorem o77_38 : tm_op 77 38 = some (.aload_n 0, (0, 0, 0, 0)) := rfl
theorem r77_38 (d : Nat) (v : Nat) (l1 : Option Value) (st : List Value) (h : tm_H) (K : Option Value → tm_H → Prop) : tm_A d 77 38 [some (.ref v), l1] st h K ↔ tm_A d 77 39 [some (.ref v), l1] (.ref v :: st) h K := tm_s o77_38 rfl rfl rfl
theorem o77_39 : tm_op 77 39 = some (.invokevirtual 57, (2, 82, 1, 7)) := rfl
theorem r77_39 (d : Nat) (a : Nat) (ls : tm_Lo) (st : List Value) (h : tm_H) (K : Option Value → tm_H → Prop) : tm_A (d + 1) 77 39 ls (.ref a :: st) h K ↔ (h.1.2.2 a = (0, 7) ∧ tm_cs st) ∧ tm_R d 82 [.ref a] h (fun r h' => tm_A (d + 1) 77 42 ls (r.toList ++ st) h' K) := tm_callV (as := []) o77_39 rfl rfl rfl rfl
theorem o77_42 : tm_op 77 42 = some (.ireturn, (0, 0, 0, 0)) := rfl
theorem r77_42 (d : Nat) (v : Int32) (ls : tm_Lo) (h : tm_H) (K : Option Value → tm_H → Prop) : tm_A d 77 42 ls [.int v] h K ↔ (v = 0 ∨ v = 1) ∧ K (some (.int v)) h := tm_retz o77_42 rfl
theorem o77_43 : tm_op 77 43 = some (.iload_n 1, (0, 0, 0, 0)) := rfl
theorem r77_43 (d : Nat) (v : Int32) (l0 : Option Value) (st : List Value) (h : tm_H) (K : Option Value → tm_H → Prop) : tm_A d 77 43 [l0, some (.int v)] st h K ↔ tm_A d 77 44 [l0, some (.int v)] (.int v :: st) h K := tm_s o77_43 rfl rfl rfl
theorem o77_44 : tm_op 77 44 = some (.iconst 2, (0, 0, 0, 0)) := rfl
theorem r77_44 (d : Nat) (ls : tm_Lo) (st : List Value) (h : tm_H) (K : Option Value → tm_H → Prop) : tm_A d 77 44 ls st h K ↔ tm_A d 77 45 ls (.int (2 : Int32) :: st) h K := tm_ic o77_44 (by decide)
theorem o77_45 : tm_op 77 45 = some (.if_icmp .ne 10, (0, 0, 0, 0)) := rfl
theorem r77_45 (d : Nat) (y x : Int32) (ls : tm_Lo) (st : List Value) (h : tm_H) (K : Option Value → tm_H → Prop) : tm_A d 77 45 ls (.int y :: .int x :: st) h K ↔ if ¬ x = y then tm_A d 77 55 ls st h K else tm_A d 77 48 ls st h K := tm_b o77_45 rfl rfl rfl rfl
theorem o77_48 : tm_op 77 48 = some (.aload_n 0, (0, 0, 0, 0)) := rfl
theorem r77_48 (d : Nat) (v : Nat) (l1 : Option Value) (st : List Value) (h : tm_H) (K : Option Value → tm_H → Prop) : tm_A d 77 48 [some (.ref v), l1] st h K ↔ tm_A d 77 49 [some (.ref v), l1] (.ref v :: st) h K := tm_s o77_48 rfl rfl rfl
theorem o77_49 : tm_op 77 49 = some (.invokevirtual 60, (2, 80, 1, 7)) := rfl
theorem r77_49 (d : Nat) (a : Nat) (ls : tm_Lo) (st : List Value) (h : tm_H) (K : Option Value → tm_H → Prop) : tm_A (d + 1) 77 49 ls (.ref a :: st) h K ↔ (h.1.2.2 a = (0, 7) ∧ tm_cs st) ∧ tm_R d 80 [.ref a] h (fun r h' => tm_A (d + 1) 77 52 ls (r.toList ++ st) h' K) := tm_callV (as := []) o77_49 rfl rfl rfl rfl
theorem o77_52 : tm_op 77 52 = some (.goto 8, (0, 0, 0, 0)) := rfl
theorem r77_52 (d : Nat) (ls : tm_Lo) (st : List Value) (h : tm_H) (K : Option Value → tm_H → Prop) : tm_A d 77 52 ls st h K ↔ tm_A d 77 60 ls st h K := tm_s o77_52 rfl rfl rfl
theorem o77_55 : tm_op 77 55 = some (.aload_n 0, (0, 0, 0, 0)) := rfl
theorem r77_55 (d : Nat) (v : Nat) (l1 : Option Value) (st : List Value) (h : tm_H) (K : Option Value → tm_H → Prop) : tm_A d 77 55 [some (.ref v), l1] st h K ↔ tm_A d 77 56 [some (.ref v), l1] (.ref v :: st) h K := tm_s o77_55 rfl rfl rfl
theorem o77_56 : tm_op 77 56 = some (.iload_n 1, (0, 0, 0, 0)) := rfl
theorem r77_56 (d : Nat) (v : Int32) (l0 : Option Value) (st : List Value) (h : tm_H) (K : Option Value → tm_H → Prop) : tm_A d 77 56 [l0, some (.int v)] st h K ↔ tm_A d 77 57 [l0, some (.int v)] (.int v :: st) h K := tm_s o77_56 rfl rfl rfl
theorem o77_57 : tm_op 77 57 = some (.invokevirtual 63, (2, 79, 2, 7)) := rfl
theorem r77_57 (d : Nat) (v1 : Int32) (a : Nat) (ls : tm_Lo) (st : List Value) (h : tm_H) (K : Option Value → tm_H → Prop) : tm_A (d + 1) 77 57 ls (.int v1 :: .ref a :: st) h K ↔ (h.1.2.2 a = (0, 7) ∧ tm_cs st) ∧ tm_R d 79 [.ref a, .int v1] h (fun r h' => tm_A (d + 1) 77 60 ls (r.toList ++ st) h' K) := tm_callV (as := [.int v1]) o77_57 rfl rfl rfl rfl
theorem o77_60 : tm_op 77 60 = some (.ireturn, (0, 0, 0, 0)) := rfl
theorem r77_60 (d : Nat) (v : Int32) (ls : tm_Lo) (h : tm_H) (K : Option Value → tm_H → Prop) : tm_A d 77 60 ls [.int v] h K ↔ (v = 0 ∨ v = 1) ∧ K (some (.int v)) h := tm_retz o77_60 rfl
theorem o78_0 : tm_op 78 0 = some (.iconst 0, (0, 0, 0, 0)) := rfl
theorem r78_0 (d : Nat) (ls : tm_Lo) (st : List Value) (h : tm_H) (K : Option Value → tm_H → Prop) : tm_A d 78 0 ls st h K ↔ tm_A d 78 1 ls (.int (0 : Int32) :: st) h K := tm_ic o78_0 (by decide)
theorem o78_1 : tm_op 78 1 = some (.istore_n 1, (0, 0, 0, 0)) := rfl
theorem r78_1 (d : Nat) (v : Int32) (l0 l1 : Option Value) (st : List Value) (h : tm_H) (K : Option Value → tm_H → Prop) : tm_A d 78 1 [l0, l1] (.int v :: st) h K ↔ tm_A d 78 2 [l0, some (.int v)] st h K := tm_s o78_1 rfl rfl rfl
theorem o78_2 : tm_op 78 2 = some (.iload_n 1, (0, 0, 0, 0)) := rfl
theorem r78_2 (d : Nat) (v : Int32) (l0 : Option Value) (st : List Value) (h : tm_H) (K : Option Value → tm_H → Prop) : tm_A d 78 2 [l0, some (.int v)] st h K ↔ tm_A d 78 3 [l0, some (.int v)] (.int v :: st) h K := tm_s o78_2 rfl rfl rfl
theorem o78_3 : tm_op 78 3 = some (.iconst 5, (0, 0, 0, 0)) := rfl
theorem r78_3 (d : Nat) (ls : tm_Lo) (st : List Value) (h : tm_H) (K : Option Value → tm_H → Prop) : tm_A d 78 3 ls st h K ↔ tm_A d 78 4 ls (.int (5 : Int32) :: st) h K := tm_ic o78_3 (by decide)
theorem o78_4 : tm_op 78 4 = some (.if_icmp .ge 23, (0, 0, 0, 0)) := rfl
theorem r78_4 (d : Nat) (y x : Int32) (ls : tm_Lo) (st : List Value) (h : tm_H) (K : Option Value → tm_H → Prop) : tm_A d 78 4 ls (.int y :: .int x :: st) h K ↔ if y ≤ x then tm_A d 78 27 ls st h K else tm_A d 78 7 ls st h K := tm_b o78_4 rfl rfl rfl rfl
theorem o78_7 : tm_op 78 7 = some (.aload_n 0, (0, 0, 0, 0)) := rfl
theorem r78_7 (d : Nat) (v : Nat) (l1 : Option Value) (st : List Value) (h : tm_H) (K : Option Value → tm_H → Prop) : tm_A d 78 7 [some (.ref v), l1] st h K ↔ tm_A d 78 8 [some (.ref v), l1] (.ref v :: st) h K := tm_s o78_7 rfl rfl rfl
theorem o78_8 : tm_op 78 8 = some (.invokevirtual 43, (2, 75, 1, 7)) := rfl
theorem r78_8 (d : Nat) (a : Nat) (ls : tm_Lo) (st : List Value) (h : tm_H) (K : Option Value → tm_H → Prop) : tm_A (d + 1) 78 8 ls (.ref a :: st) h K ↔ (h.1.2.2 a = (0, 7) ∧ tm_cs st) ∧ tm_R d 75 [.ref a] h (fun r h' => tm_A (d + 1) 78 11 ls (r.toList ++ st) h' K) := tm_callV (as := []) o78_8 rfl rfl rfl rfl
theorem o78_11 : tm_op 78 11 = some (.getstatic 66, (1, 0, 0, 0)) := rfl
theorem r78_11 (d : Nat) (ls : tm_Lo) (st : List Value) (h : tm_H) (K : Option Value → tm_H → Prop) : tm_A d 78 11 ls st h K ↔ tm_A d 78 14 ls (.ref 1 :: st) h K := tm_s o78_11 rfl rfl rfl
theorem o78_14 : tm_op 78 14 = some (.iload_n 1, (0, 0, 0, 0)) := rfl
theorem r78_14 (d : Nat) (v : Int32) (l0 : Option Value) (st : List Value) (h : tm_H) (K : Option Value → tm_H → Prop) : tm_A d 78 14 [l0, some (.int v)] st h K ↔ tm_A d 78 15 [l0, some (.int v)] (.int v :: st) h K := tm_s o78_14 rfl rfl rfl
theorem o78_15 : tm_op 78 15 = some (.caload, (0, 0, 0, 0)) := rfl
theorem r78_15 (d : Nat) (v : Int32) (a : Nat) (ls : tm_Lo) (st : List Value) (G : tm_G) (I : Nat → Nat → Int32) (J : Nat → Nat → Int64) (R : Nat → Nat → Option Nat) (K : Option Value → tm_H → Prop) : tm_A d 78 15 ls (.int v :: .ref a :: st) (G, I, J, R) K ↔ ((G.2.2 a).1 = 6 ∧ tm_in v (G.2.2 a).2) ∧ tm_A d 78 16 ls (.int (I a (tm_ix v)) :: st) (G, I, J, R) K := tm_cald o78_15
theorem o78_16 : tm_op 78 16 = some (.if_icmp .ne 5, (0, 0, 0, 0)) := rfl
theorem r78_16 (d : Nat) (y x : Int32) (ls : tm_Lo) (st : List Value) (h : tm_H) (K : Option Value → tm_H → Prop) : tm_A d 78 16 ls (.int y :: .int x :: st) h K ↔ if ¬ x = y then tm_A d 78 21 ls st h K else tm_A d 78 19 ls st h K := tm_b o78_16 rfl rfl rfl rfl
theorem o78_19 : tm_op 78 19 = some (.iload_n 1, (0, 0, 0, 0)) := rfl
theorem r78_19 (d : Nat) (v : Int32) (l0 : Option Value) (st : List Value) (h : tm_H) (K : Option Value → tm_H → Prop) : tm_A d 78 19 [l0, some (.int v)] st h K ↔ tm_A d 78 20 [l0, some (.int v)] (.int v :: st) h K := tm_s o78_19 rfl rfl rfl
theorem o78_20 : tm_op 78 20 = some (.ireturn, (0, 0, 0, 0)) := rfl
theorem r78_20 (d : Nat) (v : Int32) (ls : tm_Lo) (h : tm_H) (K : Option Value → tm_H → Prop) : tm_A d 78 20 ls [.int v] h K ↔ K (some (.int v)) h := tm_reti o78_20 rfl
theorem o78_21 : tm_op 78 21 = some (.iinc 1 1, (0, 0, 0, 0)) := rfl
theorem r78_21 (d : Nat) (v : Int32) (l0 : Option Value) (st : List Value) (h : tm_H) (K : Option Value → tm_H → Prop) : tm_A d 78 21 [l0, some (.int v)] st h K ↔ tm_A d 78 24 [l0, some (.int (v + (1 : Int32)))] st h K := tm_s o78_21 rfl rfl rfl
theorem o78_24 : tm_op 78 24 = some (.goto (-22), (0, 0, 0, 0)) := rfl
theorem r78_24 (d : Nat) (ls : tm_Lo) (st : List Value) (h : tm_H) (K : Option Value → tm_H → Prop) : tm_A d 78 24 ls st h K ↔ tm_A d 78 2 ls st h K := tm_s o78_24 rfl rfl rfl
theorem o78_27 : tm_op 78 27 = some (.iconst (-1), (0, 0, 0, 0)) := rfl
theorem r78_27 (d : Nat) (ls : tm_Lo) (st : List Value) (h : tm_H) (K : Option Value → tm_H → Prop) : tm_A d 78 27 ls st h K ↔ tm_A d 78 28 ls (.int (-1 : Int32) :: st) h K := tm_ic o78_27 (by decide)
theorem o78_28 : tm_op 78 28 = some (.ireturn, (0, 0, 0, 0)) := rfl
theorem r78_28 (d : Nat) (v : Int32) (ls : tm_Lo) (h : tm_H) (K : Option Value → tm_H → Prop) : tm_A d 78 28 ls [.int v] h K ↔ K (some (.int v)) h := tm_reti o78_28 rfl
theorem o79_0 : tm_op 79 0 = some (.aload_n 0, (0, 0, 0, 0)) := rfl
theorem r79_0 (d : Nat) (v : Nat) (l1 l2 : Option Value) (st : List Value) (h : tm_H) (K : Option Value → tm_H → Prop) : tm_A d 79 0 [some (.ref v), l1, l2] st h K ↔ tm_A d 79 1 [some (.ref v), l1, l2] (.ref v :: st) h K := tm_s o79_0 rfl rfl rfl
theorem o79_1 : tm_op 79 1 = some (.invokevirtual 70, (2, 81, 1, 7)) := rfl
theorem r79_1 (d : Nat) (a : Nat) (ls : tm_Lo) (st : List Value) (h : tm_H) (K : Option Value → tm_H → Prop) : tm_A (d + 1) 79 1 ls (.ref a :: st) h K ↔ (h.1.2.2 a = (0, 7) ∧ tm_cs st) ∧ tm_R d 81 [.ref a] h (fun r h' => tm_A (d + 1) 79 4 ls (r.toList ++ st) h' K) := tm_callV (as := []) o79_1 rfl rfl rfl rfl
theorem o79_4 : tm_op 79 4 = some (.istore_n 2, (0, 0, 0, 0)) := rfl
theorem r79_4 (d : Nat) (v : Int32) (l0 l1 l2 : Option Value) (st : List Value) (h : tm_H) (K : Option Value → tm_H → Prop) : tm_A d 79 4 [l0, l1, l2] (.int v :: st) h K ↔ tm_A d 79 5 [l0, l1, some (.int v)] st h K := tm_s o79_4 rfl rfl rfl
theorem o79_5 : tm_op 79 5 = some (.iload_n 2, (0, 0, 0, 0)) := rfl
theorem r79_5 (d : Nat) (v : Int32) (l0 l1 : Option Value) (st : List Value) (h : tm_H) (K : Option Value → tm_H → Prop) : tm_A d 79 5 [l0, l1, some (.int v)] st h K ↔ tm_A d 79 6 [l0, l1, some (.int v)] (.int v :: st) h K := tm_s o79_5 rfl rfl rfl
theorem o79_6 : tm_op 79 6 = some (.iconst (-1), (0, 0, 0, 0)) := rfl
theorem r79_6 (d : Nat) (ls : tm_Lo) (st : List Value) (h : tm_H) (K : Option Value → tm_H → Prop) : tm_A d 79 6 ls st h K ↔ tm_A d 79 7 ls (.int (-1 : Int32) :: st) h K := tm_ic o79_6 (by decide)
theorem o79_7 : tm_op 79 7 = some (.if_icmp .eq 12, (0, 0, 0, 0)) := rfl
theorem r79_7 (d : Nat) (y x : Int32) (ls : tm_Lo) (st : List Value) (h : tm_H) (K : Option Value → tm_H → Prop) : tm_A d 79 7 ls (.int y :: .int x :: st) h K ↔ if x = y then tm_A d 79 19 ls st h K else tm_A d 79 10 ls st h K := tm_b o79_7 rfl rfl rfl rfl
theorem o79_10 : tm_op 79 10 = some (.iload_n 2, (0, 0, 0, 0)) := rfl
theorem r79_10 (d : Nat) (v : Int32) (l0 l1 : Option Value) (st : List Value) (h : tm_H) (K : Option Value → tm_H → Prop) : tm_A d 79 10 [l0, l1, some (.int v)] st h K ↔ tm_A d 79 11 [l0, l1, some (.int v)] (.int v :: st) h K := tm_s o79_10 rfl rfl rfl
theorem o79_11 : tm_op 79 11 = some (.getstatic 73, (2, 0, 0, 0)) := rfl
theorem r79_11 (d : Nat) (ls : tm_Lo) (st : List Value) (h : tm_H) (K : Option Value → tm_H → Prop) : tm_A d 79 11 ls st h K ↔ tm_A d 79 14 ls (.ref 2 :: st) h K := tm_s o79_11 rfl rfl rfl
theorem o79_14 : tm_op 79 14 = some (.iload_n 1, (0, 0, 0, 0)) := rfl
theorem r79_14 (d : Nat) (v : Int32) (l0 l2 : Option Value) (st : List Value) (h : tm_H) (K : Option Value → tm_H → Prop) : tm_A d 79 14 [l0, some (.int v), l2] st h K ↔ tm_A d 79 15 [l0, some (.int v), l2] (.int v :: st) h K := tm_s o79_14 rfl rfl rfl
theorem o79_15 : tm_op 79 15 = some (.iaload, (0, 0, 0, 0)) := rfl
theorem r79_15 (d : Nat) (v : Int32) (a : Nat) (ls : tm_Lo) (st : List Value) (G : tm_G) (I : Nat → Nat → Int32) (J : Nat → Nat → Int64) (R : Nat → Nat → Option Nat) (K : Option Value → tm_H → Prop) : tm_A d 79 15 ls (.int v :: .ref a :: st) (G, I, J, R) K ↔ ((G.2.2 a).1 = 1 ∧ tm_in v (G.2.2 a).2) ∧ tm_A d 79 16 ls (.int (I a (tm_ix v)) :: st) (G, I, J, R) K := tm_iald o79_15
theorem o79_16 : tm_op 79 16 = some (.if_icmp .le 5, (0, 0, 0, 0)) := rfl
theorem r79_16 (d : Nat) (y x : Int32) (ls : tm_Lo) (st : List Value) (h : tm_H) (K : Option Value → tm_H → Prop) : tm_A d 79 16 ls (.int y :: .int x :: st) h K ↔ if x ≤ y then tm_A d 79 21 ls st h K else tm_A d 79 19 ls st h K := tm_b o79_16 rfl rfl rfl rfl
theorem o79_19 : tm_op 79 19 = some (.iconst 0, (0, 0, 0, 0)) := rfl
theorem r79_19 (d : Nat) (ls : tm_Lo) (st : List Value) (h : tm_H) (K : Option Value → tm_H → Prop) : tm_A d 79 19 ls st h K ↔ tm_A d 79 20 ls (.int (0 : Int32) :: st) h K := tm_ic o79_19 (by decide)
theorem o79_20 : tm_op 79 20 = some (.ireturn, (0, 0, 0, 0)) := rfl
theorem r79_20 (d : Nat) (v : Int32) (ls : tm_Lo) (h : tm_H) (K : Option Value → tm_H → Prop) : tm_A d 79 20 ls [.int v] h K ↔ (v = 0 ∨ v = 1) ∧ K (some (.int v)) h := tm_retz o79_20 rfl
theorem o79_21 : tm_op 79 21 = some (.aload_n 0, (0, 0, 0, 0)) := rfl
theorem r79_21 (d : Nat) (v : Nat) (l1 l2 : Option Value) (st : List Value) (h : tm_H) (K : Option Value → tm_H → Prop) : tm_A d 79 21 [some (.ref v), l1, l2] st h K ↔ tm_A d 79 22 [some (.ref v), l1, l2] (.ref v :: st) h K := tm_s o79_21 rfl rfl rfl
theorem o79_22 : tm_op 79 22 = some (.getfield 25, (2, 7, 3, 0)) := rfl
theorem r79_22 (d : Nat) (a : Nat) (ls : tm_Lo) (st : List Value) (G : tm_G) (I : Nat → Nat → Int32) (J : Nat → Nat → Int64) (R : Nat → Nat → Option Nat) (K : Option Value → tm_H → Prop) : tm_A d 79 22 ls (.ref a :: st) (G, I, J, R) K ↔ G.2.2 a = (0, 7) ∧ tm_A d 79 25 ls (tm_rf (R a 3) :: st) (G, I, J, R) K := tm_getR o79_22
theorem o79_25 : tm_op 79 25 = some (.iload_n 1, (0, 0, 0, 0)) := rfl
theorem r79_25 (d : Nat) (v : Int32) (l0 l2 : Option Value) (st : List Value) (h : tm_H) (K : Option Value → tm_H → Prop) : tm_A d 79 25 [l0, some (.int v), l2] st h K ↔ tm_A d 79 26 [l0, some (.int v), l2] (.int v :: st) h K := tm_s o79_25 rfl rfl rfl
theorem o79_26 : tm_op 79 26 = some (.iload_n 2, (0, 0, 0, 0)) := rfl
theorem r79_26 (d : Nat) (v : Int32) (l0 l1 : Option Value) (st : List Value) (h : tm_H) (K : Option Value → tm_H → Prop) : tm_A d 79 26 [l0, l1, some (.int v)] st h K ↔ tm_A d 79 27 [l0, l1, some (.int v)] (.int v :: st) h K := tm_s o79_26 rfl rfl rfl
theorem o79_27 : tm_op 79 27 = some (.invokevirtual 76, (2, 9, 3, 0)) := rfl
theorem r79_27 (d : Nat) (v1 : Int32) (v2 : Int32) (a : Nat) (ls : tm_Lo) (st : List Value) (h : tm_H) (K : Option Value → tm_H → Prop) : tm_A (d + 1) 79 27 ls (.int v2 :: .int v1 :: .ref a :: st) h K ↔ (h.1.2.2 a = (0, 0) ∧ tm_cs st) ∧ tm_R d 9 [.ref a, .int v1, .int v2] h (fun r h' => tm_A (d + 1) 79 30 ls (r.toList ++ st) h' K) := tm_callV (as := [.int v1, .int v2]) o79_27 rfl rfl rfl rfl
theorem o79_30 : tm_op 79 30 = some (.iconst 1, (0, 0, 0, 0)) := rfl
theorem r79_30 (d : Nat) (ls : tm_Lo) (st : List Value) (h : tm_H) (K : Option Value → tm_H → Prop) : tm_A d 79 30 ls st h K ↔ tm_A d 79 31 ls (.int (1 : Int32) :: st) h K := tm_ic o79_30 (by decide)
theorem o79_31 : tm_op 79 31 = some (.ireturn, (0, 0, 0, 0)) := rfl
theorem r79_31 (d : Nat) (v : Int32) (ls : tm_Lo) (h : tm_H) (K : Option Value → tm_H → Prop) : tm_A d 79 31 ls [.int v] h K ↔ (v = 0 ∨ v = 1) ∧ K (some (.int v)) h := tm_retz o79_31 rfl
theorem o80_0 : tm_op 80 0 = some (.aload_n 0, (0, 0, 0, 0)) := rfl
theorem r80_0 (d : Nat) (v : Nat) (l1 l2 : Option Value) (st : List Value) (h : tm_H) (K : Option Value → tm_H → Prop) : tm_A d 80 0 [some (.ref v), l1, l2] st h K ↔ tm_A d 80 1 [some (.ref v), l1, l2] (.ref v :: st) h K := tm_s o80_0 rfl rfl rfl
theorem o80_1 : tm_op 80 1 = some (.invokevirtual 70, (2, 81, 1, 7)) := rfl
theorem r80_1 (d : Nat) (a : Nat) (ls : tm_Lo) (st : List Value) (h : tm_H) (K : Option Value → tm_H → Prop) : tm_A (d + 1) 80 1 ls (.ref a :: st) h K ↔ (h.1.2.2 a = (0, 7) ∧ tm_cs st) ∧ tm_R d 81 [.ref a] h (fun r h' => tm_A (d + 1) 80 4 ls (r.toList ++ st) h' K) := tm_callV (as := []) o80_1 rfl rfl rfl rfl
theorem o80_4 : tm_op 80 4 = some (.istore_n 1, (0, 0, 0, 0)) := rfl
theorem r80_4 (d : Nat) (v : Int32) (l0 l1 l2 : Option Value) (st : List Value) (h : tm_H) (K : Option Value → tm_H → Prop) : tm_A d 80 4 [l0, l1, l2] (.int v :: st) h K ↔ tm_A d 80 5 [l0, some (.int v), l2] st h K := tm_s o80_4 rfl rfl rfl
theorem o80_5 : tm_op 80 5 = some (.iload_n 1, (0, 0, 0, 0)) := rfl
theorem r80_5 (d : Nat) (v : Int32) (l0 l2 : Option Value) (st : List Value) (h : tm_H) (K : Option Value → tm_H → Prop) : tm_A d 80 5 [l0, some (.int v), l2] st h K ↔ tm_A d 80 6 [l0, some (.int v), l2] (.int v :: st) h K := tm_s o80_5 rfl rfl rfl
theorem o80_6 : tm_op 80 6 = some (.istore_n 2, (0, 0, 0, 0)) := rfl
theorem r80_6 (d : Nat) (v : Int32) (l0 l1 l2 : Option Value) (st : List Value) (h : tm_H) (K : Option Value → tm_H → Prop) : tm_A d 80 6 [l0, l1, l2] (.int v :: st) h K ↔ tm_A d 80 7 [l0, l1, some (.int v)] st h K := tm_s o80_6 rfl rfl rfl
theorem o80_7 : tm_op 80 7 = some (.iload_n 1, (0, 0, 0, 0)) := rfl
theorem r80_7 (d : Nat) (v : Int32) (l0 l2 : Option Value) (st : List Value) (h : tm_H) (K : Option Value → tm_H → Prop) : tm_A d 80 7 [l0, some (.int v), l2] st h K ↔ tm_A d 80 8 [l0, some (.int v), l2] (.int v :: st) h K := tm_s o80_7 rfl rfl rfl
theorem o80_8 : tm_op 80 8 = some (.iconst (-1), (0, 0, 0, 0)) := rfl
theorem r80_8 (d : Nat) (ls : tm_Lo) (st : List Value) (h : tm_H) (K : Option Value → tm_H → Prop) : tm_A d 80 8 ls st h K ↔ tm_A d 80 9 ls (.int (-1 : Int32) :: st) h K := tm_ic o80_8 (by decide)
theorem o80_9 : tm_op 80 9 = some (.if_icmp .eq 27, (0, 0, 0, 0)) := rfl
theorem r80_9 (d : Nat) (y x : Int32) (ls : tm_Lo) (st : List Value) (h : tm_H) (K : Option Value → tm_H → Prop) : tm_A d 80 9 ls (.int y :: .int x :: st) h K ↔ if x = y then tm_A d 80 36 ls st h K else tm_A d 80 12 ls st h K := tm_b o80_9 rfl rfl rfl rfl
theorem o80_12 : tm_op 80 12 = some (.aload_n 0, (0, 0, 0, 0)) := rfl
theorem r80_12 (d : Nat) (v : Nat) (l1 l2 : Option Value) (st : List Value) (h : tm_H) (K : Option Value → tm_H → Prop) : tm_A d 80 12 [some (.ref v), l1, l2] st h K ↔ tm_A d 80 13 [some (.ref v), l1, l2] (.ref v :: st) h K := tm_s o80_12 rfl rfl rfl
theorem o80_13 : tm_op 80 13 = some (.invokevirtual 43, (2, 75, 1, 7)) := rfl
theorem r80_13 (d : Nat) (a : Nat) (ls : tm_Lo) (st : List Value) (h : tm_H) (K : Option Value → tm_H → Prop) : tm_A (d + 1) 80 13 ls (.ref a :: st) h K ↔ (h.1.2.2 a = (0, 7) ∧ tm_cs st) ∧ tm_R d 75 [.ref a] h (fun r h' => tm_A (d + 1) 80 16 ls (r.toList ++ st) h' K) := tm_callV (as := []) o80_13 rfl rfl rfl rfl
theorem o80_16 : tm_op 80 16 = some (.bipush 45, (0, 0, 0, 0)) := rfl
theorem r80_16 (d : Nat) (ls : tm_Lo) (st : List Value) (h : tm_H) (K : Option Value → tm_H → Prop) : tm_A d 80 16 ls st h K ↔ tm_A d 80 18 ls (.int (45 : Int32) :: st) h K := tm_bp o80_16 (by decide)
theorem o80_18 : tm_op 80 18 = some (.if_icmp .ne 18, (0, 0, 0, 0)) := rfl
theorem r80_18 (d : Nat) (y x : Int32) (ls : tm_Lo) (st : List Value) (h : tm_H) (K : Option Value → tm_H → Prop) : tm_A d 80 18 ls (.int y :: .int x :: st) h K ↔ if ¬ x = y then tm_A d 80 36 ls st h K else tm_A d 80 21 ls st h K := tm_b o80_18 rfl rfl rfl rfl
theorem o80_21 : tm_op 80 21 = some (.aload_n 0, (0, 0, 0, 0)) := rfl
theorem r80_21 (d : Nat) (v : Nat) (l1 l2 : Option Value) (st : List Value) (h : tm_H) (K : Option Value → tm_H → Prop) : tm_A d 80 21 [some (.ref v), l1, l2] st h K ↔ tm_A d 80 22 [some (.ref v), l1, l2] (.ref v :: st) h K := tm_s o80_21 rfl rfl rfl
theorem o80_22 : tm_op 80 22 = some (.dup, (0, 0, 0, 0)) := rfl
theorem r80_22 (d : Nat) (v : Nat) (ls : tm_Lo) (st : List Value) (h : tm_H) (K : Option Value → tm_H → Prop) : tm_A d 80 22 ls (.ref v :: st) h K ↔ tm_A d 80 23 ls (.ref v :: .ref v :: st) h K := tm_s o80_22 rfl rfl rfl
theorem r80_22i (d : Nat) (v : Int32) (ls : tm_Lo) (st : List Value) (h : tm_H) (K : Option Value → tm_H → Prop) : tm_A d 80 22 ls (.int v :: st) h K ↔ tm_A d 80 23 ls (.int v :: .int v :: st) h K := tm_s o80_22 rfl rfl rfl
theorem o80_23 : tm_op 80 23 = some (.getfield 19, (0, 7, 2, 0)) := rfl
theorem r80_23 (d : Nat) (a : Nat) (ls : tm_Lo) (st : List Value) (G : tm_G) (I : Nat → Nat → Int32) (J : Nat → Nat → Int64) (R : Nat → Nat → Option Nat) (K : Option Value → tm_H → Prop) : tm_A d 80 23 ls (.ref a :: st) (G, I, J, R) K ↔ G.2.2 a = (0, 7) ∧ tm_A d 80 26 ls (.int (I a 2) :: st) (G, I, J, R) K := tm_getI o80_23
theorem o80_26 : tm_op 80 26 = some (.iconst 1, (0, 0, 0, 0)) := rfl
theorem r80_26 (d : Nat) (ls : tm_Lo) (st : List Value) (h : tm_H) (K : Option Value → tm_H → Prop) : tm_A d 80 26 ls st h K ↔ tm_A d 80 27 ls (.int (1 : Int32) :: st) h K := tm_ic o80_26 (by decide)
theorem o80_27 : tm_op 80 27 = some (.iadd, (0, 0, 0, 0)) := rfl
theorem r80_27 (d : Nat) (u v : Int32) (ls : tm_Lo) (st : List Value) (h : tm_H) (K : Option Value → tm_H → Prop) : tm_A d 80 27 ls (.int u :: .int v :: st) h K ↔ tm_A d 80 28 ls (.int (v + u) :: st) h K := tm_s o80_27 rfl rfl rfl
theorem o80_28 : tm_op 80 28 = some (.putfield 19, (0, 7, 2, 0)) := rfl
theorem r80_28 (d : Nat) (v : Int32) (a : Nat) (ls : tm_Lo) (st : List Value) (G : tm_G) (I : Nat → Nat → Int32) (J : Nat → Nat → Int64) (R : Nat → Nat → Option Nat) (K : Option Value → tm_H → Prop) : tm_A d 80 28 ls (.int v :: .ref a :: st) (G, I, J, R) K ↔ G.2.2 a = (0, 7) ∧ tm_A d 80 31 ls st (G, up2 I a 2 v, J, R) K := tm_putI o80_28
theorem o80_31 : tm_op 80 31 = some (.aload_n 0, (0, 0, 0, 0)) := rfl
theorem r80_31 (d : Nat) (v : Nat) (l1 l2 : Option Value) (st : List Value) (h : tm_H) (K : Option Value → tm_H → Prop) : tm_A d 80 31 [some (.ref v), l1, l2] st h K ↔ tm_A d 80 32 [some (.ref v), l1, l2] (.ref v :: st) h K := tm_s o80_31 rfl rfl rfl
theorem o80_32 : tm_op 80 32 = some (.invokevirtual 70, (2, 81, 1, 7)) := rfl
theorem r80_32 (d : Nat) (a : Nat) (ls : tm_Lo) (st : List Value) (h : tm_H) (K : Option Value → tm_H → Prop) : tm_A (d + 1) 80 32 ls (.ref a :: st) h K ↔ (h.1.2.2 a = (0, 7) ∧ tm_cs st) ∧ tm_R d 81 [.ref a] h (fun r h' => tm_A (d + 1) 80 35 ls (r.toList ++ st) h' K) := tm_callV (as := []) o80_32 rfl rfl rfl rfl
theorem o80_35 : tm_op 80 35 = some (.istore_n 2, (0, 0, 0, 0)) := rfl
theorem r80_35 (d : Nat) (v : Int32) (l0 l1 l2 : Option Value) (st : List Value) (h : tm_H) (K : Option Value → tm_H → Prop) : tm_A d 80 35 [l0, l1, l2] (.int v :: st) h K ↔ tm_A d 80 36 [l0, l1, some (.int v)] st h K := tm_s o80_35 rfl rfl rfl
theorem o80_36 : tm_op 80 36 = some (.iload_n 1, (0, 0, 0, 0)) := rfl
theorem r80_36 (d : Nat) (v : Int32) (l0 l2 : Option Value) (st : List Value) (h : tm_H) (K : Option Value → tm_H → Prop) : tm_A d 80 36 [l0, some (.int v), l2] st h K ↔ tm_A d 80 37 [l0, some (.int v), l2] (.int v :: st) h K := tm_s o80_36 rfl rfl rfl
theorem o80_37 : tm_op 80 37 = some (.iconst (-1), (0, 0, 0, 0)) := rfl
theorem r80_37 (d : Nat) (ls : tm_Lo) (st : List Value) (h : tm_H) (K : Option Value → tm_H → Prop) : tm_A d 80 37 ls st h K ↔ tm_A d 80 38 ls (.int (-1 : Int32) :: st) h K := tm_ic o80_37 (by decide)
theorem o80_38 : tm_op 80 38 = some (.if_icmp .eq 17, (0, 0, 0, 0)) := rfl
theorem r80_38 (d : Nat) (y x : Int32) (ls : tm_Lo) (st : List Value) (h : tm_H) (K : Option Value → tm_H → Prop) : tm_A d 80 38 ls (.int y :: .int x :: st) h K ↔ if x = y then tm_A d 80 55 ls st h K else tm_A d 80 41 ls st h K := tm_b o80_38 rfl rfl rfl rfl
theorem o80_41 : tm_op 80 41 = some (.iload_n 2, (0, 0, 0, 0)) := rfl
theorem r80_41 (d : Nat) (v : Int32) (l0 l1 : Option Value) (st : List Value) (h : tm_H) (K : Option Value → tm_H → Prop) : tm_A d 80 41 [l0, l1, some (.int v)] st h K ↔ tm_A d 80 42 [l0, l1, some (.int v)] (.int v :: st) h K := tm_s o80_41 rfl rfl rfl
theorem o80_42 : tm_op 80 42 = some (.iload_n 1, (0, 0, 0, 0)) := rfl
theorem r80_42 (d : Nat) (v : Int32) (l0 l2 : Option Value) (st : List Value) (h : tm_H) (K : Option Value → tm_H → Prop) : tm_A d 80 42 [l0, some (.int v), l2] st h K ↔ tm_A d 80 43 [l0, some (.int v), l2] (.int v :: st) h K := tm_s o80_42 rfl rfl rfl
theorem o80_43 : tm_op 80 43 = some (.if_icmp .lt 12, (0, 0, 0, 0)) := rfl
theorem r80_43 (d : Nat) (y x : Int32) (ls : tm_Lo) (st : List Value) (h : tm_H) (K : Option Value → tm_H → Prop) : tm_A d 80 43 ls (.int y :: .int x :: st) h K ↔ if x < y then tm_A d 80 55 ls st h K else tm_A d 80 46 ls st h K := tm_b o80_43 rfl rfl rfl rfl
theorem o80_46 : tm_op 80 46 = some (.iload_n 2, (0, 0, 0, 0)) := rfl
theorem r80_46 (d : Nat) (v : Int32) (l0 l1 : Option Value) (st : List Value) (h : tm_H) (K : Option Value → tm_H → Prop) : tm_A d 80 46 [l0, l1, some (.int v)] st h K ↔ tm_A d 80 47 [l0, l1, some (.int v)] (.int v :: st) h K := tm_s o80_46 rfl rfl rfl
theorem o80_47 : tm_op 80 47 = some (.getstatic 73, (2, 0, 0, 0)) := rfl
theorem r80_47 (d : Nat) (ls : tm_Lo) (st : List Value) (h : tm_H) (K : Option Value → tm_H → Prop) : tm_A d 80 47 ls st h K ↔ tm_A d 80 50 ls (.ref 2 :: st) h K := tm_s o80_47 rfl rfl rfl
theorem o80_50 : tm_op 80 50 = some (.iconst 2, (0, 0, 0, 0)) := rfl
theorem r80_50 (d : Nat) (ls : tm_Lo) (st : List Value) (h : tm_H) (K : Option Value → tm_H → Prop) : tm_A d 80 50 ls st h K ↔ tm_A d 80 51 ls (.int (2 : Int32) :: st) h K := tm_ic o80_50 (by decide)
theorem o80_51 : tm_op 80 51 = some (.iaload, (0, 0, 0, 0)) := rfl
theorem r80_51 (d : Nat) (v : Int32) (a : Nat) (ls : tm_Lo) (st : List Value) (G : tm_G) (I : Nat → Nat → Int32) (J : Nat → Nat → Int64) (R : Nat → Nat → Option Nat) (K : Option Value → tm_H → Prop) : tm_A d 80 51 ls (.int v :: .ref a :: st) (G, I, J, R) K ↔ ((G.2.2 a).1 = 1 ∧ tm_in v (G.2.2 a).2) ∧ tm_A d 80 52 ls (.int (I a (tm_ix v)) :: st) (G, I, J, R) K := tm_iald o80_51
theorem o80_52 : tm_op 80 52 = some (.if_icmp .le 5, (0, 0, 0, 0)) := rfl
theorem r80_52 (d : Nat) (y x : Int32) (ls : tm_Lo) (st : List Value) (h : tm_H) (K : Option Value → tm_H → Prop) : tm_A d 80 52 ls (.int y :: .int x :: st) h K ↔ if x ≤ y then tm_A d 80 57 ls st h K else tm_A d 80 55 ls st h K := tm_b o80_52 rfl rfl rfl rfl
theorem o80_55 : tm_op 80 55 = some (.iconst 0, (0, 0, 0, 0)) := rfl
theorem r80_55 (d : Nat) (ls : tm_Lo) (st : List Value) (h : tm_H) (K : Option Value → tm_H → Prop) : tm_A d 80 55 ls st h K ↔ tm_A d 80 56 ls (.int (0 : Int32) :: st) h K := tm_ic o80_55 (by decide)
theorem o80_56 : tm_op 80 56 = some (.ireturn, (0, 0, 0, 0)) := rfl
theorem r80_56 (d : Nat) (v : Int32) (ls : tm_Lo) (h : tm_H) (K : Option Value → tm_H → Prop) : tm_A d 80 56 ls [.int v] h K ↔ (v = 0 ∨ v = 1) ∧ K (some (.int v)) h := tm_retz o80_56 rfl
theorem o80_57 : tm_op 80 57 = some (.aload_n 0, (0, 0, 0, 0)) := rfl
theorem r80_57 (d : Nat) (v : Nat) (l1 l2 : Option Value) (st : List Value) (h : tm_H) (K : Option Value → tm_H → Prop) : tm_A d 80 57 [some (.ref v), l1, l2] st h K ↔ tm_A d 80 58 [some (.ref v), l1, l2] (.ref v :: st) h K := tm_s o80_57 rfl rfl rfl
theorem o80_58 : tm_op 80 58 = some (.getfield 25, (2, 7, 3, 0)) := rfl
theorem r80_58 (d : Nat) (a : Nat) (ls : tm_Lo) (st : List Value) (G : tm_G) (I : Nat → Nat → Int32) (J : Nat → Nat → Int64) (R : Nat → Nat → Option Nat) (K : Option Value → tm_H → Prop) : tm_A d 80 58 ls (.ref a :: st) (G, I, J, R) K ↔ G.2.2 a = (0, 7) ∧ tm_A d 80 61 ls (tm_rf (R a 3) :: st) (G, I, J, R) K := tm_getR o80_58
theorem o80_61 : tm_op 80 61 = some (.iload_n 1, (0, 0, 0, 0)) := rfl
theorem r80_61 (d : Nat) (v : Int32) (l0 l2 : Option Value) (st : List Value) (h : tm_H) (K : Option Value → tm_H → Prop) : tm_A d 80 61 [l0, some (.int v), l2] st h K ↔ tm_A d 80 62 [l0, some (.int v), l2] (.int v :: st) h K := tm_s o80_61 rfl rfl rfl
theorem o80_62 : tm_op 80 62 = some (.iload_n 2, (0, 0, 0, 0)) := rfl
theorem r80_62 (d : Nat) (v : Int32) (l0 l1 : Option Value) (st : List Value) (h : tm_H) (K : Option Value → tm_H → Prop) : tm_A d 80 62 [l0, l1, some (.int v)] st h K ↔ tm_A d 80 63 [l0, l1, some (.int v)] (.int v :: st) h K := tm_s o80_62 rfl rfl rfl
theorem o80_63 : tm_op 80 63 = some (.invokevirtual 80, (2, 10, 3, 0)) := rfl
theorem r80_63 (d : Nat) (v1 : Int32) (v2 : Int32) (a : Nat) (ls : tm_Lo) (st : List Value) (h : tm_H) (K : Option Value → tm_H → Prop) : tm_A (d + 1) 80 63 ls (.int v2 :: .int v1 :: .ref a :: st) h K ↔ (h.1.2.2 a = (0, 0) ∧ tm_cs st) ∧ tm_R d 10 [.ref a, .int v1, .int v2] h (fun r h' => tm_A (d + 1) 80 66 ls (r.toList ++ st) h' K) := tm_callV (as := [.int v1, .int v2]) o80_63 rfl rfl rfl rfl
theorem o80_66 : tm_op 80 66 = some (.iconst 1, (0, 0, 0, 0)) := rfl
theorem r80_66 (d : Nat) (ls : tm_Lo) (st : List Value) (h : tm_H) (K : Option Value → tm_H → Prop) : tm_A d 80 66 ls st h K ↔ tm_A d 80 67 ls (.int (1 : Int32) :: st) h K := tm_ic o80_66 (by decide)
theorem o80_67 : tm_op 80 67 = some (.ireturn, (0, 0, 0, 0)) := rfl
theorem r80_67 (d : Nat) (v : Int32) (ls : tm_Lo) (h : tm_H) (K : Option Value → tm_H → Prop) : tm_A d 80 67 ls [.int v] h K ↔ (v = 0 ∨ v = 1) ∧ K (some (.int v)) h := tm_retz o80_67 rfl
theorem o81_0 : tm_op 81 0 = some (.iconst 0, (0, 0, 0, 0)) := rfl
theorem r81_0 (d : Nat) (ls : tm_Lo) (st : List Value) (h : tm_H) (K : Option Value → tm_H → Prop) : tm_A d 81 0 ls st h K ↔ tm_A d 81 1 ls (.int (0 : Int32) :: st) h K := tm_ic o81_0 (by decide)
theorem o81_1 : tm_op 81 1 = some (.istore_n 1, (0, 0, 0, 0)) := rfl
theorem r81_1 (d : Nat) (v : Int32) (l0 l1 l2 l3 : Option Value) (st : List Value) (h : tm_H) (K : Option Value → tm_H → Prop) : tm_A d 81 1 [l0, l1, l2, l3] (.int v :: st) h K ↔ tm_A d 81 2 [l0, some (.int v), l2, l3] st h K := tm_s o81_1 rfl rfl rfl
theorem o81_2 : tm_op 81 2 = some (.iconst 0, (0, 0, 0, 0)) := rfl
theorem r81_2 (d : Nat) (ls : tm_Lo) (st : List Value) (h : tm_H) (K : Option Value → tm_H → Prop) : tm_A d 81 2 ls st h K ↔ tm_A d 81 3 ls (.int (0 : Int32) :: st) h K := tm_ic o81_2 (by decide)
theorem o81_3 : tm_op 81 3 = some (.istore_n 2, (0, 0, 0, 0)) := rfl
theorem r81_3 (d : Nat) (v : Int32) (l0 l1 l2 l3 : Option Value) (st : List Value) (h : tm_H) (K : Option Value → tm_H → Prop) : tm_A d 81 3 [l0, l1, l2, l3] (.int v :: st) h K ↔ tm_A d 81 4 [l0, l1, some (.int v), l3] st h K := tm_s o81_3 rfl rfl rfl
theorem o81_4 : tm_op 81 4 = some (.iconst 0, (0, 0, 0, 0)) := rfl
theorem r81_4 (d : Nat) (ls : tm_Lo) (st : List Value) (h : tm_H) (K : Option Value → tm_H → Prop) : tm_A d 81 4 ls st h K ↔ tm_A d 81 5 ls (.int (0 : Int32) :: st) h K := tm_ic o81_4 (by decide)
theorem o81_5 : tm_op 81 5 = some (.istore_n 3, (0, 0, 0, 0)) := rfl
theorem r81_5 (d : Nat) (v : Int32) (l0 l1 l2 l3 : Option Value) (st : List Value) (h : tm_H) (K : Option Value → tm_H → Prop) : tm_A d 81 5 [l0, l1, l2, l3] (.int v :: st) h K ↔ tm_A d 81 6 [l0, l1, l2, some (.int v)] st h K := tm_s o81_5 rfl rfl rfl
theorem o81_6 : tm_op 81 6 = some (.iload_n 3, (0, 0, 0, 0)) := rfl
theorem r81_6 (d : Nat) (v : Int32) (l0 l1 l2 : Option Value) (st : List Value) (h : tm_H) (K : Option Value → tm_H → Prop) : tm_A d 81 6 [l0, l1, l2, some (.int v)] st h K ↔ tm_A d 81 7 [l0, l1, l2, some (.int v)] (.int v :: st) h K := tm_s o81_6 rfl rfl rfl
theorem o81_7 : tm_op 81 7 = some (.bipush 100, (0, 0, 0, 0)) := rfl
theorem r81_7 (d : Nat) (ls : tm_Lo) (st : List Value) (h : tm_H) (K : Option Value → tm_H → Prop) : tm_A d 81 7 ls st h K ↔ tm_A d 81 9 ls (.int (100 : Int32) :: st) h K := tm_bp o81_7 (by decide)
theorem o81_9 : tm_op 81 9 = some (.if_icmp .ge 62, (0, 0, 0, 0)) := rfl
theorem r81_9 (d : Nat) (y x : Int32) (ls : tm_Lo) (st : List Value) (h : tm_H) (K : Option Value → tm_H → Prop) : tm_A d 81 9 ls (.int y :: .int x :: st) h K ↔ if y ≤ x then tm_A d 81 71 ls st h K else tm_A d 81 12 ls st h K := tm_b o81_9 rfl rfl rfl rfl
theorem o81_12 : tm_op 81 12 = some (.aload_n 0, (0, 0, 0, 0)) := rfl
theorem r81_12 (d : Nat) (v : Nat) (l1 l2 l3 : Option Value) (st : List Value) (h : tm_H) (K : Option Value → tm_H → Prop) : tm_A d 81 12 [some (.ref v), l1, l2, l3] st h K ↔ tm_A d 81 13 [some (.ref v), l1, l2, l3] (.ref v :: st) h K := tm_s o81_12 rfl rfl rfl
theorem o81_13 : tm_op 81 13 = some (.invokevirtual 43, (2, 75, 1, 7)) := rfl
theorem r81_13 (d : Nat) (a : Nat) (ls : tm_Lo) (st : List Value) (h : tm_H) (K : Option Value → tm_H → Prop) : tm_A (d + 1) 81 13 ls (.ref a :: st) h K ↔ (h.1.2.2 a = (0, 7) ∧ tm_cs st) ∧ tm_R d 75 [.ref a] h (fun r h' => tm_A (d + 1) 81 16 ls (r.toList ++ st) h' K) := tm_callV (as := []) o81_13 rfl rfl rfl rfl
theorem o81_16 : tm_op 81 16 = some (.bipush 48, (0, 0, 0, 0)) := rfl
theorem r81_16 (d : Nat) (ls : tm_Lo) (st : List Value) (h : tm_H) (K : Option Value → tm_H → Prop) : tm_A d 81 16 ls st h K ↔ tm_A d 81 18 ls (.int (48 : Int32) :: st) h K := tm_bp o81_16 (by decide)
theorem o81_18 : tm_op 81 18 = some (.if_icmp .lt 53, (0, 0, 0, 0)) := rfl
theorem r81_18 (d : Nat) (y x : Int32) (ls : tm_Lo) (st : List Value) (h : tm_H) (K : Option Value → tm_H → Prop) : tm_A d 81 18 ls (.int y :: .int x :: st) h K ↔ if x < y then tm_A d 81 71 ls st h K else tm_A d 81 21 ls st h K := tm_b o81_18 rfl rfl rfl rfl
theorem o81_21 : tm_op 81 21 = some (.aload_n 0, (0, 0, 0, 0)) := rfl
theorem r81_21 (d : Nat) (v : Nat) (l1 l2 l3 : Option Value) (st : List Value) (h : tm_H) (K : Option Value → tm_H → Prop) : tm_A d 81 21 [some (.ref v), l1, l2, l3] st h K ↔ tm_A d 81 22 [some (.ref v), l1, l2, l3] (.ref v :: st) h K := tm_s o81_21 rfl rfl rfl
theorem o81_22 : tm_op 81 22 = some (.invokevirtual 43, (2, 75, 1, 7)) := rfl
theorem r81_22 (d : Nat) (a : Nat) (ls : tm_Lo) (st : List Value) (h : tm_H) (K : Option Value → tm_H → Prop) : tm_A (d + 1) 81 22 ls (.ref a :: st) h K ↔ (h.1.2.2 a = (0, 7) ∧ tm_cs st) ∧ tm_R d 75 [.ref a] h (fun r h' => tm_A (d + 1) 81 25 ls (r.toList ++ st) h' K) := tm_callV (as := []) o81_22 rfl rfl rfl rfl
theorem o81_25 : tm_op 81 25 = some (.bipush 57, (0, 0, 0, 0)) := rfl
theorem r81_25 (d : Nat) (ls : tm_Lo) (st : List Value) (h : tm_H) (K : Option Value → tm_H → Prop) : tm_A d 81 25 ls st h K ↔ tm_A d 81 27 ls (.int (57 : Int32) :: st) h K := tm_bp o81_25 (by decide)
theorem o81_27 : tm_op 81 27 = some (.if_icmp .gt 44, (0, 0, 0, 0)) := rfl
theorem r81_27 (d : Nat) (y x : Int32) (ls : tm_Lo) (st : List Value) (h : tm_H) (K : Option Value → tm_H → Prop) : tm_A d 81 27 ls (.int y :: .int x :: st) h K ↔ if y < x then tm_A d 81 71 ls st h K else tm_A d 81 30 ls st h K := tm_b o81_27 rfl rfl rfl rfl
theorem o81_30 : tm_op 81 30 = some (.iload_n 2, (0, 0, 0, 0)) := rfl
theorem r81_30 (d : Nat) (v : Int32) (l0 l1 l3 : Option Value) (st : List Value) (h : tm_H) (K : Option Value → tm_H → Prop) : tm_A d 81 30 [l0, l1, some (.int v), l3] st h K ↔ tm_A d 81 31 [l0, l1, some (.int v), l3] (.int v :: st) h K := tm_s o81_30 rfl rfl rfl
theorem o81_31 : tm_op 81 31 = some (.iconst 4, (0, 0, 0, 0)) := rfl
theorem r81_31 (d : Nat) (ls : tm_Lo) (st : List Value) (h : tm_H) (K : Option Value → tm_H → Prop) : tm_A d 81 31 ls st h K ↔ tm_A d 81 32 ls (.int (4 : Int32) :: st) h K := tm_ic o81_31 (by decide)
theorem o81_32 : tm_op 81 32 = some (.if_icmp .ge 18, (0, 0, 0, 0)) := rfl
theorem r81_32 (d : Nat) (y x : Int32) (ls : tm_Lo) (st : List Value) (h : tm_H) (K : Option Value → tm_H → Prop) : tm_A d 81 32 ls (.int y :: .int x :: st) h K ↔ if y ≤ x then tm_A d 81 50 ls st h K else tm_A d 81 35 ls st h K := tm_b o81_32 rfl rfl rfl rfl
theorem o81_35 : tm_op 81 35 = some (.iload_n 1, (0, 0, 0, 0)) := rfl
theorem r81_35 (d : Nat) (v : Int32) (l0 l2 l3 : Option Value) (st : List Value) (h : tm_H) (K : Option Value → tm_H → Prop) : tm_A d 81 35 [l0, some (.int v), l2, l3] st h K ↔ tm_A d 81 36 [l0, some (.int v), l2, l3] (.int v :: st) h K := tm_s o81_35 rfl rfl rfl
theorem o81_36 : tm_op 81 36 = some (.bipush 10, (0, 0, 0, 0)) := rfl
theorem r81_36 (d : Nat) (ls : tm_Lo) (st : List Value) (h : tm_H) (K : Option Value → tm_H → Prop) : tm_A d 81 36 ls st h K ↔ tm_A d 81 38 ls (.int (10 : Int32) :: st) h K := tm_bp o81_36 (by decide)
theorem o81_38 : tm_op 81 38 = some (.imul, (0, 0, 0, 0)) := rfl
theorem r81_38 (d : Nat) (u v : Int32) (ls : tm_Lo) (st : List Value) (h : tm_H) (K : Option Value → tm_H → Prop) : tm_A d 81 38 ls (.int u :: .int v :: st) h K ↔ tm_A d 81 39 ls (.int (v * u) :: st) h K := tm_s o81_38 rfl rfl rfl
theorem o81_39 : tm_op 81 39 = some (.aload_n 0, (0, 0, 0, 0)) := rfl
theorem r81_39 (d : Nat) (v : Nat) (l1 l2 l3 : Option Value) (st : List Value) (h : tm_H) (K : Option Value → tm_H → Prop) : tm_A d 81 39 [some (.ref v), l1, l2, l3] st h K ↔ tm_A d 81 40 [some (.ref v), l1, l2, l3] (.ref v :: st) h K := tm_s o81_39 rfl rfl rfl
theorem o81_40 : tm_op 81 40 = some (.invokevirtual 43, (2, 75, 1, 7)) := rfl
theorem r81_40 (d : Nat) (a : Nat) (ls : tm_Lo) (st : List Value) (h : tm_H) (K : Option Value → tm_H → Prop) : tm_A (d + 1) 81 40 ls (.ref a :: st) h K ↔ (h.1.2.2 a = (0, 7) ∧ tm_cs st) ∧ tm_R d 75 [.ref a] h (fun r h' => tm_A (d + 1) 81 43 ls (r.toList ++ st) h' K) := tm_callV (as := []) o81_40 rfl rfl rfl rfl
theorem o81_43 : tm_op 81 43 = some (.bipush 48, (0, 0, 0, 0)) := rfl
theorem r81_43 (d : Nat) (ls : tm_Lo) (st : List Value) (h : tm_H) (K : Option Value → tm_H → Prop) : tm_A d 81 43 ls st h K ↔ tm_A d 81 45 ls (.int (48 : Int32) :: st) h K := tm_bp o81_43 (by decide)
theorem o81_45 : tm_op 81 45 = some (.isub, (0, 0, 0, 0)) := rfl
theorem r81_45 (d : Nat) (u v : Int32) (ls : tm_Lo) (st : List Value) (h : tm_H) (K : Option Value → tm_H → Prop) : tm_A d 81 45 ls (.int u :: .int v :: st) h K ↔ tm_A d 81 46 ls (.int (v - u) :: st) h K := tm_s o81_45 rfl rfl rfl
theorem o81_46 : tm_op 81 46 = some (.iadd, (0, 0, 0, 0)) := rfl
theorem r81_46 (d : Nat) (u v : Int32) (ls : tm_Lo) (st : List Value) (h : tm_H) (K : Option Value → tm_H → Prop) : tm_A d 81 46 ls (.int u :: .int v :: st) h K ↔ tm_A d 81 47 ls (.int (v + u) :: st) h K := tm_s o81_46 rfl rfl rfl
theorem o81_47 : tm_op 81 47 = some (.goto 4, (0, 0, 0, 0)) := rfl
theorem r81_47 (d : Nat) (ls : tm_Lo) (st : List Value) (h : tm_H) (K : Option Value → tm_H → Prop) : tm_A d 81 47 ls st h K ↔ tm_A d 81 51 ls st h K := tm_s o81_47 rfl rfl rfl
theorem o81_50 : tm_op 81 50 = some (.iload_n 1, (0, 0, 0, 0)) := rfl
theorem r81_50 (d : Nat) (v : Int32) (l0 l2 l3 : Option Value) (st : List Value) (h : tm_H) (K : Option Value → tm_H → Prop) : tm_A d 81 50 [l0, some (.int v), l2, l3] st h K ↔ tm_A d 81 51 [l0, some (.int v), l2, l3] (.int v :: st) h K := tm_s o81_50 rfl rfl rfl
theorem o81_51 : tm_op 81 51 = some (.istore_n 1, (0, 0, 0, 0)) := rfl
theorem r81_51 (d : Nat) (v : Int32) (l0 l1 l2 l3 : Option Value) (st : List Value) (h : tm_H) (K : Option Value → tm_H → Prop) : tm_A d 81 51 [l0, l1, l2, l3] (.int v :: st) h K ↔ tm_A d 81 52 [l0, some (.int v), l2, l3] st h K := tm_s o81_51 rfl rfl rfl
theorem o81_52 : tm_op 81 52 = some (.iinc 2 1, (0, 0, 0, 0)) := rfl
theorem r81_52 (d : Nat) (v : Int32) (l0 l1 l3 : Option Value) (st : List Value) (h : tm_H) (K : Option Value → tm_H → Prop) : tm_A d 81 52 [l0, l1, some (.int v), l3] st h K ↔ tm_A d 81 55 [l0, l1, some (.int (v + (1 : Int32))), l3] st h K := tm_s o81_52 rfl rfl rfl
theorem o81_55 : tm_op 81 55 = some (.aload_n 0, (0, 0, 0, 0)) := rfl
theorem r81_55 (d : Nat) (v : Nat) (l1 l2 l3 : Option Value) (st : List Value) (h : tm_H) (K : Option Value → tm_H → Prop) : tm_A d 81 55 [some (.ref v), l1, l2, l3] st h K ↔ tm_A d 81 56 [some (.ref v), l1, l2, l3] (.ref v :: st) h K := tm_s o81_55 rfl rfl rfl
theorem o81_56 : tm_op 81 56 = some (.dup, (0, 0, 0, 0)) := rfl
theorem r81_56 (d : Nat) (v : Nat) (ls : tm_Lo) (st : List Value) (h : tm_H) (K : Option Value → tm_H → Prop) : tm_A d 81 56 ls (.ref v :: st) h K ↔ tm_A d 81 57 ls (.ref v :: .ref v :: st) h K := tm_s o81_56 rfl rfl rfl
theorem r81_56i (d : Nat) (v : Int32) (ls : tm_Lo) (st : List Value) (h : tm_H) (K : Option Value → tm_H → Prop) : tm_A d 81 56 ls (.int v :: st) h K ↔ tm_A d 81 57 ls (.int v :: .int v :: st) h K := tm_s o81_56 rfl rfl rfl
theorem o81_57 : tm_op 81 57 = some (.getfield 19, (0, 7, 2, 0)) := rfl
theorem r81_57 (d : Nat) (a : Nat) (ls : tm_Lo) (st : List Value) (G : tm_G) (I : Nat → Nat → Int32) (J : Nat → Nat → Int64) (R : Nat → Nat → Option Nat) (K : Option Value → tm_H → Prop) : tm_A d 81 57 ls (.ref a :: st) (G, I, J, R) K ↔ G.2.2 a = (0, 7) ∧ tm_A d 81 60 ls (.int (I a 2) :: st) (G, I, J, R) K := tm_getI o81_57
theorem o81_60 : tm_op 81 60 = some (.iconst 1, (0, 0, 0, 0)) := rfl
theorem r81_60 (d : Nat) (ls : tm_Lo) (st : List Value) (h : tm_H) (K : Option Value → tm_H → Prop) : tm_A d 81 60 ls st h K ↔ tm_A d 81 61 ls (.int (1 : Int32) :: st) h K := tm_ic o81_60 (by decide)
theorem o81_61 : tm_op 81 61 = some (.iadd, (0, 0, 0, 0)) := rfl
theorem r81_61 (d : Nat) (u v : Int32) (ls : tm_Lo) (st : List Value) (h : tm_H) (K : Option Value → tm_H → Prop) : tm_A d 81 61 ls (.int u :: .int v :: st) h K ↔ tm_A d 81 62 ls (.int (v + u) :: st) h K := tm_s o81_61 rfl rfl rfl
theorem o81_62 : tm_op 81 62 = some (.putfield 19, (0, 7, 2, 0)) := rfl
theorem r81_62 (d : Nat) (v : Int32) (a : Nat) (ls : tm_Lo) (st : List Value) (G : tm_G) (I : Nat → Nat → Int32) (J : Nat → Nat → Int64) (R : Nat → Nat → Option Nat) (K : Option Value → tm_H → Prop) : tm_A d 81 62 ls (.int v :: .ref a :: st) (G, I, J, R) K ↔ G.2.2 a = (0, 7) ∧ tm_A d 81 65 ls st (G, up2 I a 2 v, J, R) K := tm_putI o81_62
theorem o81_65 : tm_op 81 65 = some (.iinc 3 1, (0, 0, 0, 0)) := rfl
theorem r81_65 (d : Nat) (v : Int32) (l0 l1 l2 : Option Value) (st : List Value) (h : tm_H) (K : Option Value → tm_H → Prop) : tm_A d 81 65 [l0, l1, l2, some (.int v)] st h K ↔ tm_A d 81 68 [l0, l1, l2, some (.int (v + (1 : Int32)))] st h K := tm_s o81_65 rfl rfl rfl
theorem o81_68 : tm_op 81 68 = some (.goto (-62), (0, 0, 0, 0)) := rfl
theorem r81_68 (d : Nat) (ls : tm_Lo) (st : List Value) (h : tm_H) (K : Option Value → tm_H → Prop) : tm_A d 81 68 ls st h K ↔ tm_A d 81 6 ls st h K := tm_s o81_68 rfl rfl rfl
theorem o81_71 : tm_op 81 71 = some (.iload_n 2, (0, 0, 0, 0)) := rfl
theorem r81_71 (d : Nat) (v : Int32) (l0 l1 l3 : Option Value) (st : List Value) (h : tm_H) (K : Option Value → tm_H → Prop) : tm_A d 81 71 [l0, l1, some (.int v), l3] st h K ↔ tm_A d 81 72 [l0, l1, some (.int v), l3] (.int v :: st) h K := tm_s o81_71 rfl rfl rfl
theorem o81_72 : tm_op 81 72 = some (.ifCond .eq 8, (0, 0, 0, 0)) := rfl
theorem r81_72 (d : Nat) (x : Int32) (ls : tm_Lo) (st : List Value) (h : tm_H) (K : Option Value → tm_H → Prop) : tm_A d 81 72 ls (.int x :: st) h K ↔ if x = 0 then tm_A d 81 80 ls st h K else tm_A d 81 75 ls st h K := tm_b o81_72 rfl rfl rfl rfl
theorem o81_75 : tm_op 81 75 = some (.iload_n 2, (0, 0, 0, 0)) := rfl
theorem r81_75 (d : Nat) (v : Int32) (l0 l1 l3 : Option Value) (st : List Value) (h : tm_H) (K : Option Value → tm_H → Prop) : tm_A d 81 75 [l0, l1, some (.int v), l3] st h K ↔ tm_A d 81 76 [l0, l1, some (.int v), l3] (.int v :: st) h K := tm_s o81_75 rfl rfl rfl
theorem o81_76 : tm_op 81 76 = some (.iconst 4, (0, 0, 0, 0)) := rfl
theorem r81_76 (d : Nat) (ls : tm_Lo) (st : List Value) (h : tm_H) (K : Option Value → tm_H → Prop) : tm_A d 81 76 ls st h K ↔ tm_A d 81 77 ls (.int (4 : Int32) :: st) h K := tm_ic o81_76 (by decide)
theorem o81_77 : tm_op 81 77 = some (.if_icmp .le 7, (0, 0, 0, 0)) := rfl
theorem r81_77 (d : Nat) (y x : Int32) (ls : tm_Lo) (st : List Value) (h : tm_H) (K : Option Value → tm_H → Prop) : tm_A d 81 77 ls (.int y :: .int x :: st) h K ↔ if x ≤ y then tm_A d 81 84 ls st h K else tm_A d 81 80 ls st h K := tm_b o81_77 rfl rfl rfl rfl
theorem o81_80 : tm_op 81 80 = some (.iconst (-1), (0, 0, 0, 0)) := rfl
theorem r81_80 (d : Nat) (ls : tm_Lo) (st : List Value) (h : tm_H) (K : Option Value → tm_H → Prop) : tm_A d 81 80 ls st h K ↔ tm_A d 81 81 ls (.int (-1 : Int32) :: st) h K := tm_ic o81_80 (by decide)
theorem o81_81 : tm_op 81 81 = some (.goto 4, (0, 0, 0, 0)) := rfl
theorem r81_81 (d : Nat) (ls : tm_Lo) (st : List Value) (h : tm_H) (K : Option Value → tm_H → Prop) : tm_A d 81 81 ls st h K ↔ tm_A d 81 85 ls st h K := tm_s o81_81 rfl rfl rfl
theorem o81_84 : tm_op 81 84 = some (.iload_n 1, (0, 0, 0, 0)) := rfl
theorem r81_84 (d : Nat) (v : Int32) (l0 l2 l3 : Option Value) (st : List Value) (h : tm_H) (K : Option Value → tm_H → Prop) : tm_A d 81 84 [l0, some (.int v), l2, l3] st h K ↔ tm_A d 81 85 [l0, some (.int v), l2, l3] (.int v :: st) h K := tm_s o81_84 rfl rfl rfl
theorem o81_85 : tm_op 81 85 = some (.ireturn, (0, 0, 0, 0)) := rfl
theorem r81_85 (d : Nat) (v : Int32) (ls : tm_Lo) (h : tm_H) (K : Option Value → tm_H → Prop) : tm_A d 81 85 ls [.int v] h K ↔ K (some (.int v)) h := tm_reti o81_85 rfl
theorem o82_0 : tm_op 82 0 = some (.iconst 0, (0, 0, 0, 0)) := rfl
theorem r82_0 (d : Nat) (ls : tm_Lo) (st : List Value) (h : tm_H) (K : Option Value → tm_H → Prop) : tm_A d 82 0 ls st h K ↔ tm_A d 82 1 ls (.int (0 : Int32) :: st) h K := tm_ic o82_0 (by decide)
theorem o82_1 : tm_op 82 1 = some (.istore_n 1, (0, 0, 0, 0)) := rfl
theorem r82_1 (d : Nat) (v : Int32) (l0 l1 l2 : Option Value) (st : List Value) (h : tm_H) (K : Option Value → tm_H → Prop) : tm_A d 82 1 [l0, l1, l2] (.int v :: st) h K ↔ tm_A d 82 2 [l0, some (.int v), l2] st h K := tm_s o82_1 rfl rfl rfl
theorem o82_2 : tm_op 82 2 = some (.iload_n 1, (0, 0, 0, 0)) := rfl
theorem r82_2 (d : Nat) (v : Int32) (l0 l2 : Option Value) (st : List Value) (h : tm_H) (K : Option Value → tm_H → Prop) : tm_A d 82 2 [l0, some (.int v), l2] st h K ↔ tm_A d 82 3 [l0, some (.int v), l2] (.int v :: st) h K := tm_s o82_2 rfl rfl rfl
theorem o82_3 : tm_op 82 3 = some (.iconst 3, (0, 0, 0, 0)) := rfl
theorem r82_3 (d : Nat) (ls : tm_Lo) (st : List Value) (h : tm_H) (K : Option Value → tm_H → Prop) : tm_A d 82 3 ls st h K ↔ tm_A d 82 4 ls (.int (3 : Int32) :: st) h K := tm_ic o82_3 (by decide)
theorem o82_4 : tm_op 82 4 = some (.if_icmp .ge 61, (0, 0, 0, 0)) := rfl
theorem r82_4 (d : Nat) (y x : Int32) (ls : tm_Lo) (st : List Value) (h : tm_H) (K : Option Value → tm_H → Prop) : tm_A d 82 4 ls (.int y :: .int x :: st) h K ↔ if y ≤ x then tm_A d 82 65 ls st h K else tm_A d 82 7 ls st h K := tm_b o82_4 rfl rfl rfl rfl
theorem o82_7 : tm_op 82 7 = some (.aload_n 0, (0, 0, 0, 0)) := rfl
theorem r82_7 (d : Nat) (v : Nat) (l1 l2 : Option Value) (st : List Value) (h : tm_H) (K : Option Value → tm_H → Prop) : tm_A d 82 7 [some (.ref v), l1, l2] st h K ↔ tm_A d 82 8 [some (.ref v), l1, l2] (.ref v :: st) h K := tm_s o82_7 rfl rfl rfl
theorem o82_8 : tm_op 82 8 = some (.invokevirtual 83, (2, 83, 1, 7)) := rfl
theorem r82_8 (d : Nat) (a : Nat) (ls : tm_Lo) (st : List Value) (h : tm_H) (K : Option Value → tm_H → Prop) : tm_A (d + 1) 82 8 ls (.ref a :: st) h K ↔ (h.1.2.2 a = (0, 7) ∧ tm_cs st) ∧ tm_R d 83 [.ref a] h (fun r h' => tm_A (d + 1) 82 11 ls (r.toList ++ st) h' K) := tm_callV (as := []) o82_8 rfl rfl rfl rfl
theorem o82_11 : tm_op 82 11 = some (.istore_n 2, (0, 0, 0, 0)) := rfl
theorem r82_11 (d : Nat) (v : Int32) (l0 l1 l2 : Option Value) (st : List Value) (h : tm_H) (K : Option Value → tm_H → Prop) : tm_A d 82 11 [l0, l1, l2] (.int v :: st) h K ↔ tm_A d 82 12 [l0, l1, some (.int v)] st h K := tm_s o82_11 rfl rfl rfl
theorem o82_12 : tm_op 82 12 = some (.iload_n 2, (0, 0, 0, 0)) := rfl
theorem r82_12 (d : Nat) (v : Int32) (l0 l1 : Option Value) (st : List Value) (h : tm_H) (K : Option Value → tm_H → Prop) : tm_A d 82 12 [l0, l1, some (.int v)] st h K ↔ tm_A d 82 13 [l0, l1, some (.int v)] (.int v :: st) h K := tm_s o82_12 rfl rfl rfl
theorem o82_13 : tm_op 82 13 = some (.iconst (-1), (0, 0, 0, 0)) := rfl
theorem r82_13 (d : Nat) (ls : tm_Lo) (st : List Value) (h : tm_H) (K : Option Value → tm_H → Prop) : tm_A d 82 13 ls st h K ↔ tm_A d 82 14 ls (.int (-1 : Int32) :: st) h K := tm_ic o82_13 (by decide)
theorem o82_14 : tm_op 82 14 = some (.if_icmp .eq 14, (0, 0, 0, 0)) := rfl
theorem r82_14 (d : Nat) (y x : Int32) (ls : tm_Lo) (st : List Value) (h : tm_H) (K : Option Value → tm_H → Prop) : tm_A d 82 14 ls (.int y :: .int x :: st) h K ↔ if x = y then tm_A d 82 28 ls st h K else tm_A d 82 17 ls st h K := tm_b o82_14 rfl rfl rfl rfl
theorem o82_17 : tm_op 82 17 = some (.aload_n 0, (0, 0, 0, 0)) := rfl
theorem r82_17 (d : Nat) (v : Nat) (l1 l2 : Option Value) (st : List Value) (h : tm_H) (K : Option Value → tm_H → Prop) : tm_A d 82 17 [some (.ref v), l1, l2] st h K ↔ tm_A d 82 18 [some (.ref v), l1, l2] (.ref v :: st) h K := tm_s o82_17 rfl rfl rfl
theorem o82_18 : tm_op 82 18 = some (.getfield 25, (2, 7, 3, 0)) := rfl
theorem r82_18 (d : Nat) (a : Nat) (ls : tm_Lo) (st : List Value) (G : tm_G) (I : Nat → Nat → Int32) (J : Nat → Nat → Int64) (R : Nat → Nat → Option Nat) (K : Option Value → tm_H → Prop) : tm_A d 82 18 ls (.ref a :: st) (G, I, J, R) K ↔ G.2.2 a = (0, 7) ∧ tm_A d 82 21 ls (tm_rf (R a 3) :: st) (G, I, J, R) K := tm_getR o82_18
theorem o82_21 : tm_op 82 21 = some (.iload_n 2, (0, 0, 0, 0)) := rfl
theorem r82_21 (d : Nat) (v : Int32) (l0 l1 : Option Value) (st : List Value) (h : tm_H) (K : Option Value → tm_H → Prop) : tm_A d 82 21 [l0, l1, some (.int v)] st h K ↔ tm_A d 82 22 [l0, l1, some (.int v)] (.int v :: st) h K := tm_s o82_21 rfl rfl rfl
theorem o82_22 : tm_op 82 22 = some (.invokevirtual 86, (2, 8, 2, 0)) := rfl
theorem r82_22 (d : Nat) (v1 : Int32) (a : Nat) (ls : tm_Lo) (st : List Value) (h : tm_H) (K : Option Value → tm_H → Prop) : tm_A (d + 1) 82 22 ls (.int v1 :: .ref a :: st) h K ↔ (h.1.2.2 a = (0, 0) ∧ tm_cs st) ∧ tm_R d 8 [.ref a, .int v1] h (fun r h' => tm_A (d + 1) 82 25 ls (r.toList ++ st) h' K) := tm_callV (as := [.int v1]) o82_22 rfl rfl rfl rfl
theorem o82_25 : tm_op 82 25 = some (.ifCond .eq 5, (0, 0, 0, 0)) := rfl
theorem r82_25 (d : Nat) (x : Int32) (ls : tm_Lo) (st : List Value) (h : tm_H) (K : Option Value → tm_H → Prop) : tm_A d 82 25 ls (.int x :: st) h K ↔ if x = 0 then tm_A d 82 30 ls st h K else tm_A d 82 28 ls st h K := tm_b o82_25 rfl rfl rfl rfl
theorem o82_28 : tm_op 82 28 = some (.iconst 0, (0, 0, 0, 0)) := rfl
theorem r82_28 (d : Nat) (ls : tm_Lo) (st : List Value) (h : tm_H) (K : Option Value → tm_H → Prop) : tm_A d 82 28 ls st h K ↔ tm_A d 82 29 ls (.int (0 : Int32) :: st) h K := tm_ic o82_28 (by decide)
theorem o82_29 : tm_op 82 29 = some (.ireturn, (0, 0, 0, 0)) := rfl
theorem r82_29 (d : Nat) (v : Int32) (ls : tm_Lo) (h : tm_H) (K : Option Value → tm_H → Prop) : tm_A d 82 29 ls [.int v] h K ↔ (v = 0 ∨ v = 1) ∧ K (some (.int v)) h := tm_retz o82_29 rfl
theorem o82_30 : tm_op 82 30 = some (.aload_n 0, (0, 0, 0, 0)) := rfl
theorem r82_30 (d : Nat) (v : Nat) (l1 l2 : Option Value) (st : List Value) (h : tm_H) (K : Option Value → tm_H → Prop) : tm_A d 82 30 [some (.ref v), l1, l2] st h K ↔ tm_A d 82 31 [some (.ref v), l1, l2] (.ref v :: st) h K := tm_s o82_30 rfl rfl rfl
theorem o82_31 : tm_op 82 31 = some (.getfield 25, (2, 7, 3, 0)) := rfl
theorem r82_31 (d : Nat) (a : Nat) (ls : tm_Lo) (st : List Value) (G : tm_G) (I : Nat → Nat → Int32) (J : Nat → Nat → Int64) (R : Nat → Nat → Option Nat) (K : Option Value → tm_H → Prop) : tm_A d 82 31 ls (.ref a :: st) (G, I, J, R) K ↔ G.2.2 a = (0, 7) ∧ tm_A d 82 34 ls (tm_rf (R a 3) :: st) (G, I, J, R) K := tm_getR o82_31
theorem o82_34 : tm_op 82 34 = some (.iload_n 2, (0, 0, 0, 0)) := rfl
theorem r82_34 (d : Nat) (v : Int32) (l0 l1 : Option Value) (st : List Value) (h : tm_H) (K : Option Value → tm_H → Prop) : tm_A d 82 34 [l0, l1, some (.int v)] st h K ↔ tm_A d 82 35 [l0, l1, some (.int v)] (.int v :: st) h K := tm_s o82_34 rfl rfl rfl
theorem o82_35 : tm_op 82 35 = some (.invokevirtual 89, (2, 11, 2, 0)) := rfl
theorem r82_35 (d : Nat) (v1 : Int32) (a : Nat) (ls : tm_Lo) (st : List Value) (h : tm_H) (K : Option Value → tm_H → Prop) : tm_A (d + 1) 82 35 ls (.int v1 :: .ref a :: st) h K ↔ (h.1.2.2 a = (0, 0) ∧ tm_cs st) ∧ tm_R d 11 [.ref a, .int v1] h (fun r h' => tm_A (d + 1) 82 38 ls (r.toList ++ st) h' K) := tm_callV (as := [.int v1]) o82_35 rfl rfl rfl rfl
theorem o82_38 : tm_op 82 38 = some (.aload_n 0, (0, 0, 0, 0)) := rfl
theorem r82_38 (d : Nat) (v : Nat) (l1 l2 : Option Value) (st : List Value) (h : tm_H) (K : Option Value → tm_H → Prop) : tm_A d 82 38 [some (.ref v), l1, l2] st h K ↔ tm_A d 82 39 [some (.ref v), l1, l2] (.ref v :: st) h K := tm_s o82_38 rfl rfl rfl
theorem o82_39 : tm_op 82 39 = some (.invokevirtual 43, (2, 75, 1, 7)) := rfl
theorem r82_39 (d : Nat) (a : Nat) (ls : tm_Lo) (st : List Value) (h : tm_H) (K : Option Value → tm_H → Prop) : tm_A (d + 1) 82 39 ls (.ref a :: st) h K ↔ (h.1.2.2 a = (0, 7) ∧ tm_cs st) ∧ tm_R d 75 [.ref a] h (fun r h' => tm_A (d + 1) 82 42 ls (r.toList ++ st) h' K) := tm_callV (as := []) o82_39 rfl rfl rfl rfl
theorem o82_42 : tm_op 82 42 = some (.bipush 44, (0, 0, 0, 0)) := rfl
theorem r82_42 (d : Nat) (ls : tm_Lo) (st : List Value) (h : tm_H) (K : Option Value → tm_H → Prop) : tm_A d 82 42 ls st h K ↔ tm_A d 82 44 ls (.int (44 : Int32) :: st) h K := tm_bp o82_42 (by decide)
theorem o82_44 : tm_op 82 44 = some (.if_icmp .eq 5, (0, 0, 0, 0)) := rfl
theorem r82_44 (d : Nat) (y x : Int32) (ls : tm_Lo) (st : List Value) (h : tm_H) (K : Option Value → tm_H → Prop) : tm_A d 82 44 ls (.int y :: .int x :: st) h K ↔ if x = y then tm_A d 82 49 ls st h K else tm_A d 82 47 ls st h K := tm_b o82_44 rfl rfl rfl rfl
theorem o82_47 : tm_op 82 47 = some (.iconst 1, (0, 0, 0, 0)) := rfl
theorem r82_47 (d : Nat) (ls : tm_Lo) (st : List Value) (h : tm_H) (K : Option Value → tm_H → Prop) : tm_A d 82 47 ls st h K ↔ tm_A d 82 48 ls (.int (1 : Int32) :: st) h K := tm_ic o82_47 (by decide)
theorem o82_48 : tm_op 82 48 = some (.ireturn, (0, 0, 0, 0)) := rfl
theorem r82_48 (d : Nat) (v : Int32) (ls : tm_Lo) (h : tm_H) (K : Option Value → tm_H → Prop) : tm_A d 82 48 ls [.int v] h K ↔ (v = 0 ∨ v = 1) ∧ K (some (.int v)) h := tm_retz o82_48 rfl
theorem o82_49 : tm_op 82 49 = some (.aload_n 0, (0, 0, 0, 0)) := rfl
theorem r82_49 (d : Nat) (v : Nat) (l1 l2 : Option Value) (st : List Value) (h : tm_H) (K : Option Value → tm_H → Prop) : tm_A d 82 49 [some (.ref v), l1, l2] st h K ↔ tm_A d 82 50 [some (.ref v), l1, l2] (.ref v :: st) h K := tm_s o82_49 rfl rfl rfl
theorem o82_50 : tm_op 82 50 = some (.dup, (0, 0, 0, 0)) := rfl
theorem r82_50 (d : Nat) (v : Nat) (ls : tm_Lo) (st : List Value) (h : tm_H) (K : Option Value → tm_H → Prop) : tm_A d 82 50 ls (.ref v :: st) h K ↔ tm_A d 82 51 ls (.ref v :: .ref v :: st) h K := tm_s o82_50 rfl rfl rfl
theorem r82_50i (d : Nat) (v : Int32) (ls : tm_Lo) (st : List Value) (h : tm_H) (K : Option Value → tm_H → Prop) : tm_A d 82 50 ls (.int v :: st) h K ↔ tm_A d 82 51 ls (.int v :: .int v :: st) h K := tm_s o82_50 rfl rfl rfl
theorem o82_51 : tm_op 82 51 = some (.getfield 19, (0, 7, 2, 0)) := rfl
theorem r82_51 (d : Nat) (a : Nat) (ls : tm_Lo) (st : List Value) (G : tm_G) (I : Nat → Nat → Int32) (J : Nat → Nat → Int64) (R : Nat → Nat → Option Nat) (K : Option Value → tm_H → Prop) : tm_A d 82 51 ls (.ref a :: st) (G, I, J, R) K ↔ G.2.2 a = (0, 7) ∧ tm_A d 82 54 ls (.int (I a 2) :: st) (G, I, J, R) K := tm_getI o82_51
theorem o82_54 : tm_op 82 54 = some (.iconst 1, (0, 0, 0, 0)) := rfl
theorem r82_54 (d : Nat) (ls : tm_Lo) (st : List Value) (h : tm_H) (K : Option Value → tm_H → Prop) : tm_A d 82 54 ls st h K ↔ tm_A d 82 55 ls (.int (1 : Int32) :: st) h K := tm_ic o82_54 (by decide)
theorem o82_55 : tm_op 82 55 = some (.iadd, (0, 0, 0, 0)) := rfl
theorem r82_55 (d : Nat) (u v : Int32) (ls : tm_Lo) (st : List Value) (h : tm_H) (K : Option Value → tm_H → Prop) : tm_A d 82 55 ls (.int u :: .int v :: st) h K ↔ tm_A d 82 56 ls (.int (v + u) :: st) h K := tm_s o82_55 rfl rfl rfl
theorem o82_56 : tm_op 82 56 = some (.putfield 19, (0, 7, 2, 0)) := rfl
theorem r82_56 (d : Nat) (v : Int32) (a : Nat) (ls : tm_Lo) (st : List Value) (G : tm_G) (I : Nat → Nat → Int32) (J : Nat → Nat → Int64) (R : Nat → Nat → Option Nat) (K : Option Value → tm_H → Prop) : tm_A d 82 56 ls (.int v :: .ref a :: st) (G, I, J, R) K ↔ G.2.2 a = (0, 7) ∧ tm_A d 82 59 ls st (G, up2 I a 2 v, J, R) K := tm_putI o82_56
theorem o82_59 : tm_op 82 59 = some (.iinc 1 1, (0, 0, 0, 0)) := rfl
theorem r82_59 (d : Nat) (v : Int32) (l0 l2 : Option Value) (st : List Value) (h : tm_H) (K : Option Value → tm_H → Prop) : tm_A d 82 59 [l0, some (.int v), l2] st h K ↔ tm_A d 82 62 [l0, some (.int (v + (1 : Int32))), l2] st h K := tm_s o82_59 rfl rfl rfl
theorem o82_62 : tm_op 82 62 = some (.goto (-60), (0, 0, 0, 0)) := rfl
theorem r82_62 (d : Nat) (ls : tm_Lo) (st : List Value) (h : tm_H) (K : Option Value → tm_H → Prop) : tm_A d 82 62 ls st h K ↔ tm_A d 82 2 ls st h K := tm_s o82_62 rfl rfl rfl
theorem o82_65 : tm_op 82 65 = some (.iconst 0, (0, 0, 0, 0)) := rfl
theorem r82_65 (d : Nat) (ls : tm_Lo) (st : List Value) (h : tm_H) (K : Option Value → tm_H → Prop) : tm_A d 82 65 ls st h K ↔ tm_A d 82 66 ls (.int (0 : Int32) :: st) h K := tm_ic o82_65 (by decide)
theorem o82_66 : tm_op 82 66 = some (.ireturn, (0, 0, 0, 0)) := rfl
theorem r82_66 (d : Nat) (v : Int32) (ls : tm_Lo) (h : tm_H) (K : Option Value → tm_H → Prop) : tm_A d 82 66 ls [.int v] h K ↔ (v = 0 ∨ v = 1) ∧ K (some (.int v)) h := tm_retz o82_66 rfl
theorem o83_0 : tm_op 83 0 = some (.iconst 0, (0, 0, 0, 0)) := rfl
theorem r83_0 (d : Nat) (ls : tm_Lo) (st : List Value) (h : tm_H) (K : Option Value → tm_H → Prop) : tm_A d 83 0 ls st h K ↔ tm_A d 83 1 ls (.int (0 : Int32) :: st) h K := tm_ic o83_0 (by decide)
theorem o83_1 : tm_op 83 1 = some (.istore_n 1, (0, 0, 0, 0)) := rfl
theorem r83_1 (d : Nat) (v : Int32) (l0 l1 l2 l3 : Option Value) (st : List Value) (h : tm_H) (K : Option Value → tm_H → Prop) : tm_A d 83 1 [l0, l1, l2, l3] (.int v :: st) h K ↔ tm_A d 83 2 [l0, some (.int v), l2, l3] st h K := tm_s o83_1 rfl rfl rfl
theorem o83_2 : tm_op 83 2 = some (.iconst 0, (0, 0, 0, 0)) := rfl
theorem r83_2 (d : Nat) (ls : tm_Lo) (st : List Value) (h : tm_H) (K : Option Value → tm_H → Prop) : tm_A d 83 2 ls st h K ↔ tm_A d 83 3 ls (.int (0 : Int32) :: st) h K := tm_ic o83_2 (by decide)
theorem o83_3 : tm_op 83 3 = some (.istore_n 2, (0, 0, 0, 0)) := rfl
theorem r83_3 (d : Nat) (v : Int32) (l0 l1 l2 l3 : Option Value) (st : List Value) (h : tm_H) (K : Option Value → tm_H → Prop) : tm_A d 83 3 [l0, l1, l2, l3] (.int v :: st) h K ↔ tm_A d 83 4 [l0, l1, some (.int v), l3] st h K := tm_s o83_3 rfl rfl rfl
theorem o83_4 : tm_op 83 4 = some (.iconst 0, (0, 0, 0, 0)) := rfl
theorem r83_4 (d : Nat) (ls : tm_Lo) (st : List Value) (h : tm_H) (K : Option Value → tm_H → Prop) : tm_A d 83 4 ls st h K ↔ tm_A d 83 5 ls (.int (0 : Int32) :: st) h K := tm_ic o83_4 (by decide)
theorem o83_5 : tm_op 83 5 = some (.istore_n 3, (0, 0, 0, 0)) := rfl
theorem r83_5 (d : Nat) (v : Int32) (l0 l1 l2 l3 : Option Value) (st : List Value) (h : tm_H) (K : Option Value → tm_H → Prop) : tm_A d 83 5 [l0, l1, l2, l3] (.int v :: st) h K ↔ tm_A d 83 6 [l0, l1, l2, some (.int v)] st h K := tm_s o83_5 rfl rfl rfl
theorem o83_6 : tm_op 83 6 = some (.iload_n 3, (0, 0, 0, 0)) := rfl
theorem r83_6 (d : Nat) (v : Int32) (l0 l1 l2 : Option Value) (st : List Value) (h : tm_H) (K : Option Value → tm_H → Prop) : tm_A d 83 6 [l0, l1, l2, some (.int v)] st h K ↔ tm_A d 83 7 [l0, l1, l2, some (.int v)] (.int v :: st) h K := tm_s o83_6 rfl rfl rfl
theorem o83_7 : tm_op 83 7 = some (.bipush 100, (0, 0, 0, 0)) := rfl
theorem r83_7 (d : Nat) (ls : tm_Lo) (st : List Value) (h : tm_H) (K : Option Value → tm_H → Prop) : tm_A d 83 7 ls st h K ↔ tm_A d 83 9 ls (.int (100 : Int32) :: st) h K := tm_bp o83_7 (by decide)
theorem o83_9 : tm_op 83 9 = some (.if_icmp .ge 60, (0, 0, 0, 0)) := rfl
theorem r83_9 (d : Nat) (y x : Int32) (ls : tm_Lo) (st : List Value) (h : tm_H) (K : Option Value → tm_H → Prop) : tm_A d 83 9 ls (.int y :: .int x :: st) h K ↔ if y ≤ x then tm_A d 83 69 ls st h K else tm_A d 83 12 ls st h K := tm_b o83_9 rfl rfl rfl rfl
theorem o83_12 : tm_op 83 12 = some (.aload_n 0, (0, 0, 0, 0)) := rfl
theorem r83_12 (d : Nat) (v : Nat) (l1 l2 l3 : Option Value) (st : List Value) (h : tm_H) (K : Option Value → tm_H → Prop) : tm_A d 83 12 [some (.ref v), l1, l2, l3] st h K ↔ tm_A d 83 13 [some (.ref v), l1, l2, l3] (.ref v :: st) h K := tm_s o83_12 rfl rfl rfl
theorem o83_13 : tm_op 83 13 = some (.invokevirtual 43, (2, 75, 1, 7)) := rfl
theorem r83_13 (d : Nat) (a : Nat) (ls : tm_Lo) (st : List Value) (h : tm_H) (K : Option Value → tm_H → Prop) : tm_A (d + 1) 83 13 ls (.ref a :: st) h K ↔ (h.1.2.2 a = (0, 7) ∧ tm_cs st) ∧ tm_R d 75 [.ref a] h (fun r h' => tm_A (d + 1) 83 16 ls (r.toList ++ st) h' K) := tm_callV (as := []) o83_13 rfl rfl rfl rfl
theorem o83_16 : tm_op 83 16 = some (.bipush 97, (0, 0, 0, 0)) := rfl
theorem r83_16 (d : Nat) (ls : tm_Lo) (st : List Value) (h : tm_H) (K : Option Value → tm_H → Prop) : tm_A d 83 16 ls st h K ↔ tm_A d 83 18 ls (.int (97 : Int32) :: st) h K := tm_bp o83_16 (by decide)
theorem o83_18 : tm_op 83 18 = some (.if_icmp .lt 51, (0, 0, 0, 0)) := rfl
theorem r83_18 (d : Nat) (y x : Int32) (ls : tm_Lo) (st : List Value) (h : tm_H) (K : Option Value → tm_H → Prop) : tm_A d 83 18 ls (.int y :: .int x :: st) h K ↔ if x < y then tm_A d 83 69 ls st h K else tm_A d 83 21 ls st h K := tm_b o83_18 rfl rfl rfl rfl
theorem o83_21 : tm_op 83 21 = some (.aload_n 0, (0, 0, 0, 0)) := rfl
theorem r83_21 (d : Nat) (v : Nat) (l1 l2 l3 : Option Value) (st : List Value) (h : tm_H) (K : Option Value → tm_H → Prop) : tm_A d 83 21 [some (.ref v), l1, l2, l3] st h K ↔ tm_A d 83 22 [some (.ref v), l1, l2, l3] (.ref v :: st) h K := tm_s o83_21 rfl rfl rfl
theorem o83_22 : tm_op 83 22 = some (.invokevirtual 43, (2, 75, 1, 7)) := rfl
theorem r83_22 (d : Nat) (a : Nat) (ls : tm_Lo) (st : List Value) (h : tm_H) (K : Option Value → tm_H → Prop) : tm_A (d + 1) 83 22 ls (.ref a :: st) h K ↔ (h.1.2.2 a = (0, 7) ∧ tm_cs st) ∧ tm_R d 75 [.ref a] h (fun r h' => tm_A (d + 1) 83 25 ls (r.toList ++ st) h' K) := tm_callV (as := []) o83_22 rfl rfl rfl rfl
theorem o83_25 : tm_op 83 25 = some (.bipush 122, (0, 0, 0, 0)) := rfl
theorem r83_25 (d : Nat) (ls : tm_Lo) (st : List Value) (h : tm_H) (K : Option Value → tm_H → Prop) : tm_A d 83 25 ls st h K ↔ tm_A d 83 27 ls (.int (122 : Int32) :: st) h K := tm_bp o83_25 (by decide)
theorem o83_27 : tm_op 83 27 = some (.if_icmp .gt 42, (0, 0, 0, 0)) := rfl
theorem r83_27 (d : Nat) (y x : Int32) (ls : tm_Lo) (st : List Value) (h : tm_H) (K : Option Value → tm_H → Prop) : tm_A d 83 27 ls (.int y :: .int x :: st) h K ↔ if y < x then tm_A d 83 69 ls st h K else tm_A d 83 30 ls st h K := tm_b o83_27 rfl rfl rfl rfl
theorem o83_30 : tm_op 83 30 = some (.iload_n 2, (0, 0, 0, 0)) := rfl
theorem r83_30 (d : Nat) (v : Int32) (l0 l1 l3 : Option Value) (st : List Value) (h : tm_H) (K : Option Value → tm_H → Prop) : tm_A d 83 30 [l0, l1, some (.int v), l3] st h K ↔ tm_A d 83 31 [l0, l1, some (.int v), l3] (.int v :: st) h K := tm_s o83_30 rfl rfl rfl
theorem o83_31 : tm_op 83 31 = some (.bipush 6, (0, 0, 0, 0)) := rfl
theorem r83_31 (d : Nat) (ls : tm_Lo) (st : List Value) (h : tm_H) (K : Option Value → tm_H → Prop) : tm_A d 83 31 ls st h K ↔ tm_A d 83 33 ls (.int (6 : Int32) :: st) h K := tm_bp o83_31 (by decide)
theorem o83_33 : tm_op 83 33 = some (.if_icmp .ge 17, (0, 0, 0, 0)) := rfl
theorem r83_33 (d : Nat) (y x : Int32) (ls : tm_Lo) (st : List Value) (h : tm_H) (K : Option Value → tm_H → Prop) : tm_A d 83 33 ls (.int y :: .int x :: st) h K ↔ if y ≤ x then tm_A d 83 50 ls st h K else tm_A d 83 36 ls st h K := tm_b o83_33 rfl rfl rfl rfl
theorem o83_36 : tm_op 83 36 = some (.iload_n 1, (0, 0, 0, 0)) := rfl
theorem r83_36 (d : Nat) (v : Int32) (l0 l2 l3 : Option Value) (st : List Value) (h : tm_H) (K : Option Value → tm_H → Prop) : tm_A d 83 36 [l0, some (.int v), l2, l3] st h K ↔ tm_A d 83 37 [l0, some (.int v), l2, l3] (.int v :: st) h K := tm_s o83_36 rfl rfl rfl
theorem o83_37 : tm_op 83 37 = some (.aload_n 0, (0, 0, 0, 0)) := rfl
theorem r83_37 (d : Nat) (v : Nat) (l1 l2 l3 : Option Value) (st : List Value) (h : tm_H) (K : Option Value → tm_H → Prop) : tm_A d 83 37 [some (.ref v), l1, l2, l3] st h K ↔ tm_A d 83 38 [some (.ref v), l1, l2, l3] (.ref v :: st) h K := tm_s o83_37 rfl rfl rfl
theorem o83_38 : tm_op 83 38 = some (.invokevirtual 43, (2, 75, 1, 7)) := rfl
theorem r83_38 (d : Nat) (a : Nat) (ls : tm_Lo) (st : List Value) (h : tm_H) (K : Option Value → tm_H → Prop) : tm_A (d + 1) 83 38 ls (.ref a :: st) h K ↔ (h.1.2.2 a = (0, 7) ∧ tm_cs st) ∧ tm_R d 75 [.ref a] h (fun r h' => tm_A (d + 1) 83 41 ls (r.toList ++ st) h' K) := tm_callV (as := []) o83_38 rfl rfl rfl rfl
theorem o83_41 : tm_op 83 41 = some (.bipush 96, (0, 0, 0, 0)) := rfl
theorem r83_41 (d : Nat) (ls : tm_Lo) (st : List Value) (h : tm_H) (K : Option Value → tm_H → Prop) : tm_A d 83 41 ls st h K ↔ tm_A d 83 43 ls (.int (96 : Int32) :: st) h K := tm_bp o83_41 (by decide)
theorem o83_43 : tm_op 83 43 = some (.isub, (0, 0, 0, 0)) := rfl
theorem r83_43 (d : Nat) (u v : Int32) (ls : tm_Lo) (st : List Value) (h : tm_H) (K : Option Value → tm_H → Prop) : tm_A d 83 43 ls (.int u :: .int v :: st) h K ↔ tm_A d 83 44 ls (.int (v - u) :: st) h K := tm_s o83_43 rfl rfl rfl
theorem o83_44 : tm_op 83 44 = some (.iconst 5, (0, 0, 0, 0)) := rfl
theorem r83_44 (d : Nat) (ls : tm_Lo) (st : List Value) (h : tm_H) (K : Option Value → tm_H → Prop) : tm_A d 83 44 ls st h K ↔ tm_A d 83 45 ls (.int (5 : Int32) :: st) h K := tm_ic o83_44 (by decide)
theorem o83_45 : tm_op 83 45 = some (.iload_n 2, (0, 0, 0, 0)) := rfl
theorem r83_45 (d : Nat) (v : Int32) (l0 l1 l3 : Option Value) (st : List Value) (h : tm_H) (K : Option Value → tm_H → Prop) : tm_A d 83 45 [l0, l1, some (.int v), l3] st h K ↔ tm_A d 83 46 [l0, l1, some (.int v), l3] (.int v :: st) h K := tm_s o83_45 rfl rfl rfl
theorem o83_46 : tm_op 83 46 = some (.imul, (0, 0, 0, 0)) := rfl
theorem r83_46 (d : Nat) (u v : Int32) (ls : tm_Lo) (st : List Value) (h : tm_H) (K : Option Value → tm_H → Prop) : tm_A d 83 46 ls (.int u :: .int v :: st) h K ↔ tm_A d 83 47 ls (.int (v * u) :: st) h K := tm_s o83_46 rfl rfl rfl
theorem o83_47 : tm_op 83 47 = some (.ishl, (0, 0, 0, 0)) := rfl
theorem r83_47 (d : Nat) (u v : Int32) (ls : tm_Lo) (st : List Value) (h : tm_H) (K : Option Value → tm_H → Prop) : tm_A d 83 47 ls (.int u :: .int v :: st) h K ↔ tm_A d 83 48 ls (.int (v <<< (u &&& 31)) :: st) h K := tm_s o83_47 rfl rfl rfl
theorem o83_48 : tm_op 83 48 = some (.ior, (0, 0, 0, 0)) := rfl
theorem r83_48 (d : Nat) (u v : Int32) (ls : tm_Lo) (st : List Value) (h : tm_H) (K : Option Value → tm_H → Prop) : tm_A d 83 48 ls (.int u :: .int v :: st) h K ↔ tm_A d 83 49 ls (.int (v ||| u) :: st) h K := tm_s o83_48 rfl rfl rfl
theorem o83_49 : tm_op 83 49 = some (.istore_n 1, (0, 0, 0, 0)) := rfl
theorem r83_49 (d : Nat) (v : Int32) (l0 l1 l2 l3 : Option Value) (st : List Value) (h : tm_H) (K : Option Value → tm_H → Prop) : tm_A d 83 49 [l0, l1, l2, l3] (.int v :: st) h K ↔ tm_A d 83 50 [l0, some (.int v), l2, l3] st h K := tm_s o83_49 rfl rfl rfl
theorem o83_50 : tm_op 83 50 = some (.iinc 2 1, (0, 0, 0, 0)) := rfl
theorem r83_50 (d : Nat) (v : Int32) (l0 l1 l3 : Option Value) (st : List Value) (h : tm_H) (K : Option Value → tm_H → Prop) : tm_A d 83 50 [l0, l1, some (.int v), l3] st h K ↔ tm_A d 83 53 [l0, l1, some (.int (v + (1 : Int32))), l3] st h K := tm_s o83_50 rfl rfl rfl
theorem o83_53 : tm_op 83 53 = some (.aload_n 0, (0, 0, 0, 0)) := rfl
theorem r83_53 (d : Nat) (v : Nat) (l1 l2 l3 : Option Value) (st : List Value) (h : tm_H) (K : Option Value → tm_H → Prop) : tm_A d 83 53 [some (.ref v), l1, l2, l3] st h K ↔ tm_A d 83 54 [some (.ref v), l1, l2, l3] (.ref v :: st) h K := tm_s o83_53 rfl rfl rfl
theorem o83_54 : tm_op 83 54 = some (.dup, (0, 0, 0, 0)) := rfl
theorem r83_54 (d : Nat) (v : Nat) (ls : tm_Lo) (st : List Value) (h : tm_H) (K : Option Value → tm_H → Prop) : tm_A d 83 54 ls (.ref v :: st) h K ↔ tm_A d 83 55 ls (.ref v :: .ref v :: st) h K := tm_s o83_54 rfl rfl rfl
theorem r83_54i (d : Nat) (v : Int32) (ls : tm_Lo) (st : List Value) (h : tm_H) (K : Option Value → tm_H → Prop) : tm_A d 83 54 ls (.int v :: st) h K ↔ tm_A d 83 55 ls (.int v :: .int v :: st) h K := tm_s o83_54 rfl rfl rfl
theorem o83_55 : tm_op 83 55 = some (.getfield 19, (0, 7, 2, 0)) := rfl
theorem r83_55 (d : Nat) (a : Nat) (ls : tm_Lo) (st : List Value) (G : tm_G) (I : Nat → Nat → Int32) (J : Nat → Nat → Int64) (R : Nat → Nat → Option Nat) (K : Option Value → tm_H → Prop) : tm_A d 83 55 ls (.ref a :: st) (G, I, J, R) K ↔ G.2.2 a = (0, 7) ∧ tm_A d 83 58 ls (.int (I a 2) :: st) (G, I, J, R) K := tm_getI o83_55
theorem o83_58 : tm_op 83 58 = some (.iconst 1, (0, 0, 0, 0)) := rfl
theorem r83_58 (d : Nat) (ls : tm_Lo) (st : List Value) (h : tm_H) (K : Option Value → tm_H → Prop) : tm_A d 83 58 ls st h K ↔ tm_A d 83 59 ls (.int (1 : Int32) :: st) h K := tm_ic o83_58 (by decide)
theorem o83_59 : tm_op 83 59 = some (.iadd, (0, 0, 0, 0)) := rfl
theorem r83_59 (d : Nat) (u v : Int32) (ls : tm_Lo) (st : List Value) (h : tm_H) (K : Option Value → tm_H → Prop) : tm_A d 83 59 ls (.int u :: .int v :: st) h K ↔ tm_A d 83 60 ls (.int (v + u) :: st) h K := tm_s o83_59 rfl rfl rfl
theorem o83_60 : tm_op 83 60 = some (.putfield 19, (0, 7, 2, 0)) := rfl
theorem r83_60 (d : Nat) (v : Int32) (a : Nat) (ls : tm_Lo) (st : List Value) (G : tm_G) (I : Nat → Nat → Int32) (J : Nat → Nat → Int64) (R : Nat → Nat → Option Nat) (K : Option Value → tm_H → Prop) : tm_A d 83 60 ls (.int v :: .ref a :: st) (G, I, J, R) K ↔ G.2.2 a = (0, 7) ∧ tm_A d 83 63 ls st (G, up2 I a 2 v, J, R) K := tm_putI o83_60
theorem o83_63 : tm_op 83 63 = some (.iinc 3 1, (0, 0, 0, 0)) := rfl
theorem r83_63 (d : Nat) (v : Int32) (l0 l1 l2 : Option Value) (st : List Value) (h : tm_H) (K : Option Value → tm_H → Prop) : tm_A d 83 63 [l0, l1, l2, some (.int v)] st h K ↔ tm_A d 83 66 [l0, l1, l2, some (.int (v + (1 : Int32)))] st h K := tm_s o83_63 rfl rfl rfl
theorem o83_66 : tm_op 83 66 = some (.goto (-60), (0, 0, 0, 0)) := rfl
theorem r83_66 (d : Nat) (ls : tm_Lo) (st : List Value) (h : tm_H) (K : Option Value → tm_H → Prop) : tm_A d 83 66 ls st h K ↔ tm_A d 83 6 ls st h K := tm_s o83_66 rfl rfl rfl
theorem o83_69 : tm_op 83 69 = some (.iload_n 2, (0, 0, 0, 0)) := rfl
theorem r83_69 (d : Nat) (v : Int32) (l0 l1 l3 : Option Value) (st : List Value) (h : tm_H) (K : Option Value → tm_H → Prop) : tm_A d 83 69 [l0, l1, some (.int v), l3] st h K ↔ tm_A d 83 70 [l0, l1, some (.int v), l3] (.int v :: st) h K := tm_s o83_69 rfl rfl rfl
theorem o83_70 : tm_op 83 70 = some (.ifCond .eq 9, (0, 0, 0, 0)) := rfl
theorem r83_70 (d : Nat) (x : Int32) (ls : tm_Lo) (st : List Value) (h : tm_H) (K : Option Value → tm_H → Prop) : tm_A d 83 70 ls (.int x :: st) h K ↔ if x = 0 then tm_A d 83 79 ls st h K else tm_A d 83 73 ls st h K := tm_b o83_70 rfl rfl rfl rfl
theorem o83_73 : tm_op 83 73 = some (.iload_n 2, (0, 0, 0, 0)) := rfl
theorem r83_73 (d : Nat) (v : Int32) (l0 l1 l3 : Option Value) (st : List Value) (h : tm_H) (K : Option Value → tm_H → Prop) : tm_A d 83 73 [l0, l1, some (.int v), l3] st h K ↔ tm_A d 83 74 [l0, l1, some (.int v), l3] (.int v :: st) h K := tm_s o83_73 rfl rfl rfl
theorem o83_74 : tm_op 83 74 = some (.bipush 6, (0, 0, 0, 0)) := rfl
theorem r83_74 (d : Nat) (ls : tm_Lo) (st : List Value) (h : tm_H) (K : Option Value → tm_H → Prop) : tm_A d 83 74 ls st h K ↔ tm_A d 83 76 ls (.int (6 : Int32) :: st) h K := tm_bp o83_74 (by decide)
theorem o83_76 : tm_op 83 76 = some (.if_icmp .le 7, (0, 0, 0, 0)) := rfl
theorem r83_76 (d : Nat) (y x : Int32) (ls : tm_Lo) (st : List Value) (h : tm_H) (K : Option Value → tm_H → Prop) : tm_A d 83 76 ls (.int y :: .int x :: st) h K ↔ if x ≤ y then tm_A d 83 83 ls st h K else tm_A d 83 79 ls st h K := tm_b o83_76 rfl rfl rfl rfl
theorem o83_79 : tm_op 83 79 = some (.iconst (-1), (0, 0, 0, 0)) := rfl
theorem r83_79 (d : Nat) (ls : tm_Lo) (st : List Value) (h : tm_H) (K : Option Value → tm_H → Prop) : tm_A d 83 79 ls st h K ↔ tm_A d 83 80 ls (.int (-1 : Int32) :: st) h K := tm_ic o83_79 (by decide)
theorem o83_80 : tm_op 83 80 = some (.goto 4, (0, 0, 0, 0)) := rfl
theorem r83_80 (d : Nat) (ls : tm_Lo) (st : List Value) (h : tm_H) (K : Option Value → tm_H → Prop) : tm_A d 83 80 ls st h K ↔ tm_A d 83 84 ls st h K := tm_s o83_80 rfl rfl rfl
theorem o83_83 : tm_op 83 83 = some (.iload_n 1, (0, 0, 0, 0)) := rfl
theorem r83_83 (d : Nat) (v : Int32) (l0 l2 l3 : Option Value) (st : List Value) (h : tm_H) (K : Option Value → tm_H → Prop) : tm_A d 83 83 [l0, some (.int v), l2, l3] st h K ↔ tm_A d 83 84 [l0, some (.int v), l2, l3] (.int v :: st) h K := tm_s o83_83 rfl rfl rfl
theorem o83_84 : tm_op 83 84 = some (.ireturn, (0, 0, 0, 0)) := rfl
theorem r83_84 (d : Nat) (v : Int32) (ls : tm_Lo) (h : tm_H) (K : Option Value → tm_H → Prop) : tm_A d 83 84 ls [.int v] h K ↔ K (some (.int v)) h := tm_reti o83_84 rfl
theorem o84_0 : tm_op 84 0 = some (.aload_n 0, (0, 0, 0, 0)) := rfl
theorem r84_0 (d : Nat) (v : Nat) (l1 l2 l3 l4 : Option Value) (st : List Value) (h : tm_H) (K : Option Value → tm_H → Prop) : tm_A d 84 0 [some (.ref v), l1, l2, l3, l4] st h K ↔ tm_A d 84 1 [some (.ref v), l1, l2, l3, l4] (.ref v :: st) h K := tm_s o84_0 rfl rfl rfl
theorem o84_1 : tm_op 84 1 = some (.invokespecial 1, (4, 0, 0, 0)) := rfl
theorem r84_1 (d : Nat) (a : Nat) (ls : tm_Lo) (st : List Value) (h : tm_H) (K : Option Value → tm_H → Prop) : tm_A (d + 1) 84 1 ls (.ref a :: st) h K ↔ tm_cs st ∧ tm_A (d + 1) 84 4 ls st h K := tm_obj o84_1 rfl rfl
theorem o84_4 : tm_op 84 4 = some (.aload_n 0, (0, 0, 0, 0)) := rfl
theorem r84_4 (d : Nat) (v : Nat) (l1 l2 l3 l4 : Option Value) (st : List Value) (h : tm_H) (K : Option Value → tm_H → Prop) : tm_A d 84 4 [some (.ref v), l1, l2, l3, l4] st h K ↔ tm_A d 84 5 [some (.ref v), l1, l2, l3, l4] (.ref v :: st) h K := tm_s o84_4 rfl rfl rfl
theorem o84_5 : tm_op 84 5 = some (.iload_n 1, (0, 0, 0, 0)) := rfl
theorem r84_5 (d : Nat) (v : Int32) (l0 l2 l3 l4 : Option Value) (st : List Value) (h : tm_H) (K : Option Value → tm_H → Prop) : tm_A d 84 5 [l0, some (.int v), l2, l3, l4] st h K ↔ tm_A d 84 6 [l0, some (.int v), l2, l3, l4] (.int v :: st) h K := tm_s o84_5 rfl rfl rfl
theorem o84_6 : tm_op 84 6 = some (.putfield 7, (0, 8, 0, 0)) := rfl
theorem r84_6 (d : Nat) (v : Int32) (a : Nat) (ls : tm_Lo) (st : List Value) (G : tm_G) (I : Nat → Nat → Int32) (J : Nat → Nat → Int64) (R : Nat → Nat → Option Nat) (K : Option Value → tm_H → Prop) : tm_A d 84 6 ls (.int v :: .ref a :: st) (G, I, J, R) K ↔ G.2.2 a = (0, 8) ∧ tm_A d 84 9 ls st (G, up2 I a 0 v, J, R) K := tm_putI o84_6
theorem o84_9 : tm_op 84 9 = some (.aload_n 0, (0, 0, 0, 0)) := rfl
theorem r84_9 (d : Nat) (v : Nat) (l1 l2 l3 l4 : Option Value) (st : List Value) (h : tm_H) (K : Option Value → tm_H → Prop) : tm_A d 84 9 [some (.ref v), l1, l2, l3, l4] st h K ↔ tm_A d 84 10 [some (.ref v), l1, l2, l3, l4] (.ref v :: st) h K := tm_s o84_9 rfl rfl rfl
theorem o84_10 : tm_op 84 10 = some (.iload_n 2, (0, 0, 0, 0)) := rfl
theorem r84_10 (d : Nat) (v : Int32) (l0 l1 l3 l4 : Option Value) (st : List Value) (h : tm_H) (K : Option Value → tm_H → Prop) : tm_A d 84 10 [l0, l1, some (.int v), l3, l4] st h K ↔ tm_A d 84 11 [l0, l1, some (.int v), l3, l4] (.int v :: st) h K := tm_s o84_10 rfl rfl rfl
theorem o84_11 : tm_op 84 11 = some (.putfield 13, (0, 8, 1, 0)) := rfl
theorem r84_11 (d : Nat) (v : Int32) (a : Nat) (ls : tm_Lo) (st : List Value) (G : tm_G) (I : Nat → Nat → Int32) (J : Nat → Nat → Int64) (R : Nat → Nat → Option Nat) (K : Option Value → tm_H → Prop) : tm_A d 84 11 ls (.int v :: .ref a :: st) (G, I, J, R) K ↔ G.2.2 a = (0, 8) ∧ tm_A d 84 14 ls st (G, up2 I a 1 v, J, R) K := tm_putI o84_11
theorem o84_14 : tm_op 84 14 = some (.aload_n 0, (0, 0, 0, 0)) := rfl
theorem r84_14 (d : Nat) (v : Nat) (l1 l2 l3 l4 : Option Value) (st : List Value) (h : tm_H) (K : Option Value → tm_H → Prop) : tm_A d 84 14 [some (.ref v), l1, l2, l3, l4] st h K ↔ tm_A d 84 15 [some (.ref v), l1, l2, l3, l4] (.ref v :: st) h K := tm_s o84_14 rfl rfl rfl
theorem o84_15 : tm_op 84 15 = some (.iload_n 3, (0, 0, 0, 0)) := rfl
theorem r84_15 (d : Nat) (v : Int32) (l0 l1 l2 l4 : Option Value) (st : List Value) (h : tm_H) (K : Option Value → tm_H → Prop) : tm_A d 84 15 [l0, l1, l2, some (.int v), l4] st h K ↔ tm_A d 84 16 [l0, l1, l2, some (.int v), l4] (.int v :: st) h K := tm_s o84_15 rfl rfl rfl
theorem o84_16 : tm_op 84 16 = some (.putfield 16, (0, 8, 2, 0)) := rfl
theorem r84_16 (d : Nat) (v : Int32) (a : Nat) (ls : tm_Lo) (st : List Value) (G : tm_G) (I : Nat → Nat → Int32) (J : Nat → Nat → Int64) (R : Nat → Nat → Option Nat) (K : Option Value → tm_H → Prop) : tm_A d 84 16 ls (.int v :: .ref a :: st) (G, I, J, R) K ↔ G.2.2 a = (0, 8) ∧ tm_A d 84 19 ls st (G, up2 I a 2 v, J, R) K := tm_putI o84_16
theorem o84_19 : tm_op 84 19 = some (.aload_n 0, (0, 0, 0, 0)) := rfl
theorem r84_19 (d : Nat) (v : Nat) (l1 l2 l3 l4 : Option Value) (st : List Value) (h : tm_H) (K : Option Value → tm_H → Prop) : tm_A d 84 19 [some (.ref v), l1, l2, l3, l4] st h K ↔ tm_A d 84 20 [some (.ref v), l1, l2, l3, l4] (.ref v :: st) h K := tm_s o84_19 rfl rfl rfl
theorem o84_20 : tm_op 84 20 = some (.aload 4, (0, 0, 0, 0)) := rfl
theorem r84_20 (d : Nat) (v : Nat) (l0 l1 l2 l3 : Option Value) (st : List Value) (h : tm_H) (K : Option Value → tm_H → Prop) : tm_A d 84 20 [l0, l1, l2, l3, some (.ref v)] st h K ↔ tm_A d 84 22 [l0, l1, l2, l3, some (.ref v)] (.ref v :: st) h K := tm_s o84_20 rfl rfl rfl
theorem r84_20n (d : Nat)  (l0 l1 l2 l3 : Option Value) (st : List Value) (h : tm_H) (K : Option Value → tm_H → Prop) : tm_A d 84 20 [l0, l1, l2, l3, some .null] st h K ↔ tm_A d 84 22 [l0, l1, l2, l3, some .null] (.null :: st) h K := tm_s o84_20 rfl rfl rfl
theorem o84_22 : tm_op 84 22 = some (.putfield 19, (2, 8, 3, 0)) := rfl
theorem r84_22 (d : Nat) (v : Nat) (a : Nat) (ls : tm_Lo) (st : List Value) (G : tm_G) (I : Nat → Nat → Int32) (J : Nat → Nat → Int64) (R : Nat → Nat → Option Nat) (K : Option Value → tm_H → Prop) : tm_A d 84 22 ls (.ref v :: .ref a :: st) (G, I, J, R) K ↔ G.2.2 a = (0, 8) ∧ tm_A d 84 25 ls st (G, I, J, up2 R a 3 (some v)) K := tm_putR o84_22
theorem o84_25 : tm_op 84 25 = some (.return_, (0, 0, 0, 0)) := rfl
theorem r84_25 (d : Nat) (ls : tm_Lo) (h : tm_H) (K : Option Value → tm_H → Prop) : tm_A d 84 25 ls [] h K ↔ K none h := tm_retv o84_25 rfl
