theorem o0_0 : tm_op 0 0 = some (.aload_n 0, (0, 0, 0, 0)) := rfl
theorem r0_0 (d : Nat) (v : Nat) (st : List Value) (h : tm_H) (K : Option Value → tm_H → Prop) : tm_A d 0 0 [some (.ref v)] st h K ↔ tm_A d 0 1 [some (.ref v)] (.ref v :: st) h K := tm_s o0_0 rfl rfl rfl
theorem o0_1 : tm_op 0 1 = some (.invokespecial 3, (4, 0, 0, 0)) := rfl
theorem r0_1 (d : Nat) (a : Nat) (ls : tm_Lo) (st : List Value) (h : tm_H) (K : Option Value → tm_H → Prop) : tm_A (d + 1) 0 1 ls (.ref a :: st) h K ↔ tm_cs st ∧ tm_A (d + 1) 0 4 ls st h K := tm_obj o0_1 rfl rfl
theorem o0_4 : tm_op 0 4 = some (.aload_n 0, (0, 0, 0, 0)) := rfl
theorem r0_4 (d : Nat) (v : Nat) (st : List Value) (h : tm_H) (K : Option Value → tm_H → Prop) : tm_A d 0 4 [some (.ref v)] st h K ↔ tm_A d 0 5 [some (.ref v)] (.ref v :: st) h K := tm_s o0_4 rfl rfl rfl
theorem o0_5 : tm_op 0 5 = some (.iconst 0, (0, 0, 0, 0)) := rfl
theorem r0_5 (d : Nat) (ls : tm_Lo) (st : List Value) (h : tm_H) (K : Option Value → tm_H → Prop) : tm_A d 0 5 ls st h K ↔ tm_A d 0 6 ls (.int (0 : Int32) :: st) h K := tm_ic o0_5 (by decide)
theorem o0_6 : tm_op 0 6 = some (.putfield 9, (0, 0, 0, 0)) := rfl
theorem r0_6 (d : Nat) (v : Int32) (a : Nat) (ls : tm_Lo) (st : List Value) (G : tm_G) (I : Nat → Nat → Int32) (J : Nat → Nat → Int64) (R : Nat → Nat → Option Nat) (K : Option Value → tm_H → Prop) : tm_A d 0 6 ls (.int v :: .ref a :: st) (G, I, J, R) K ↔ G.2.2 a = (0, 0) ∧ tm_A d 0 9 ls st (G, up2 I a 0 v, J, R) K := tm_putI o0_6
theorem o0_9 : tm_op 0 9 = some (.aload_n 0, (0, 0, 0, 0)) := rfl
theorem r0_9 (d : Nat) (v : Nat) (st : List Value) (h : tm_H) (K : Option Value → tm_H → Prop) : tm_A d 0 9 [some (.ref v)] st h K ↔ tm_A d 0 10 [some (.ref v)] (.ref v :: st) h K := tm_s o0_9 rfl rfl rfl
theorem o0_10 : tm_op 0 10 = some (.iconst 0, (0, 0, 0, 0)) := rfl
theorem r0_10 (d : Nat) (ls : tm_Lo) (st : List Value) (h : tm_H) (K : Option Value → tm_H → Prop) : tm_A d 0 10 ls st h K ↔ tm_A d 0 11 ls (.int (0 : Int32) :: st) h K := tm_ic o0_10 (by decide)
theorem o0_11 : tm_op 0 11 = some (.putfield 15, (0, 0, 1, 0)) := rfl
theorem r0_11 (d : Nat) (v : Int32) (a : Nat) (ls : tm_Lo) (st : List Value) (G : tm_G) (I : Nat → Nat → Int32) (J : Nat → Nat → Int64) (R : Nat → Nat → Option Nat) (K : Option Value → tm_H → Prop) : tm_A d 0 11 ls (.int v :: .ref a :: st) (G, I, J, R) K ↔ G.2.2 a = (0, 0) ∧ tm_A d 0 14 ls st (G, up2 I a 1 v, J, R) K := tm_putI o0_11
theorem o0_14 : tm_op 0 14 = some (.aload_n 0, (0, 0, 0, 0)) := rfl
theorem r0_14 (d : Nat) (v : Nat) (st : List Value) (h : tm_H) (K : Option Value → tm_H → Prop) : tm_A d 0 14 [some (.ref v)] st h K ↔ tm_A d 0 15 [some (.ref v)] (.ref v :: st) h K := tm_s o0_14 rfl rfl rfl
theorem o0_15 : tm_op 0 15 = some (.iconst 5, (0, 0, 0, 0)) := rfl
theorem r0_15 (d : Nat) (ls : tm_Lo) (st : List Value) (h : tm_H) (K : Option Value → tm_H → Prop) : tm_A d 0 15 ls st h K ↔ tm_A d 0 16 ls (.int (5 : Int32) :: st) h K := tm_ic o0_15 (by decide)
theorem o0_16 : tm_op 0 16 = some (.newarray .int, (1, 0, 0, 0)) := rfl
theorem r0_16 (d : Nat) (v : Int32) (ls : tm_Lo) (st : List Value) (G : tm_G) (I : Nat → Nat → Int32) (J : Nat → Nat → Int64) (R : Nat → Nat → Option Nat) (K : Option Value → tm_H → Prop) : tm_A d 0 16 ls (.int v :: st) (G, I, J, R) K ↔ (¬ v < 0 ∧ (tm_ix v) ≤ 100000) ∧ tm_A d 0 18 ls (.ref G.1 :: st) (tm_nw (1, (tm_ix v)) (tm_ix v) (G, I, J, R)) K := tm_newa o0_16
theorem o0_18 : tm_op 0 18 = some (.putfield 18, (2, 0, 2, 0)) := rfl
theorem r0_18 (d : Nat) (v : Nat) (a : Nat) (ls : tm_Lo) (st : List Value) (G : tm_G) (I : Nat → Nat → Int32) (J : Nat → Nat → Int64) (R : Nat → Nat → Option Nat) (K : Option Value → tm_H → Prop) : tm_A d 0 18 ls (.ref v :: .ref a :: st) (G, I, J, R) K ↔ G.2.2 a = (0, 0) ∧ tm_A d 0 21 ls st (G, I, J, up2 R a 2 (some v)) K := tm_putR o0_18
theorem o0_21 : tm_op 0 21 = some (.aload_n 0, (0, 0, 0, 0)) := rfl
theorem r0_21 (d : Nat) (v : Nat) (st : List Value) (h : tm_H) (K : Option Value → tm_H → Prop) : tm_A d 0 21 [some (.ref v)] st h K ↔ tm_A d 0 22 [some (.ref v)] (.ref v :: st) h K := tm_s o0_21 rfl rfl rfl
theorem o0_22 : tm_op 0 22 = some (.iconst 3, (0, 0, 0, 0)) := rfl
theorem r0_22 (d : Nat) (ls : tm_Lo) (st : List Value) (h : tm_H) (K : Option Value → tm_H → Prop) : tm_A d 0 22 ls st h K ↔ tm_A d 0 23 ls (.int (3 : Int32) :: st) h K := tm_ic o0_22 (by decide)
theorem o0_23 : tm_op 0 23 = some (.newarray .int, (1, 0, 0, 0)) := rfl
theorem r0_23 (d : Nat) (v : Int32) (ls : tm_Lo) (st : List Value) (G : tm_G) (I : Nat → Nat → Int32) (J : Nat → Nat → Int64) (R : Nat → Nat → Option Nat) (K : Option Value → tm_H → Prop) : tm_A d 0 23 ls (.int v :: st) (G, I, J, R) K ↔ (¬ v < 0 ∧ (tm_ix v) ≤ 100000) ∧ tm_A d 0 25 ls (.ref G.1 :: st) (tm_nw (1, (tm_ix v)) (tm_ix v) (G, I, J, R)) K := tm_newa o0_23
theorem o0_25 : tm_op 0 25 = some (.putfield 22, (2, 0, 3, 0)) := rfl
theorem r0_25 (d : Nat) (v : Nat) (a : Nat) (ls : tm_Lo) (st : List Value) (G : tm_G) (I : Nat → Nat → Int32) (J : Nat → Nat → Int64) (R : Nat → Nat → Option Nat) (K : Option Value → tm_H → Prop) : tm_A d 0 25 ls (.ref v :: .ref a :: st) (G, I, J, R) K ↔ G.2.2 a = (0, 0) ∧ tm_A d 0 28 ls st (G, I, J, up2 R a 3 (some v)) K := tm_putR o0_25
theorem o0_28 : tm_op 0 28 = some (.return_, (0, 0, 0, 0)) := rfl
theorem r0_28 (d : Nat) (ls : tm_Lo) (h : tm_H) (K : Option Value → tm_H → Prop) : tm_A d 0 28 ls [] h K ↔ K none h := tm_retv o0_28 rfl
theorem o1_0 : tm_op 1 0 = some (.aload_n 0, (0, 0, 0, 0)) := rfl
theorem r1_0 (d : Nat) (v : Nat) (st : List Value) (h : tm_H) (K : Option Value → tm_H → Prop) : tm_A d 1 0 [some (.ref v)] st h K ↔ tm_A d 1 1 [some (.ref v)] (.ref v :: st) h K := tm_s o1_0 rfl rfl rfl
theorem o1_1 : tm_op 1 1 = some (.iconst 0, (0, 0, 0, 0)) := rfl
theorem r1_1 (d : Nat) (ls : tm_Lo) (st : List Value) (h : tm_H) (K : Option Value → tm_H → Prop) : tm_A d 1 1 ls st h K ↔ tm_A d 1 2 ls (.int (0 : Int32) :: st) h K := tm_ic o1_1 (by decide)
theorem o1_2 : tm_op 1 2 = some (.putfield 9, (0, 0, 0, 0)) := rfl
theorem r1_2 (d : Nat) (v : Int32) (a : Nat) (ls : tm_Lo) (st : List Value) (G : tm_G) (I : Nat → Nat → Int32) (J : Nat → Nat → Int64) (R : Nat → Nat → Option Nat) (K : Option Value → tm_H → Prop) : tm_A d 1 2 ls (.int v :: .ref a :: st) (G, I, J, R) K ↔ G.2.2 a = (0, 0) ∧ tm_A d 1 5 ls st (G, up2 I a 0 v, J, R) K := tm_putI o1_2
theorem o1_5 : tm_op 1 5 = some (.aload_n 0, (0, 0, 0, 0)) := rfl
theorem r1_5 (d : Nat) (v : Nat) (st : List Value) (h : tm_H) (K : Option Value → tm_H → Prop) : tm_A d 1 5 [some (.ref v)] st h K ↔ tm_A d 1 6 [some (.ref v)] (.ref v :: st) h K := tm_s o1_5 rfl rfl rfl
theorem o1_6 : tm_op 1 6 = some (.getfield 18, (2, 0, 2, 0)) := rfl
theorem r1_6 (d : Nat) (a : Nat) (ls : tm_Lo) (st : List Value) (G : tm_G) (I : Nat → Nat → Int32) (J : Nat → Nat → Int64) (R : Nat → Nat → Option Nat) (K : Option Value → tm_H → Prop) : tm_A d 1 6 ls (.ref a :: st) (G, I, J, R) K ↔ G.2.2 a = (0, 0) ∧ tm_A d 1 9 ls (tm_rf (R a 2) :: st) (G, I, J, R) K := tm_getR o1_6
theorem o1_9 : tm_op 1 9 = some (.iconst 3, (0, 0, 0, 0)) := rfl
theorem r1_9 (d : Nat) (ls : tm_Lo) (st : List Value) (h : tm_H) (K : Option Value → tm_H → Prop) : tm_A d 1 9 ls st h K ↔ tm_A d 1 10 ls (.int (3 : Int32) :: st) h K := tm_ic o1_9 (by decide)
theorem o1_10 : tm_op 1 10 = some (.iconst 0, (0, 0, 0, 0)) := rfl
theorem r1_10 (d : Nat) (ls : tm_Lo) (st : List Value) (h : tm_H) (K : Option Value → tm_H → Prop) : tm_A d 1 10 ls st h K ↔ tm_A d 1 11 ls (.int (0 : Int32) :: st) h K := tm_ic o1_10 (by decide)
theorem o1_11 : tm_op 1 11 = some (.iastore, (0, 0, 0, 0)) := rfl
theorem r1_11 (d : Nat) (u v : Int32) (a : Nat) (ls : tm_Lo) (st : List Value) (G : tm_G) (I : Nat → Nat → Int32) (J : Nat → Nat → Int64) (R : Nat → Nat → Option Nat) (K : Option Value → tm_H → Prop) : tm_A d 1 11 ls (.int u :: .int v :: .ref a :: st) (G, I, J, R) K ↔ (3 ≤ a ∧ (G.2.2 a).1 = 1 ∧ tm_in v (G.2.2 a).2) ∧ tm_A d 1 12 ls st (G, up2 I a (tm_ix v) u, J, R) K := tm_iast o1_11
theorem o1_12 : tm_op 1 12 = some (.return_, (0, 0, 0, 0)) := rfl
theorem r1_12 (d : Nat) (ls : tm_Lo) (h : tm_H) (K : Option Value → tm_H → Prop) : tm_A d 1 12 ls [] h K ↔ K none h := tm_retv o1_12 rfl
theorem o2_0 : tm_op 2 0 = some (.aload_n 0, (0, 0, 0, 0)) := rfl
theorem r2_0 (d : Nat) (v : Nat) (st : List Value) (h : tm_H) (K : Option Value → tm_H → Prop) : tm_A d 2 0 [some (.ref v)] st h K ↔ tm_A d 2 1 [some (.ref v)] (.ref v :: st) h K := tm_s o2_0 rfl rfl rfl
theorem o2_1 : tm_op 2 1 = some (.getfield 9, (0, 0, 0, 0)) := rfl
theorem r2_1 (d : Nat) (a : Nat) (ls : tm_Lo) (st : List Value) (G : tm_G) (I : Nat → Nat → Int32) (J : Nat → Nat → Int64) (R : Nat → Nat → Option Nat) (K : Option Value → tm_H → Prop) : tm_A d 2 1 ls (.ref a :: st) (G, I, J, R) K ↔ G.2.2 a = (0, 0) ∧ tm_A d 2 4 ls (.int (I a 0) :: st) (G, I, J, R) K := tm_getI o2_1
theorem o2_4 : tm_op 2 4 = some (.ireturn, (0, 0, 0, 0)) := rfl
theorem r2_4 (d : Nat) (v : Int32) (ls : tm_Lo) (h : tm_H) (K : Option Value → tm_H → Prop) : tm_A d 2 4 ls [.int v] h K ↔ K (some (.int v)) h := tm_reti o2_4 rfl
theorem o3_0 : tm_op 3 0 = some (.iload_n 1, (0, 0, 0, 0)) := rfl
theorem r3_0 (d : Nat) (v : Int32) (l0 : Option Value) (st : List Value) (h : tm_H) (K : Option Value → tm_H → Prop) : tm_A d 3 0 [l0, some (.int v)] st h K ↔ tm_A d 3 1 [l0, some (.int v)] (.int v :: st) h K := tm_s o3_0 rfl rfl rfl
theorem o3_1 : tm_op 3 1 = some (.ifCond .lt 24, (0, 0, 0, 0)) := rfl
theorem r3_1 (d : Nat) (x : Int32) (ls : tm_Lo) (st : List Value) (h : tm_H) (K : Option Value → tm_H → Prop) : tm_A d 3 1 ls (.int x :: st) h K ↔ if x < 0 then tm_A d 3 25 ls st h K else tm_A d 3 4 ls st h K := tm_b o3_1 rfl rfl rfl rfl
theorem o3_4 : tm_op 3 4 = some (.iload_n 1, (0, 0, 0, 0)) := rfl
theorem r3_4 (d : Nat) (v : Int32) (l0 : Option Value) (st : List Value) (h : tm_H) (K : Option Value → tm_H → Prop) : tm_A d 3 4 [l0, some (.int v)] st h K ↔ tm_A d 3 5 [l0, some (.int v)] (.int v :: st) h K := tm_s o3_4 rfl rfl rfl
theorem o3_5 : tm_op 3 5 = some (.iconst 5, (0, 0, 0, 0)) := rfl
theorem r3_5 (d : Nat) (ls : tm_Lo) (st : List Value) (h : tm_H) (K : Option Value → tm_H → Prop) : tm_A d 3 5 ls st h K ↔ tm_A d 3 6 ls (.int (5 : Int32) :: st) h K := tm_ic o3_5 (by decide)
theorem o3_6 : tm_op 3 6 = some (.if_icmp .ge 19, (0, 0, 0, 0)) := rfl
theorem r3_6 (d : Nat) (y x : Int32) (ls : tm_Lo) (st : List Value) (h : tm_H) (K : Option Value → tm_H → Prop) : tm_A d 3 6 ls (.int y :: .int x :: st) h K ↔ if y ≤ x then tm_A d 3 25 ls st h K else tm_A d 3 9 ls st h K := tm_b o3_6 rfl rfl rfl rfl
theorem o3_9 : tm_op 3 9 = some (.aload_n 0, (0, 0, 0, 0)) := rfl
theorem r3_9 (d : Nat) (v : Nat) (l1 : Option Value) (st : List Value) (h : tm_H) (K : Option Value → tm_H → Prop) : tm_A d 3 9 [some (.ref v), l1] st h K ↔ tm_A d 3 10 [some (.ref v), l1] (.ref v :: st) h K := tm_s o3_9 rfl rfl rfl
theorem o3_10 : tm_op 3 10 = some (.getfield 9, (0, 0, 0, 0)) := rfl
theorem r3_10 (d : Nat) (a : Nat) (ls : tm_Lo) (st : List Value) (G : tm_G) (I : Nat → Nat → Int32) (J : Nat → Nat → Int64) (R : Nat → Nat → Option Nat) (K : Option Value → tm_H → Prop) : tm_A d 3 10 ls (.ref a :: st) (G, I, J, R) K ↔ G.2.2 a = (0, 0) ∧ tm_A d 3 13 ls (.int (I a 0) :: st) (G, I, J, R) K := tm_getI o3_10
theorem o3_13 : tm_op 3 13 = some (.iload_n 1, (0, 0, 0, 0)) := rfl
theorem r3_13 (d : Nat) (v : Int32) (l0 : Option Value) (st : List Value) (h : tm_H) (K : Option Value → tm_H → Prop) : tm_A d 3 13 [l0, some (.int v)] st h K ↔ tm_A d 3 14 [l0, some (.int v)] (.int v :: st) h K := tm_s o3_13 rfl rfl rfl
theorem o3_14 : tm_op 3 14 = some (.ishr, (0, 0, 0, 0)) := rfl
theorem r3_14 (d : Nat) (u v : Int32) (ls : tm_Lo) (st : List Value) (h : tm_H) (K : Option Value → tm_H → Prop) : tm_A d 3 14 ls (.int u :: .int v :: st) h K ↔ tm_A d 3 15 ls (.int (v >>> (u &&& 31)) :: st) h K := tm_s o3_14 rfl rfl rfl
theorem o3_15 : tm_op 3 15 = some (.iconst 1, (0, 0, 0, 0)) := rfl
theorem r3_15 (d : Nat) (ls : tm_Lo) (st : List Value) (h : tm_H) (K : Option Value → tm_H → Prop) : tm_A d 3 15 ls st h K ↔ tm_A d 3 16 ls (.int (1 : Int32) :: st) h K := tm_ic o3_15 (by decide)
theorem o3_16 : tm_op 3 16 = some (.iand, (0, 0, 0, 0)) := rfl
theorem r3_16 (d : Nat) (u v : Int32) (ls : tm_Lo) (st : List Value) (h : tm_H) (K : Option Value → tm_H → Prop) : tm_A d 3 16 ls (.int u :: .int v :: st) h K ↔ tm_A d 3 17 ls (.int (v &&& u) :: st) h K := tm_s o3_16 rfl rfl rfl
theorem o3_17 : tm_op 3 17 = some (.iconst 1, (0, 0, 0, 0)) := rfl
theorem r3_17 (d : Nat) (ls : tm_Lo) (st : List Value) (h : tm_H) (K : Option Value → tm_H → Prop) : tm_A d 3 17 ls st h K ↔ tm_A d 3 18 ls (.int (1 : Int32) :: st) h K := tm_ic o3_17 (by decide)
theorem o3_18 : tm_op 3 18 = some (.if_icmp .ne 7, (0, 0, 0, 0)) := rfl
theorem r3_18 (d : Nat) (y x : Int32) (ls : tm_Lo) (st : List Value) (h : tm_H) (K : Option Value → tm_H → Prop) : tm_A d 3 18 ls (.int y :: .int x :: st) h K ↔ if ¬ x = y then tm_A d 3 25 ls st h K else tm_A d 3 21 ls st h K := tm_b o3_18 rfl rfl rfl rfl
theorem o3_21 : tm_op 3 21 = some (.iconst 1, (0, 0, 0, 0)) := rfl
theorem r3_21 (d : Nat) (ls : tm_Lo) (st : List Value) (h : tm_H) (K : Option Value → tm_H → Prop) : tm_A d 3 21 ls st h K ↔ tm_A d 3 22 ls (.int (1 : Int32) :: st) h K := tm_ic o3_21 (by decide)
theorem o3_22 : tm_op 3 22 = some (.goto 4, (0, 0, 0, 0)) := rfl
theorem r3_22 (d : Nat) (ls : tm_Lo) (st : List Value) (h : tm_H) (K : Option Value → tm_H → Prop) : tm_A d 3 22 ls st h K ↔ tm_A d 3 26 ls st h K := tm_s o3_22 rfl rfl rfl
theorem o3_25 : tm_op 3 25 = some (.iconst 0, (0, 0, 0, 0)) := rfl
theorem r3_25 (d : Nat) (ls : tm_Lo) (st : List Value) (h : tm_H) (K : Option Value → tm_H → Prop) : tm_A d 3 25 ls st h K ↔ tm_A d 3 26 ls (.int (0 : Int32) :: st) h K := tm_ic o3_25 (by decide)
theorem o3_26 : tm_op 3 26 = some (.ireturn, (0, 0, 0, 0)) := rfl
theorem r3_26 (d : Nat) (v : Int32) (ls : tm_Lo) (h : tm_H) (K : Option Value → tm_H → Prop) : tm_A d 3 26 ls [.int v] h K ↔ (v = 0 ∨ v = 1) ∧ K (some (.int v)) h := tm_retz o3_26 rfl
theorem o4_0 : tm_op 4 0 = some (.aload_n 0, (0, 0, 0, 0)) := rfl
theorem r4_0 (d : Nat) (v : Nat) (l1 : Option Value) (st : List Value) (h : tm_H) (K : Option Value → tm_H → Prop) : tm_A d 4 0 [some (.ref v), l1] st h K ↔ tm_A d 4 1 [some (.ref v), l1] (.ref v :: st) h K := tm_s o4_0 rfl rfl rfl
theorem o4_1 : tm_op 4 1 = some (.iload_n 1, (0, 0, 0, 0)) := rfl
theorem r4_1 (d : Nat) (v : Int32) (l0 : Option Value) (st : List Value) (h : tm_H) (K : Option Value → tm_H → Prop) : tm_A d 4 1 [l0, some (.int v)] st h K ↔ tm_A d 4 2 [l0, some (.int v)] (.int v :: st) h K := tm_s o4_1 rfl rfl rfl
theorem o4_2 : tm_op 4 2 = some (.invokevirtual 25, (2, 3, 2, 0)) := rfl
theorem r4_2 (d : Nat) (v1 : Int32) (a : Nat) (ls : tm_Lo) (st : List Value) (h : tm_H) (K : Option Value → tm_H → Prop) : tm_A (d + 1) 4 2 ls (.int v1 :: .ref a :: st) h K ↔ (h.1.2.2 a = (0, 0) ∧ tm_cs st) ∧ tm_R d 3 [.ref a, .int v1] h (fun r h' => tm_A (d + 1) 4 5 ls (r.toList ++ st) h' K) := tm_callV (as := [.int v1]) o4_2 rfl rfl rfl rfl
theorem o4_5 : tm_op 4 5 = some (.ifCond .eq 12, (0, 0, 0, 0)) := rfl
theorem r4_5 (d : Nat) (x : Int32) (ls : tm_Lo) (st : List Value) (h : tm_H) (K : Option Value → tm_H → Prop) : tm_A d 4 5 ls (.int x :: st) h K ↔ if x = 0 then tm_A d 4 17 ls st h K else tm_A d 4 8 ls st h K := tm_b o4_5 rfl rfl rfl rfl
theorem o4_8 : tm_op 4 8 = some (.aload_n 0, (0, 0, 0, 0)) := rfl
theorem r4_8 (d : Nat) (v : Nat) (l1 : Option Value) (st : List Value) (h : tm_H) (K : Option Value → tm_H → Prop) : tm_A d 4 8 [some (.ref v), l1] st h K ↔ tm_A d 4 9 [some (.ref v), l1] (.ref v :: st) h K := tm_s o4_8 rfl rfl rfl
theorem o4_9 : tm_op 4 9 = some (.getfield 18, (2, 0, 2, 0)) := rfl
theorem r4_9 (d : Nat) (a : Nat) (ls : tm_Lo) (st : List Value) (G : tm_G) (I : Nat → Nat → Int32) (J : Nat → Nat → Int64) (R : Nat → Nat → Option Nat) (K : Option Value → tm_H → Prop) : tm_A d 4 9 ls (.ref a :: st) (G, I, J, R) K ↔ G.2.2 a = (0, 0) ∧ tm_A d 4 12 ls (tm_rf (R a 2) :: st) (G, I, J, R) K := tm_getR o4_9
theorem o4_12 : tm_op 4 12 = some (.iload_n 1, (0, 0, 0, 0)) := rfl
theorem r4_12 (d : Nat) (v : Int32) (l0 : Option Value) (st : List Value) (h : tm_H) (K : Option Value → tm_H → Prop) : tm_A d 4 12 [l0, some (.int v)] st h K ↔ tm_A d 4 13 [l0, some (.int v)] (.int v :: st) h K := tm_s o4_12 rfl rfl rfl
theorem o4_13 : tm_op 4 13 = some (.iaload, (0, 0, 0, 0)) := rfl
theorem r4_13 (d : Nat) (v : Int32) (a : Nat) (ls : tm_Lo) (st : List Value) (G : tm_G) (I : Nat → Nat → Int32) (J : Nat → Nat → Int64) (R : Nat → Nat → Option Nat) (K : Option Value → tm_H → Prop) : tm_A d 4 13 ls (.int v :: .ref a :: st) (G, I, J, R) K ↔ ((G.2.2 a).1 = 1 ∧ tm_in v (G.2.2 a).2) ∧ tm_A d 4 14 ls (.int (I a (tm_ix v)) :: st) (G, I, J, R) K := tm_iald o4_13
theorem o4_14 : tm_op 4 14 = some (.goto 4, (0, 0, 0, 0)) := rfl
theorem r4_14 (d : Nat) (ls : tm_Lo) (st : List Value) (h : tm_H) (K : Option Value → tm_H → Prop) : tm_A d 4 14 ls st h K ↔ tm_A d 4 18 ls st h K := tm_s o4_14 rfl rfl rfl
theorem o4_17 : tm_op 4 17 = some (.iconst (-1), (0, 0, 0, 0)) := rfl
theorem r4_17 (d : Nat) (ls : tm_Lo) (st : List Value) (h : tm_H) (K : Option Value → tm_H → Prop) : tm_A d 4 17 ls st h K ↔ tm_A d 4 18 ls (.int (-1 : Int32) :: st) h K := tm_ic o4_17 (by decide)
theorem o4_18 : tm_op 4 18 = some (.ireturn, (0, 0, 0, 0)) := rfl
theorem r4_18 (d : Nat) (v : Int32) (ls : tm_Lo) (h : tm_H) (K : Option Value → tm_H → Prop) : tm_A d 4 18 ls [.int v] h K ↔ K (some (.int v)) h := tm_reti o4_18 rfl
theorem o5_0 : tm_op 5 0 = some (.aload_n 0, (0, 0, 0, 0)) := rfl
theorem r5_0 (d : Nat) (v : Nat) (st : List Value) (h : tm_H) (K : Option Value → tm_H → Prop) : tm_A d 5 0 [some (.ref v)] st h K ↔ tm_A d 5 1 [some (.ref v)] (.ref v :: st) h K := tm_s o5_0 rfl rfl rfl
theorem o5_1 : tm_op 5 1 = some (.iconst 2, (0, 0, 0, 0)) := rfl
theorem r5_1 (d : Nat) (ls : tm_Lo) (st : List Value) (h : tm_H) (K : Option Value → tm_H → Prop) : tm_A d 5 1 ls st h K ↔ tm_A d 5 2 ls (.int (2 : Int32) :: st) h K := tm_ic o5_1 (by decide)
theorem o5_2 : tm_op 5 2 = some (.invokevirtual 25, (2, 3, 2, 0)) := rfl
theorem r5_2 (d : Nat) (v1 : Int32) (a : Nat) (ls : tm_Lo) (st : List Value) (h : tm_H) (K : Option Value → tm_H → Prop) : tm_A (d + 1) 5 2 ls (.int v1 :: .ref a :: st) h K ↔ (h.1.2.2 a = (0, 0) ∧ tm_cs st) ∧ tm_R d 3 [.ref a, .int v1] h (fun r h' => tm_A (d + 1) 5 5 ls (r.toList ++ st) h' K) := tm_callV (as := [.int v1]) o5_2 rfl rfl rfl rfl
theorem o5_5 : tm_op 5 5 = some (.ifCond .eq 10, (0, 0, 0, 0)) := rfl
theorem r5_5 (d : Nat) (x : Int32) (ls : tm_Lo) (st : List Value) (h : tm_H) (K : Option Value → tm_H → Prop) : tm_A d 5 5 ls (.int x :: st) h K ↔ if x = 0 then tm_A d 5 15 ls st h K else tm_A d 5 8 ls st h K := tm_b o5_5 rfl rfl rfl rfl
theorem o5_8 : tm_op 5 8 = some (.aload_n 0, (0, 0, 0, 0)) := rfl
theorem r5_8 (d : Nat) (v : Nat) (st : List Value) (h : tm_H) (K : Option Value → tm_H → Prop) : tm_A d 5 8 [some (.ref v)] st h K ↔ tm_A d 5 9 [some (.ref v)] (.ref v :: st) h K := tm_s o5_8 rfl rfl rfl
theorem o5_9 : tm_op 5 9 = some (.getfield 15, (0, 0, 1, 0)) := rfl
theorem r5_9 (d : Nat) (a : Nat) (ls : tm_Lo) (st : List Value) (G : tm_G) (I : Nat → Nat → Int32) (J : Nat → Nat → Int64) (R : Nat → Nat → Option Nat) (K : Option Value → tm_H → Prop) : tm_A d 5 9 ls (.ref a :: st) (G, I, J, R) K ↔ G.2.2 a = (0, 0) ∧ tm_A d 5 12 ls (.int (I a 1) :: st) (G, I, J, R) K := tm_getI o5_9
theorem o5_12 : tm_op 5 12 = some (.goto 4, (0, 0, 0, 0)) := rfl
theorem r5_12 (d : Nat) (ls : tm_Lo) (st : List Value) (h : tm_H) (K : Option Value → tm_H → Prop) : tm_A d 5 12 ls st h K ↔ tm_A d 5 16 ls st h K := tm_s o5_12 rfl rfl rfl
theorem o5_15 : tm_op 5 15 = some (.iconst (-1), (0, 0, 0, 0)) := rfl
theorem r5_15 (d : Nat) (ls : tm_Lo) (st : List Value) (h : tm_H) (K : Option Value → tm_H → Prop) : tm_A d 5 15 ls st h K ↔ tm_A d 5 16 ls (.int (-1 : Int32) :: st) h K := tm_ic o5_15 (by decide)
theorem o5_16 : tm_op 5 16 = some (.ireturn, (0, 0, 0, 0)) := rfl
theorem r5_16 (d : Nat) (v : Int32) (ls : tm_Lo) (h : tm_H) (K : Option Value → tm_H → Prop) : tm_A d 5 16 ls [.int v] h K ↔ K (some (.int v)) h := tm_reti o5_16 rfl
theorem o6_0 : tm_op 6 0 = some (.iload_n 1, (0, 0, 0, 0)) := rfl
theorem r6_0 (d : Nat) (v : Int32) (l0 : Option Value) (st : List Value) (h : tm_H) (K : Option Value → tm_H → Prop) : tm_A d 6 0 [l0, some (.int v)] st h K ↔ tm_A d 6 1 [l0, some (.int v)] (.int v :: st) h K := tm_s o6_0 rfl rfl rfl
theorem o6_1 : tm_op 6 1 = some (.ifCond .lt 27, (0, 0, 0, 0)) := rfl
theorem r6_1 (d : Nat) (x : Int32) (ls : tm_Lo) (st : List Value) (h : tm_H) (K : Option Value → tm_H → Prop) : tm_A d 6 1 ls (.int x :: st) h K ↔ if x < 0 then tm_A d 6 28 ls st h K else tm_A d 6 4 ls st h K := tm_b o6_1 rfl rfl rfl rfl
theorem o6_4 : tm_op 6 4 = some (.iload_n 1, (0, 0, 0, 0)) := rfl
theorem r6_4 (d : Nat) (v : Int32) (l0 : Option Value) (st : List Value) (h : tm_H) (K : Option Value → tm_H → Prop) : tm_A d 6 4 [l0, some (.int v)] st h K ↔ tm_A d 6 5 [l0, some (.int v)] (.int v :: st) h K := tm_s o6_4 rfl rfl rfl
theorem o6_5 : tm_op 6 5 = some (.iconst 3, (0, 0, 0, 0)) := rfl
theorem r6_5 (d : Nat) (ls : tm_Lo) (st : List Value) (h : tm_H) (K : Option Value → tm_H → Prop) : tm_A d 6 5 ls st h K ↔ tm_A d 6 6 ls (.int (3 : Int32) :: st) h K := tm_ic o6_5 (by decide)
theorem o6_6 : tm_op 6 6 = some (.if_icmp .ge 22, (0, 0, 0, 0)) := rfl
theorem r6_6 (d : Nat) (y x : Int32) (ls : tm_Lo) (st : List Value) (h : tm_H) (K : Option Value → tm_H → Prop) : tm_A d 6 6 ls (.int y :: .int x :: st) h K ↔ if y ≤ x then tm_A d 6 28 ls st h K else tm_A d 6 9 ls st h K := tm_b o6_6 rfl rfl rfl rfl
theorem o6_9 : tm_op 6 9 = some (.iload_n 1, (0, 0, 0, 0)) := rfl
theorem r6_9 (d : Nat) (v : Int32) (l0 : Option Value) (st : List Value) (h : tm_H) (K : Option Value → tm_H → Prop) : tm_A d 6 9 [l0, some (.int v)] st h K ↔ tm_A d 6 10 [l0, some (.int v)] (.int v :: st) h K := tm_s o6_9 rfl rfl rfl
theorem o6_10 : tm_op 6 10 = some (.aload_n 0, (0, 0, 0, 0)) := rfl
theorem r6_10 (d : Nat) (v : Nat) (l1 : Option Value) (st : List Value) (h : tm_H) (K : Option Value → tm_H → Prop) : tm_A d 6 10 [some (.ref v), l1] st h K ↔ tm_A d 6 11 [some (.ref v), l1] (.ref v :: st) h K := tm_s o6_10 rfl rfl rfl
theorem o6_11 : tm_op 6 11 = some (.getfield 18, (2, 0, 2, 0)) := rfl
theorem r6_11 (d : Nat) (a : Nat) (ls : tm_Lo) (st : List Value) (G : tm_G) (I : Nat → Nat → Int32) (J : Nat → Nat → Int64) (R : Nat → Nat → Option Nat) (K : Option Value → tm_H → Prop) : tm_A d 6 11 ls (.ref a :: st) (G, I, J, R) K ↔ G.2.2 a = (0, 0) ∧ tm_A d 6 14 ls (tm_rf (R a 2) :: st) (G, I, J, R) K := tm_getR o6_11
theorem o6_14 : tm_op 6 14 = some (.iconst 3, (0, 0, 0, 0)) := rfl
theorem r6_14 (d : Nat) (ls : tm_Lo) (st : List Value) (h : tm_H) (K : Option Value → tm_H → Prop) : tm_A d 6 14 ls st h K ↔ tm_A d 6 15 ls (.int (3 : Int32) :: st) h K := tm_ic o6_14 (by decide)
theorem o6_15 : tm_op 6 15 = some (.iaload, (0, 0, 0, 0)) := rfl
theorem r6_15 (d : Nat) (v : Int32) (a : Nat) (ls : tm_Lo) (st : List Value) (G : tm_G) (I : Nat → Nat → Int32) (J : Nat → Nat → Int64) (R : Nat → Nat → Option Nat) (K : Option Value → tm_H → Prop) : tm_A d 6 15 ls (.int v :: .ref a :: st) (G, I, J, R) K ↔ ((G.2.2 a).1 = 1 ∧ tm_in v (G.2.2 a).2) ∧ tm_A d 6 16 ls (.int (I a (tm_ix v)) :: st) (G, I, J, R) K := tm_iald o6_15
theorem o6_16 : tm_op 6 16 = some (.if_icmp .ge 12, (0, 0, 0, 0)) := rfl
theorem r6_16 (d : Nat) (y x : Int32) (ls : tm_Lo) (st : List Value) (h : tm_H) (K : Option Value → tm_H → Prop) : tm_A d 6 16 ls (.int y :: .int x :: st) h K ↔ if y ≤ x then tm_A d 6 28 ls st h K else tm_A d 6 19 ls st h K := tm_b o6_16 rfl rfl rfl rfl
theorem o6_19 : tm_op 6 19 = some (.aload_n 0, (0, 0, 0, 0)) := rfl
theorem r6_19 (d : Nat) (v : Nat) (l1 : Option Value) (st : List Value) (h : tm_H) (K : Option Value → tm_H → Prop) : tm_A d 6 19 [some (.ref v), l1] st h K ↔ tm_A d 6 20 [some (.ref v), l1] (.ref v :: st) h K := tm_s o6_19 rfl rfl rfl
theorem o6_20 : tm_op 6 20 = some (.getfield 22, (2, 0, 3, 0)) := rfl
theorem r6_20 (d : Nat) (a : Nat) (ls : tm_Lo) (st : List Value) (G : tm_G) (I : Nat → Nat → Int32) (J : Nat → Nat → Int64) (R : Nat → Nat → Option Nat) (K : Option Value → tm_H → Prop) : tm_A d 6 20 ls (.ref a :: st) (G, I, J, R) K ↔ G.2.2 a = (0, 0) ∧ tm_A d 6 23 ls (tm_rf (R a 3) :: st) (G, I, J, R) K := tm_getR o6_20
theorem o6_23 : tm_op 6 23 = some (.iload_n 1, (0, 0, 0, 0)) := rfl
theorem r6_23 (d : Nat) (v : Int32) (l0 : Option Value) (st : List Value) (h : tm_H) (K : Option Value → tm_H → Prop) : tm_A d 6 23 [l0, some (.int v)] st h K ↔ tm_A d 6 24 [l0, some (.int v)] (.int v :: st) h K := tm_s o6_23 rfl rfl rfl
theorem o6_24 : tm_op 6 24 = some (.iaload, (0, 0, 0, 0)) := rfl
theorem r6_24 (d : Nat) (v : Int32) (a : Nat) (ls : tm_Lo) (st : List Value) (G : tm_G) (I : Nat → Nat → Int32) (J : Nat → Nat → Int64) (R : Nat → Nat → Option Nat) (K : Option Value → tm_H → Prop) : tm_A d 6 24 ls (.int v :: .ref a :: st) (G, I, J, R) K ↔ ((G.2.2 a).1 = 1 ∧ tm_in v (G.2.2 a).2) ∧ tm_A d 6 25 ls (.int (I a (tm_ix v)) :: st) (G, I, J, R) K := tm_iald o6_24
theorem o6_25 : tm_op 6 25 = some (.goto 4, (0, 0, 0, 0)) := rfl
theorem r6_25 (d : Nat) (ls : tm_Lo) (st : List Value) (h : tm_H) (K : Option Value → tm_H → Prop) : tm_A d 6 25 ls st h K ↔ tm_A d 6 29 ls st h K := tm_s o6_25 rfl rfl rfl
theorem o6_28 : tm_op 6 28 = some (.iconst (-1), (0, 0, 0, 0)) := rfl
theorem r6_28 (d : Nat) (ls : tm_Lo) (st : List Value) (h : tm_H) (K : Option Value → tm_H → Prop) : tm_A d 6 28 ls st h K ↔ tm_A d 6 29 ls (.int (-1 : Int32) :: st) h K := tm_ic o6_28 (by decide)
theorem o6_29 : tm_op 6 29 = some (.ireturn, (0, 0, 0, 0)) := rfl
theorem r6_29 (d : Nat) (v : Int32) (ls : tm_Lo) (h : tm_H) (K : Option Value → tm_H → Prop) : tm_A d 6 29 ls [.int v] h K ↔ K (some (.int v)) h := tm_reti o6_29 rfl
theorem o7_0 : tm_op 7 0 = some (.aload_n 0, (0, 0, 0, 0)) := rfl
theorem r7_0 (d : Nat) (v : Nat) (l1 l2 l3 l4 : Option Value) (st : List Value) (h : tm_H) (K : Option Value → tm_H → Prop) : tm_A d 7 0 [some (.ref v), l1, l2, l3, l4] st h K ↔ tm_A d 7 1 [some (.ref v), l1, l2, l3, l4] (.ref v :: st) h K := tm_s o7_0 rfl rfl rfl
theorem o7_1 : tm_op 7 1 = some (.iload_n 1, (0, 0, 0, 0)) := rfl
theorem r7_1 (d : Nat) (v : Int32) (l0 l2 l3 l4 : Option Value) (st : List Value) (h : tm_H) (K : Option Value → tm_H → Prop) : tm_A d 7 1 [l0, some (.int v), l2, l3, l4] st h K ↔ tm_A d 7 2 [l0, some (.int v), l2, l3, l4] (.int v :: st) h K := tm_s o7_1 rfl rfl rfl
theorem o7_2 : tm_op 7 2 = some (.invokevirtual 29, (2, 6, 2, 0)) := rfl
theorem r7_2 (d : Nat) (v1 : Int32) (a : Nat) (ls : tm_Lo) (st : List Value) (h : tm_H) (K : Option Value → tm_H → Prop) : tm_A (d + 1) 7 2 ls (.int v1 :: .ref a :: st) h K ↔ (h.1.2.2 a = (0, 0) ∧ tm_cs st) ∧ tm_R d 6 [.ref a, .int v1] h (fun r h' => tm_A (d + 1) 7 5 ls (r.toList ++ st) h' K) := tm_callV (as := [.int v1]) o7_2 rfl rfl rfl rfl
theorem o7_5 : tm_op 7 5 = some (.istore_n 3, (0, 0, 0, 0)) := rfl
theorem r7_5 (d : Nat) (v : Int32) (l0 l1 l2 l3 l4 : Option Value) (st : List Value) (h : tm_H) (K : Option Value → tm_H → Prop) : tm_A d 7 5 [l0, l1, l2, l3, l4] (.int v :: st) h K ↔ tm_A d 7 6 [l0, l1, l2, some (.int v), l4] st h K := tm_s o7_5 rfl rfl rfl
theorem o7_6 : tm_op 7 6 = some (.iload_n 3, (0, 0, 0, 0)) := rfl
theorem r7_6 (d : Nat) (v : Int32) (l0 l1 l2 l4 : Option Value) (st : List Value) (h : tm_H) (K : Option Value → tm_H → Prop) : tm_A d 7 6 [l0, l1, l2, some (.int v), l4] st h K ↔ tm_A d 7 7 [l0, l1, l2, some (.int v), l4] (.int v :: st) h K := tm_s o7_6 rfl rfl rfl
theorem o7_7 : tm_op 7 7 = some (.iconst (-1), (0, 0, 0, 0)) := rfl
theorem r7_7 (d : Nat) (ls : tm_Lo) (st : List Value) (h : tm_H) (K : Option Value → tm_H → Prop) : tm_A d 7 7 ls st h K ↔ tm_A d 7 8 ls (.int (-1 : Int32) :: st) h K := tm_ic o7_7 (by decide)
theorem o7_8 : tm_op 7 8 = some (.if_icmp .eq 13, (0, 0, 0, 0)) := rfl
theorem r7_8 (d : Nat) (y x : Int32) (ls : tm_Lo) (st : List Value) (h : tm_H) (K : Option Value → tm_H → Prop) : tm_A d 7 8 ls (.int y :: .int x :: st) h K ↔ if x = y then tm_A d 7 21 ls st h K else tm_A d 7 11 ls st h K := tm_b o7_8 rfl rfl rfl rfl
theorem o7_11 : tm_op 7 11 = some (.iload_n 2, (0, 0, 0, 0)) := rfl
theorem r7_11 (d : Nat) (v : Int32) (l0 l1 l3 l4 : Option Value) (st : List Value) (h : tm_H) (K : Option Value → tm_H → Prop) : tm_A d 7 11 [l0, l1, some (.int v), l3, l4] st h K ↔ tm_A d 7 12 [l0, l1, some (.int v), l3, l4] (.int v :: st) h K := tm_s o7_11 rfl rfl rfl
theorem o7_12 : tm_op 7 12 = some (.ifCond .lt 9, (0, 0, 0, 0)) := rfl
theorem r7_12 (d : Nat) (x : Int32) (ls : tm_Lo) (st : List Value) (h : tm_H) (K : Option Value → tm_H → Prop) : tm_A d 7 12 ls (.int x :: st) h K ↔ if x < 0 then tm_A d 7 21 ls st h K else tm_A d 7 15 ls st h K := tm_b o7_12 rfl rfl rfl rfl
theorem o7_15 : tm_op 7 15 = some (.iload_n 2, (0, 0, 0, 0)) := rfl
theorem r7_15 (d : Nat) (v : Int32) (l0 l1 l3 l4 : Option Value) (st : List Value) (h : tm_H) (K : Option Value → tm_H → Prop) : tm_A d 7 15 [l0, l1, some (.int v), l3, l4] st h K ↔ tm_A d 7 16 [l0, l1, some (.int v), l3, l4] (.int v :: st) h K := tm_s o7_15 rfl rfl rfl
theorem o7_16 : tm_op 7 16 = some (.bipush 6, (0, 0, 0, 0)) := rfl
theorem r7_16 (d : Nat) (ls : tm_Lo) (st : List Value) (h : tm_H) (K : Option Value → tm_H → Prop) : tm_A d 7 16 ls st h K ↔ tm_A d 7 18 ls (.int (6 : Int32) :: st) h K := tm_bp o7_16 (by decide)
theorem o7_18 : tm_op 7 18 = some (.if_icmp .lt 5, (0, 0, 0, 0)) := rfl
theorem r7_18 (d : Nat) (y x : Int32) (ls : tm_Lo) (st : List Value) (h : tm_H) (K : Option Value → tm_H → Prop) : tm_A d 7 18 ls (.int y :: .int x :: st) h K ↔ if x < y then tm_A d 7 23 ls st h K else tm_A d 7 21 ls st h K := tm_b o7_18 rfl rfl rfl rfl
theorem o7_21 : tm_op 7 21 = some (.iconst (-1), (0, 0, 0, 0)) := rfl
theorem r7_21 (d : Nat) (ls : tm_Lo) (st : List Value) (h : tm_H) (K : Option Value → tm_H → Prop) : tm_A d 7 21 ls st h K ↔ tm_A d 7 22 ls (.int (-1 : Int32) :: st) h K := tm_ic o7_21 (by decide)
theorem o7_22 : tm_op 7 22 = some (.ireturn, (0, 0, 0, 0)) := rfl
theorem r7_22 (d : Nat) (v : Int32) (ls : tm_Lo) (h : tm_H) (K : Option Value → tm_H → Prop) : tm_A d 7 22 ls [.int v] h K ↔ K (some (.int v)) h := tm_reti o7_22 rfl
theorem o7_23 : tm_op 7 23 = some (.iload_n 3, (0, 0, 0, 0)) := rfl
theorem r7_23 (d : Nat) (v : Int32) (l0 l1 l2 l4 : Option Value) (st : List Value) (h : tm_H) (K : Option Value → tm_H → Prop) : tm_A d 7 23 [l0, l1, l2, some (.int v), l4] st h K ↔ tm_A d 7 24 [l0, l1, l2, some (.int v), l4] (.int v :: st) h K := tm_s o7_23 rfl rfl rfl
theorem o7_24 : tm_op 7 24 = some (.iconst 5, (0, 0, 0, 0)) := rfl
theorem r7_24 (d : Nat) (ls : tm_Lo) (st : List Value) (h : tm_H) (K : Option Value → tm_H → Prop) : tm_A d 7 24 ls st h K ↔ tm_A d 7 25 ls (.int (5 : Int32) :: st) h K := tm_ic o7_24 (by decide)
theorem o7_25 : tm_op 7 25 = some (.iload_n 2, (0, 0, 0, 0)) := rfl
theorem r7_25 (d : Nat) (v : Int32) (l0 l1 l3 l4 : Option Value) (st : List Value) (h : tm_H) (K : Option Value → tm_H → Prop) : tm_A d 7 25 [l0, l1, some (.int v), l3, l4] st h K ↔ tm_A d 7 26 [l0, l1, some (.int v), l3, l4] (.int v :: st) h K := tm_s o7_25 rfl rfl rfl
theorem o7_26 : tm_op 7 26 = some (.imul, (0, 0, 0, 0)) := rfl
theorem r7_26 (d : Nat) (u v : Int32) (ls : tm_Lo) (st : List Value) (h : tm_H) (K : Option Value → tm_H → Prop) : tm_A d 7 26 ls (.int u :: .int v :: st) h K ↔ tm_A d 7 27 ls (.int (v * u) :: st) h K := tm_s o7_26 rfl rfl rfl
theorem o7_27 : tm_op 7 27 = some (.ishr, (0, 0, 0, 0)) := rfl
theorem r7_27 (d : Nat) (u v : Int32) (ls : tm_Lo) (st : List Value) (h : tm_H) (K : Option Value → tm_H → Prop) : tm_A d 7 27 ls (.int u :: .int v :: st) h K ↔ tm_A d 7 28 ls (.int (v >>> (u &&& 31)) :: st) h K := tm_s o7_27 rfl rfl rfl
theorem o7_28 : tm_op 7 28 = some (.bipush 31, (0, 0, 0, 0)) := rfl
theorem r7_28 (d : Nat) (ls : tm_Lo) (st : List Value) (h : tm_H) (K : Option Value → tm_H → Prop) : tm_A d 7 28 ls st h K ↔ tm_A d 7 30 ls (.int (31 : Int32) :: st) h K := tm_bp o7_28 (by decide)
theorem o7_30 : tm_op 7 30 = some (.iand, (0, 0, 0, 0)) := rfl
theorem r7_30 (d : Nat) (u v : Int32) (ls : tm_Lo) (st : List Value) (h : tm_H) (K : Option Value → tm_H → Prop) : tm_A d 7 30 ls (.int u :: .int v :: st) h K ↔ tm_A d 7 31 ls (.int (v &&& u) :: st) h K := tm_s o7_30 rfl rfl rfl
theorem o7_31 : tm_op 7 31 = some (.istore 4, (0, 0, 0, 0)) := rfl
theorem r7_31 (d : Nat) (v : Int32) (l0 l1 l2 l3 l4 : Option Value) (st : List Value) (h : tm_H) (K : Option Value → tm_H → Prop) : tm_A d 7 31 [l0, l1, l2, l3, l4] (.int v :: st) h K ↔ tm_A d 7 33 [l0, l1, l2, l3, some (.int v)] st h K := tm_s o7_31 rfl rfl rfl
theorem o7_33 : tm_op 7 33 = some (.iload 4, (0, 0, 0, 0)) := rfl
theorem r7_33 (d : Nat) (v : Int32) (l0 l1 l2 l3 : Option Value) (st : List Value) (h : tm_H) (K : Option Value → tm_H → Prop) : tm_A d 7 33 [l0, l1, l2, l3, some (.int v)] st h K ↔ tm_A d 7 35 [l0, l1, l2, l3, some (.int v)] (.int v :: st) h K := tm_s o7_33 rfl rfl rfl
theorem o7_35 : tm_op 7 35 = some (.ifCond .ne 7, (0, 0, 0, 0)) := rfl
theorem r7_35 (d : Nat) (x : Int32) (ls : tm_Lo) (st : List Value) (h : tm_H) (K : Option Value → tm_H → Prop) : tm_A d 7 35 ls (.int x :: st) h K ↔ if ¬ x = 0 then tm_A d 7 42 ls st h K else tm_A d 7 38 ls st h K := tm_b o7_35 rfl rfl rfl rfl
theorem o7_38 : tm_op 7 38 = some (.iconst (-1), (0, 0, 0, 0)) := rfl
theorem r7_38 (d : Nat) (ls : tm_Lo) (st : List Value) (h : tm_H) (K : Option Value → tm_H → Prop) : tm_A d 7 38 ls st h K ↔ tm_A d 7 39 ls (.int (-1 : Int32) :: st) h K := tm_ic o7_38 (by decide)
theorem o7_39 : tm_op 7 39 = some (.goto 8, (0, 0, 0, 0)) := rfl
theorem r7_39 (d : Nat) (ls : tm_Lo) (st : List Value) (h : tm_H) (K : Option Value → tm_H → Prop) : tm_A d 7 39 ls st h K ↔ tm_A d 7 47 ls st h K := tm_s o7_39 rfl rfl rfl
theorem o7_42 : tm_op 7 42 = some (.bipush 96, (0, 0, 0, 0)) := rfl
theorem r7_42 (d : Nat) (ls : tm_Lo) (st : List Value) (h : tm_H) (K : Option Value → tm_H → Prop) : tm_A d 7 42 ls st h K ↔ tm_A d 7 44 ls (.int (96 : Int32) :: st) h K := tm_bp o7_42 (by decide)
theorem o7_44 : tm_op 7 44 = some (.iload 4, (0, 0, 0, 0)) := rfl
theorem r7_44 (d : Nat) (v : Int32) (l0 l1 l2 l3 : Option Value) (st : List Value) (h : tm_H) (K : Option Value → tm_H → Prop) : tm_A d 7 44 [l0, l1, l2, l3, some (.int v)] st h K ↔ tm_A d 7 46 [l0, l1, l2, l3, some (.int v)] (.int v :: st) h K := tm_s o7_44 rfl rfl rfl
theorem o7_46 : tm_op 7 46 = some (.iadd, (0, 0, 0, 0)) := rfl
theorem r7_46 (d : Nat) (u v : Int32) (ls : tm_Lo) (st : List Value) (h : tm_H) (K : Option Value → tm_H → Prop) : tm_A d 7 46 ls (.int u :: .int v :: st) h K ↔ tm_A d 7 47 ls (.int (v + u) :: st) h K := tm_s o7_46 rfl rfl rfl
theorem o7_47 : tm_op 7 47 = some (.ireturn, (0, 0, 0, 0)) := rfl
theorem r7_47 (d : Nat) (v : Int32) (ls : tm_Lo) (h : tm_H) (K : Option Value → tm_H → Prop) : tm_A d 7 47 ls [.int v] h K ↔ K (some (.int v)) h := tm_reti o7_47 rfl
theorem o8_0 : tm_op 8 0 = some (.iconst 0, (0, 0, 0, 0)) := rfl
theorem r8_0 (d : Nat) (ls : tm_Lo) (st : List Value) (h : tm_H) (K : Option Value → tm_H → Prop) : tm_A d 8 0 ls st h K ↔ tm_A d 8 1 ls (.int (0 : Int32) :: st) h K := tm_ic o8_0 (by decide)
theorem o8_1 : tm_op 8 1 = some (.istore_n 2, (0, 0, 0, 0)) := rfl
theorem r8_1 (d : Nat) (v : Int32) (l0 l1 l2 : Option Value) (st : List Value) (h : tm_H) (K : Option Value → tm_H → Prop) : tm_A d 8 1 [l0, l1, l2] (.int v :: st) h K ↔ tm_A d 8 2 [l0, l1, some (.int v)] st h K := tm_s o8_1 rfl rfl rfl
theorem o8_2 : tm_op 8 2 = some (.iload_n 2, (0, 0, 0, 0)) := rfl
theorem r8_2 (d : Nat) (v : Int32) (l0 l1 : Option Value) (st : List Value) (h : tm_H) (K : Option Value → tm_H → Prop) : tm_A d 8 2 [l0, l1, some (.int v)] st h K ↔ tm_A d 8 3 [l0, l1, some (.int v)] (.int v :: st) h K := tm_s o8_2 rfl rfl rfl
theorem o8_3 : tm_op 8 3 = some (.iconst 3, (0, 0, 0, 0)) := rfl
theorem r8_3 (d : Nat) (ls : tm_Lo) (st : List Value) (h : tm_H) (K : Option Value → tm_H → Prop) : tm_A d 8 3 ls st h K ↔ tm_A d 8 4 ls (.int (3 : Int32) :: st) h K := tm_ic o8_3 (by decide)
theorem o8_4 : tm_op 8 4 = some (.if_icmp .ge 31, (0, 0, 0, 0)) := rfl
theorem r8_4 (d : Nat) (y x : Int32) (ls : tm_Lo) (st : List Value) (h : tm_H) (K : Option Value → tm_H → Prop) : tm_A d 8 4 ls (.int y :: .int x :: st) h K ↔ if y ≤ x then tm_A d 8 35 ls st h K else tm_A d 8 7 ls st h K := tm_b o8_4 rfl rfl rfl rfl
theorem o8_7 : tm_op 8 7 = some (.iload_n 2, (0, 0, 0, 0)) := rfl
theorem r8_7 (d : Nat) (v : Int32) (l0 l1 : Option Value) (st : List Value) (h : tm_H) (K : Option Value → tm_H → Prop) : tm_A d 8 7 [l0, l1, some (.int v)] st h K ↔ tm_A d 8 8 [l0, l1, some (.int v)] (.int v :: st) h K := tm_s o8_7 rfl rfl rfl
theorem o8_8 : tm_op 8 8 = some (.aload_n 0, (0, 0, 0, 0)) := rfl
theorem r8_8 (d : Nat) (v : Nat) (l1 l2 : Option Value) (st : List Value) (h : tm_H) (K : Option Value → tm_H → Prop) : tm_A d 8 8 [some (.ref v), l1, l2] st h K ↔ tm_A d 8 9 [some (.ref v), l1, l2] (.ref v :: st) h K := tm_s o8_8 rfl rfl rfl
theorem o8_9 : tm_op 8 9 = some (.getfield 18, (2, 0, 2, 0)) := rfl
theorem r8_9 (d : Nat) (a : Nat) (ls : tm_Lo) (st : List Value) (G : tm_G) (I : Nat → Nat → Int32) (J : Nat → Nat → Int64) (R : Nat → Nat → Option Nat) (K : Option Value → tm_H → Prop) : tm_A d 8 9 ls (.ref a :: st) (G, I, J, R) K ↔ G.2.2 a = (0, 0) ∧ tm_A d 8 12 ls (tm_rf (R a 2) :: st) (G, I, J, R) K := tm_getR o8_9
theorem o8_12 : tm_op 8 12 = some (.iconst 3, (0, 0, 0, 0)) := rfl
theorem r8_12 (d : Nat) (ls : tm_Lo) (st : List Value) (h : tm_H) (K : Option Value → tm_H → Prop) : tm_A d 8 12 ls st h K ↔ tm_A d 8 13 ls (.int (3 : Int32) :: st) h K := tm_ic o8_12 (by decide)
theorem o8_13 : tm_op 8 13 = some (.iaload, (0, 0, 0, 0)) := rfl
theorem r8_13 (d : Nat) (v : Int32) (a : Nat) (ls : tm_Lo) (st : List Value) (G : tm_G) (I : Nat → Nat → Int32) (J : Nat → Nat → Int64) (R : Nat → Nat → Option Nat) (K : Option Value → tm_H → Prop) : tm_A d 8 13 ls (.int v :: .ref a :: st) (G, I, J, R) K ↔ ((G.2.2 a).1 = 1 ∧ tm_in v (G.2.2 a).2) ∧ tm_A d 8 14 ls (.int (I a (tm_ix v)) :: st) (G, I, J, R) K := tm_iald o8_13
theorem o8_14 : tm_op 8 14 = some (.if_icmp .ge 21, (0, 0, 0, 0)) := rfl
theorem r8_14 (d : Nat) (y x : Int32) (ls : tm_Lo) (st : List Value) (h : tm_H) (K : Option Value → tm_H → Prop) : tm_A d 8 14 ls (.int y :: .int x :: st) h K ↔ if y ≤ x then tm_A d 8 35 ls st h K else tm_A d 8 17 ls st h K := tm_b o8_14 rfl rfl rfl rfl
theorem o8_17 : tm_op 8 17 = some (.aload_n 0, (0, 0, 0, 0)) := rfl
theorem r8_17 (d : Nat) (v : Nat) (l1 l2 : Option Value) (st : List Value) (h : tm_H) (K : Option Value → tm_H → Prop) : tm_A d 8 17 [some (.ref v), l1, l2] st h K ↔ tm_A d 8 18 [some (.ref v), l1, l2] (.ref v :: st) h K := tm_s o8_17 rfl rfl rfl
theorem o8_18 : tm_op 8 18 = some (.getfield 22, (2, 0, 3, 0)) := rfl
theorem r8_18 (d : Nat) (a : Nat) (ls : tm_Lo) (st : List Value) (G : tm_G) (I : Nat → Nat → Int32) (J : Nat → Nat → Int64) (R : Nat → Nat → Option Nat) (K : Option Value → tm_H → Prop) : tm_A d 8 18 ls (.ref a :: st) (G, I, J, R) K ↔ G.2.2 a = (0, 0) ∧ tm_A d 8 21 ls (tm_rf (R a 3) :: st) (G, I, J, R) K := tm_getR o8_18
theorem o8_21 : tm_op 8 21 = some (.iload_n 2, (0, 0, 0, 0)) := rfl
theorem r8_21 (d : Nat) (v : Int32) (l0 l1 : Option Value) (st : List Value) (h : tm_H) (K : Option Value → tm_H → Prop) : tm_A d 8 21 [l0, l1, some (.int v)] st h K ↔ tm_A d 8 22 [l0, l1, some (.int v)] (.int v :: st) h K := tm_s o8_21 rfl rfl rfl
theorem o8_22 : tm_op 8 22 = some (.iaload, (0, 0, 0, 0)) := rfl
theorem r8_22 (d : Nat) (v : Int32) (a : Nat) (ls : tm_Lo) (st : List Value) (G : tm_G) (I : Nat → Nat → Int32) (J : Nat → Nat → Int64) (R : Nat → Nat → Option Nat) (K : Option Value → tm_H → Prop) : tm_A d 8 22 ls (.int v :: .ref a :: st) (G, I, J, R) K ↔ ((G.2.2 a).1 = 1 ∧ tm_in v (G.2.2 a).2) ∧ tm_A d 8 23 ls (.int (I a (tm_ix v)) :: st) (G, I, J, R) K := tm_iald o8_22
theorem o8_23 : tm_op 8 23 = some (.iload_n 1, (0, 0, 0, 0)) := rfl
theorem r8_23 (d : Nat) (v : Int32) (l0 l2 : Option Value) (st : List Value) (h : tm_H) (K : Option Value → tm_H → Prop) : tm_A d 8 23 [l0, some (.int v), l2] st h K ↔ tm_A d 8 24 [l0, some (.int v), l2] (.int v :: st) h K := tm_s o8_23 rfl rfl rfl
theorem o8_24 : tm_op 8 24 = some (.if_icmp .ne 5, (0, 0, 0, 0)) := rfl
theorem r8_24 (d : Nat) (y x : Int32) (ls : tm_Lo) (st : List Value) (h : tm_H) (K : Option Value → tm_H → Prop) : tm_A d 8 24 ls (.int y :: .int x :: st) h K ↔ if ¬ x = y then tm_A d 8 29 ls st h K else tm_A d 8 27 ls st h K := tm_b o8_24 rfl rfl rfl rfl
theorem o8_27 : tm_op 8 27 = some (.iconst 1, (0, 0, 0, 0)) := rfl
theorem r8_27 (d : Nat) (ls : tm_Lo) (st : List Value) (h : tm_H) (K : Option Value → tm_H → Prop) : tm_A d 8 27 ls st h K ↔ tm_A d 8 28 ls (.int (1 : Int32) :: st) h K := tm_ic o8_27 (by decide)
theorem o8_28 : tm_op 8 28 = some (.ireturn, (0, 0, 0, 0)) := rfl
theorem r8_28 (d : Nat) (v : Int32) (ls : tm_Lo) (h : tm_H) (K : Option Value → tm_H → Prop) : tm_A d 8 28 ls [.int v] h K ↔ (v = 0 ∨ v = 1) ∧ K (some (.int v)) h := tm_retz o8_28 rfl
theorem o8_29 : tm_op 8 29 = some (.iinc 2 1, (0, 0, 0, 0)) := rfl
theorem r8_29 (d : Nat) (v : Int32) (l0 l1 : Option Value) (st : List Value) (h : tm_H) (K : Option Value → tm_H → Prop) : tm_A d 8 29 [l0, l1, some (.int v)] st h K ↔ tm_A d 8 32 [l0, l1, some (.int (v + (1 : Int32)))] st h K := tm_s o8_29 rfl rfl rfl
theorem o8_32 : tm_op 8 32 = some (.goto (-30), (0, 0, 0, 0)) := rfl
theorem r8_32 (d : Nat) (ls : tm_Lo) (st : List Value) (h : tm_H) (K : Option Value → tm_H → Prop) : tm_A d 8 32 ls st h K ↔ tm_A d 8 2 ls st h K := tm_s o8_32 rfl rfl rfl
theorem o8_35 : tm_op 8 35 = some (.iconst 0, (0, 0, 0, 0)) := rfl
theorem r8_35 (d : Nat) (ls : tm_Lo) (st : List Value) (h : tm_H) (K : Option Value → tm_H → Prop) : tm_A d 8 35 ls st h K ↔ tm_A d 8 36 ls (.int (0 : Int32) :: st) h K := tm_ic o8_35 (by decide)
theorem o8_36 : tm_op 8 36 = some (.ireturn, (0, 0, 0, 0)) := rfl
theorem r8_36 (d : Nat) (v : Int32) (ls : tm_Lo) (h : tm_H) (K : Option Value → tm_H → Prop) : tm_A d 8 36 ls [.int v] h K ↔ (v = 0 ∨ v = 1) ∧ K (some (.int v)) h := tm_retz o8_36 rfl
theorem o9_0 : tm_op 9 0 = some (.iload_n 1, (0, 0, 0, 0)) := rfl
theorem r9_0 (d : Nat) (v : Int32) (l0 l2 : Option Value) (st : List Value) (h : tm_H) (K : Option Value → tm_H → Prop) : tm_A d 9 0 [l0, some (.int v), l2] st h K ↔ tm_A d 9 1 [l0, some (.int v), l2] (.int v :: st) h K := tm_s o9_0 rfl rfl rfl
theorem o9_1 : tm_op 9 1 = some (.ifCond .lt 27, (0, 0, 0, 0)) := rfl
theorem r9_1 (d : Nat) (x : Int32) (ls : tm_Lo) (st : List Value) (h : tm_H) (K : Option Value → tm_H → Prop) : tm_A d 9 1 ls (.int x :: st) h K ↔ if x < 0 then tm_A d 9 28 ls st h K else tm_A d 9 4 ls st h K := tm_b o9_1 rfl rfl rfl rfl
theorem o9_4 : tm_op 9 4 = some (.iload_n 1, (0, 0, 0, 0)) := rfl
theorem r9_4 (d : Nat) (v : Int32) (l0 l2 : Option Value) (st : List Value) (h : tm_H) (K : Option Value → tm_H → Prop) : tm_A d 9 4 [l0, some (.int v), l2] st h K ↔ tm_A d 9 5 [l0, some (.int v), l2] (.int v :: st) h K := tm_s o9_4 rfl rfl rfl
theorem o9_5 : tm_op 9 5 = some (.iconst 5, (0, 0, 0, 0)) := rfl
theorem r9_5 (d : Nat) (ls : tm_Lo) (st : List Value) (h : tm_H) (K : Option Value → tm_H → Prop) : tm_A d 9 5 ls st h K ↔ tm_A d 9 6 ls (.int (5 : Int32) :: st) h K := tm_ic o9_5 (by decide)
theorem o9_6 : tm_op 9 6 = some (.if_icmp .ge 22, (0, 0, 0, 0)) := rfl
theorem r9_6 (d : Nat) (y x : Int32) (ls : tm_Lo) (st : List Value) (h : tm_H) (K : Option Value → tm_H → Prop) : tm_A d 9 6 ls (.int y :: .int x :: st) h K ↔ if y ≤ x then tm_A d 9 28 ls st h K else tm_A d 9 9 ls st h K := tm_b o9_6 rfl rfl rfl rfl
theorem o9_9 : tm_op 9 9 = some (.aload_n 0, (0, 0, 0, 0)) := rfl
theorem r9_9 (d : Nat) (v : Nat) (l1 l2 : Option Value) (st : List Value) (h : tm_H) (K : Option Value → tm_H → Prop) : tm_A d 9 9 [some (.ref v), l1, l2] st h K ↔ tm_A d 9 10 [some (.ref v), l1, l2] (.ref v :: st) h K := tm_s o9_9 rfl rfl rfl
theorem o9_10 : tm_op 9 10 = some (.getfield 18, (2, 0, 2, 0)) := rfl
theorem r9_10 (d : Nat) (a : Nat) (ls : tm_Lo) (st : List Value) (G : tm_G) (I : Nat → Nat → Int32) (J : Nat → Nat → Int64) (R : Nat → Nat → Option Nat) (K : Option Value → tm_H → Prop) : tm_A d 9 10 ls (.ref a :: st) (G, I, J, R) K ↔ G.2.2 a = (0, 0) ∧ tm_A d 9 13 ls (tm_rf (R a 2) :: st) (G, I, J, R) K := tm_getR o9_10
theorem o9_13 : tm_op 9 13 = some (.iload_n 1, (0, 0, 0, 0)) := rfl
theorem r9_13 (d : Nat) (v : Int32) (l0 l2 : Option Value) (st : List Value) (h : tm_H) (K : Option Value → tm_H → Prop) : tm_A d 9 13 [l0, some (.int v), l2] st h K ↔ tm_A d 9 14 [l0, some (.int v), l2] (.int v :: st) h K := tm_s o9_13 rfl rfl rfl
theorem o9_14 : tm_op 9 14 = some (.iload_n 2, (0, 0, 0, 0)) := rfl
theorem r9_14 (d : Nat) (v : Int32) (l0 l1 : Option Value) (st : List Value) (h : tm_H) (K : Option Value → tm_H → Prop) : tm_A d 9 14 [l0, l1, some (.int v)] st h K ↔ tm_A d 9 15 [l0, l1, some (.int v)] (.int v :: st) h K := tm_s o9_14 rfl rfl rfl
theorem o9_15 : tm_op 9 15 = some (.iastore, (0, 0, 0, 0)) := rfl
theorem r9_15 (d : Nat) (u v : Int32) (a : Nat) (ls : tm_Lo) (st : List Value) (G : tm_G) (I : Nat → Nat → Int32) (J : Nat → Nat → Int64) (R : Nat → Nat → Option Nat) (K : Option Value → tm_H → Prop) : tm_A d 9 15 ls (.int u :: .int v :: .ref a :: st) (G, I, J, R) K ↔ (3 ≤ a ∧ (G.2.2 a).1 = 1 ∧ tm_in v (G.2.2 a).2) ∧ tm_A d 9 16 ls st (G, up2 I a (tm_ix v) u, J, R) K := tm_iast o9_15
theorem o9_16 : tm_op 9 16 = some (.aload_n 0, (0, 0, 0, 0)) := rfl
theorem r9_16 (d : Nat) (v : Nat) (l1 l2 : Option Value) (st : List Value) (h : tm_H) (K : Option Value → tm_H → Prop) : tm_A d 9 16 [some (.ref v), l1, l2] st h K ↔ tm_A d 9 17 [some (.ref v), l1, l2] (.ref v :: st) h K := tm_s o9_16 rfl rfl rfl
theorem o9_17 : tm_op 9 17 = some (.dup, (0, 0, 0, 0)) := rfl
theorem r9_17 (d : Nat) (v : Nat) (ls : tm_Lo) (st : List Value) (h : tm_H) (K : Option Value → tm_H → Prop) : tm_A d 9 17 ls (.ref v :: st) h K ↔ tm_A d 9 18 ls (.ref v :: .ref v :: st) h K := tm_s o9_17 rfl rfl rfl
theorem r9_17i (d : Nat) (v : Int32) (ls : tm_Lo) (st : List Value) (h : tm_H) (K : Option Value → tm_H → Prop) : tm_A d 9 17 ls (.int v :: st) h K ↔ tm_A d 9 18 ls (.int v :: .int v :: st) h K := tm_s o9_17 rfl rfl rfl
theorem o9_18 : tm_op 9 18 = some (.getfield 9, (0, 0, 0, 0)) := rfl
theorem r9_18 (d : Nat) (a : Nat) (ls : tm_Lo) (st : List Value) (G : tm_G) (I : Nat → Nat → Int32) (J : Nat → Nat → Int64) (R : Nat → Nat → Option Nat) (K : Option Value → tm_H → Prop) : tm_A d 9 18 ls (.ref a :: st) (G, I, J, R) K ↔ G.2.2 a = (0, 0) ∧ tm_A d 9 21 ls (.int (I a 0) :: st) (G, I, J, R) K := tm_getI o9_18
theorem o9_21 : tm_op 9 21 = some (.iconst 1, (0, 0, 0, 0)) := rfl
theorem r9_21 (d : Nat) (ls : tm_Lo) (st : List Value) (h : tm_H) (K : Option Value → tm_H → Prop) : tm_A d 9 21 ls st h K ↔ tm_A d 9 22 ls (.int (1 : Int32) :: st) h K := tm_ic o9_21 (by decide)
theorem o9_22 : tm_op 9 22 = some (.iload_n 1, (0, 0, 0, 0)) := rfl
theorem r9_22 (d : Nat) (v : Int32) (l0 l2 : Option Value) (st : List Value) (h : tm_H) (K : Option Value → tm_H → Prop) : tm_A d 9 22 [l0, some (.int v), l2] st h K ↔ tm_A d 9 23 [l0, some (.int v), l2] (.int v :: st) h K := tm_s o9_22 rfl rfl rfl
theorem o9_23 : tm_op 9 23 = some (.ishl, (0, 0, 0, 0)) := rfl
theorem r9_23 (d : Nat) (u v : Int32) (ls : tm_Lo) (st : List Value) (h : tm_H) (K : Option Value → tm_H → Prop) : tm_A d 9 23 ls (.int u :: .int v :: st) h K ↔ tm_A d 9 24 ls (.int (v <<< (u &&& 31)) :: st) h K := tm_s o9_23 rfl rfl rfl
theorem o9_24 : tm_op 9 24 = some (.ior, (0, 0, 0, 0)) := rfl
theorem r9_24 (d : Nat) (u v : Int32) (ls : tm_Lo) (st : List Value) (h : tm_H) (K : Option Value → tm_H → Prop) : tm_A d 9 24 ls (.int u :: .int v :: st) h K ↔ tm_A d 9 25 ls (.int (v ||| u) :: st) h K := tm_s o9_24 rfl rfl rfl
theorem o9_25 : tm_op 9 25 = some (.putfield 9, (0, 0, 0, 0)) := rfl
theorem r9_25 (d : Nat) (v : Int32) (a : Nat) (ls : tm_Lo) (st : List Value) (G : tm_G) (I : Nat → Nat → Int32) (J : Nat → Nat → Int64) (R : Nat → Nat → Option Nat) (K : Option Value → tm_H → Prop) : tm_A d 9 25 ls (.int v :: .ref a :: st) (G, I, J, R) K ↔ G.2.2 a = (0, 0) ∧ tm_A d 9 28 ls st (G, up2 I a 0 v, J, R) K := tm_putI o9_25
theorem o9_28 : tm_op 9 28 = some (.return_, (0, 0, 0, 0)) := rfl
theorem r9_28 (d : Nat) (ls : tm_Lo) (h : tm_H) (K : Option Value → tm_H → Prop) : tm_A d 9 28 ls [] h K ↔ K none h := tm_retv o9_28 rfl
theorem o10_0 : tm_op 10 0 = some (.aload_n 0, (0, 0, 0, 0)) := rfl
theorem r10_0 (d : Nat) (v : Nat) (l1 l2 : Option Value) (st : List Value) (h : tm_H) (K : Option Value → tm_H → Prop) : tm_A d 10 0 [some (.ref v), l1, l2] st h K ↔ tm_A d 10 1 [some (.ref v), l1, l2] (.ref v :: st) h K := tm_s o10_0 rfl rfl rfl
theorem o10_1 : tm_op 10 1 = some (.iconst 2, (0, 0, 0, 0)) := rfl
theorem r10_1 (d : Nat) (ls : tm_Lo) (st : List Value) (h : tm_H) (K : Option Value → tm_H → Prop) : tm_A d 10 1 ls st h K ↔ tm_A d 10 2 ls (.int (2 : Int32) :: st) h K := tm_ic o10_1 (by decide)
theorem o10_2 : tm_op 10 2 = some (.iload_n 1, (0, 0, 0, 0)) := rfl
theorem r10_2 (d : Nat) (v : Int32) (l0 l2 : Option Value) (st : List Value) (h : tm_H) (K : Option Value → tm_H → Prop) : tm_A d 10 2 [l0, some (.int v), l2] st h K ↔ tm_A d 10 3 [l0, some (.int v), l2] (.int v :: st) h K := tm_s o10_2 rfl rfl rfl
theorem o10_3 : tm_op 10 3 = some (.invokevirtual 33, (2, 9, 3, 0)) := rfl
theorem r10_3 (d : Nat) (v1 : Int32) (v2 : Int32) (a : Nat) (ls : tm_Lo) (st : List Value) (h : tm_H) (K : Option Value → tm_H → Prop) : tm_A (d + 1) 10 3 ls (.int v2 :: .int v1 :: .ref a :: st) h K ↔ (h.1.2.2 a = (0, 0) ∧ tm_cs st) ∧ tm_R d 9 [.ref a, .int v1, .int v2] h (fun r h' => tm_A (d + 1) 10 6 ls (r.toList ++ st) h' K) := tm_callV (as := [.int v1, .int v2]) o10_3 rfl rfl rfl rfl
theorem o10_6 : tm_op 10 6 = some (.aload_n 0, (0, 0, 0, 0)) := rfl
theorem r10_6 (d : Nat) (v : Nat) (l1 l2 : Option Value) (st : List Value) (h : tm_H) (K : Option Value → tm_H → Prop) : tm_A d 10 6 [some (.ref v), l1, l2] st h K ↔ tm_A d 10 7 [some (.ref v), l1, l2] (.ref v :: st) h K := tm_s o10_6 rfl rfl rfl
theorem o10_7 : tm_op 10 7 = some (.iload_n 2, (0, 0, 0, 0)) := rfl
theorem r10_7 (d : Nat) (v : Int32) (l0 l1 : Option Value) (st : List Value) (h : tm_H) (K : Option Value → tm_H → Prop) : tm_A d 10 7 [l0, l1, some (.int v)] st h K ↔ tm_A d 10 8 [l0, l1, some (.int v)] (.int v :: st) h K := tm_s o10_7 rfl rfl rfl
theorem o10_8 : tm_op 10 8 = some (.putfield 15, (0, 0, 1, 0)) := rfl
theorem r10_8 (d : Nat) (v : Int32) (a : Nat) (ls : tm_Lo) (st : List Value) (G : tm_G) (I : Nat → Nat → Int32) (J : Nat → Nat → Int64) (R : Nat → Nat → Option Nat) (K : Option Value → tm_H → Prop) : tm_A d 10 8 ls (.int v :: .ref a :: st) (G, I, J, R) K ↔ G.2.2 a = (0, 0) ∧ tm_A d 10 11 ls st (G, up2 I a 1 v, J, R) K := tm_putI o10_8
theorem o10_11 : tm_op 10 11 = some (.return_, (0, 0, 0, 0)) := rfl
theorem r10_11 (d : Nat) (ls : tm_Lo) (h : tm_H) (K : Option Value → tm_H → Prop) : tm_A d 10 11 ls [] h K ↔ K none h := tm_retv o10_11 rfl
theorem o11_0 : tm_op 11 0 = some (.aload_n 0, (0, 0, 0, 0)) := rfl
theorem r11_0 (d : Nat) (v : Nat) (l1 l2 : Option Value) (st : List Value) (h : tm_H) (K : Option Value → tm_H → Prop) : tm_A d 11 0 [some (.ref v), l1, l2] st h K ↔ tm_A d 11 1 [some (.ref v), l1, l2] (.ref v :: st) h K := tm_s o11_0 rfl rfl rfl
theorem o11_1 : tm_op 11 1 = some (.getfield 18, (2, 0, 2, 0)) := rfl
theorem r11_1 (d : Nat) (a : Nat) (ls : tm_Lo) (st : List Value) (G : tm_G) (I : Nat → Nat → Int32) (J : Nat → Nat → Int64) (R : Nat → Nat → Option Nat) (K : Option Value → tm_H → Prop) : tm_A d 11 1 ls (.ref a :: st) (G, I, J, R) K ↔ G.2.2 a = (0, 0) ∧ tm_A d 11 4 ls (tm_rf (R a 2) :: st) (G, I, J, R) K := tm_getR o11_1
theorem o11_4 : tm_op 11 4 = some (.iconst 3, (0, 0, 0, 0)) := rfl
theorem r11_4 (d : Nat) (ls : tm_Lo) (st : List Value) (h : tm_H) (K : Option Value → tm_H → Prop) : tm_A d 11 4 ls st h K ↔ tm_A d 11 5 ls (.int (3 : Int32) :: st) h K := tm_ic o11_4 (by decide)
theorem o11_5 : tm_op 11 5 = some (.iaload, (0, 0, 0, 0)) := rfl
theorem r11_5 (d : Nat) (v : Int32) (a : Nat) (ls : tm_Lo) (st : List Value) (G : tm_G) (I : Nat → Nat → Int32) (J : Nat → Nat → Int64) (R : Nat → Nat → Option Nat) (K : Option Value → tm_H → Prop) : tm_A d 11 5 ls (.int v :: .ref a :: st) (G, I, J, R) K ↔ ((G.2.2 a).1 = 1 ∧ tm_in v (G.2.2 a).2) ∧ tm_A d 11 6 ls (.int (I a (tm_ix v)) :: st) (G, I, J, R) K := tm_iald o11_5
theorem o11_6 : tm_op 11 6 = some (.istore_n 2, (0, 0, 0, 0)) := rfl
theorem r11_6 (d : Nat) (v : Int32) (l0 l1 l2 : Option Value) (st : List Value) (h : tm_H) (K : Option Value → tm_H → Prop) : tm_A d 11 6 [l0, l1, l2] (.int v :: st) h K ↔ tm_A d 11 7 [l0, l1, some (.int v)] st h K := tm_s o11_6 rfl rfl rfl
theorem o11_7 : tm_op 11 7 = some (.iload_n 2, (0, 0, 0, 0)) := rfl
theorem r11_7 (d : Nat) (v : Int32) (l0 l1 : Option Value) (st : List Value) (h : tm_H) (K : Option Value → tm_H → Prop) : tm_A d 11 7 [l0, l1, some (.int v)] st h K ↔ tm_A d 11 8 [l0, l1, some (.int v)] (.int v :: st) h K := tm_s o11_7 rfl rfl rfl
theorem o11_8 : tm_op 11 8 = some (.ifCond .lt 23, (0, 0, 0, 0)) := rfl
theorem r11_8 (d : Nat) (x : Int32) (ls : tm_Lo) (st : List Value) (h : tm_H) (K : Option Value → tm_H → Prop) : tm_A d 11 8 ls (.int x :: st) h K ↔ if x < 0 then tm_A d 11 31 ls st h K else tm_A d 11 11 ls st h K := tm_b o11_8 rfl rfl rfl rfl
theorem o11_11 : tm_op 11 11 = some (.iload_n 2, (0, 0, 0, 0)) := rfl
theorem r11_11 (d : Nat) (v : Int32) (l0 l1 : Option Value) (st : List Value) (h : tm_H) (K : Option Value → tm_H → Prop) : tm_A d 11 11 [l0, l1, some (.int v)] st h K ↔ tm_A d 11 12 [l0, l1, some (.int v)] (.int v :: st) h K := tm_s o11_11 rfl rfl rfl
theorem o11_12 : tm_op 11 12 = some (.iconst 3, (0, 0, 0, 0)) := rfl
theorem r11_12 (d : Nat) (ls : tm_Lo) (st : List Value) (h : tm_H) (K : Option Value → tm_H → Prop) : tm_A d 11 12 ls st h K ↔ tm_A d 11 13 ls (.int (3 : Int32) :: st) h K := tm_ic o11_12 (by decide)
theorem o11_13 : tm_op 11 13 = some (.if_icmp .ge 18, (0, 0, 0, 0)) := rfl
theorem r11_13 (d : Nat) (y x : Int32) (ls : tm_Lo) (st : List Value) (h : tm_H) (K : Option Value → tm_H → Prop) : tm_A d 11 13 ls (.int y :: .int x :: st) h K ↔ if y ≤ x then tm_A d 11 31 ls st h K else tm_A d 11 16 ls st h K := tm_b o11_13 rfl rfl rfl rfl
theorem o11_16 : tm_op 11 16 = some (.aload_n 0, (0, 0, 0, 0)) := rfl
theorem r11_16 (d : Nat) (v : Nat) (l1 l2 : Option Value) (st : List Value) (h : tm_H) (K : Option Value → tm_H → Prop) : tm_A d 11 16 [some (.ref v), l1, l2] st h K ↔ tm_A d 11 17 [some (.ref v), l1, l2] (.ref v :: st) h K := tm_s o11_16 rfl rfl rfl
theorem o11_17 : tm_op 11 17 = some (.getfield 22, (2, 0, 3, 0)) := rfl
theorem r11_17 (d : Nat) (a : Nat) (ls : tm_Lo) (st : List Value) (G : tm_G) (I : Nat → Nat → Int32) (J : Nat → Nat → Int64) (R : Nat → Nat → Option Nat) (K : Option Value → tm_H → Prop) : tm_A d 11 17 ls (.ref a :: st) (G, I, J, R) K ↔ G.2.2 a = (0, 0) ∧ tm_A d 11 20 ls (tm_rf (R a 3) :: st) (G, I, J, R) K := tm_getR o11_17
theorem o11_20 : tm_op 11 20 = some (.iload_n 2, (0, 0, 0, 0)) := rfl
theorem r11_20 (d : Nat) (v : Int32) (l0 l1 : Option Value) (st : List Value) (h : tm_H) (K : Option Value → tm_H → Prop) : tm_A d 11 20 [l0, l1, some (.int v)] st h K ↔ tm_A d 11 21 [l0, l1, some (.int v)] (.int v :: st) h K := tm_s o11_20 rfl rfl rfl
theorem o11_21 : tm_op 11 21 = some (.iload_n 1, (0, 0, 0, 0)) := rfl
theorem r11_21 (d : Nat) (v : Int32) (l0 l2 : Option Value) (st : List Value) (h : tm_H) (K : Option Value → tm_H → Prop) : tm_A d 11 21 [l0, some (.int v), l2] st h K ↔ tm_A d 11 22 [l0, some (.int v), l2] (.int v :: st) h K := tm_s o11_21 rfl rfl rfl
theorem o11_22 : tm_op 11 22 = some (.iastore, (0, 0, 0, 0)) := rfl
theorem r11_22 (d : Nat) (u v : Int32) (a : Nat) (ls : tm_Lo) (st : List Value) (G : tm_G) (I : Nat → Nat → Int32) (J : Nat → Nat → Int64) (R : Nat → Nat → Option Nat) (K : Option Value → tm_H → Prop) : tm_A d 11 22 ls (.int u :: .int v :: .ref a :: st) (G, I, J, R) K ↔ (3 ≤ a ∧ (G.2.2 a).1 = 1 ∧ tm_in v (G.2.2 a).2) ∧ tm_A d 11 23 ls st (G, up2 I a (tm_ix v) u, J, R) K := tm_iast o11_22
theorem o11_23 : tm_op 11 23 = some (.aload_n 0, (0, 0, 0, 0)) := rfl
theorem r11_23 (d : Nat) (v : Nat) (l1 l2 : Option Value) (st : List Value) (h : tm_H) (K : Option Value → tm_H → Prop) : tm_A d 11 23 [some (.ref v), l1, l2] st h K ↔ tm_A d 11 24 [some (.ref v), l1, l2] (.ref v :: st) h K := tm_s o11_23 rfl rfl rfl
theorem o11_24 : tm_op 11 24 = some (.iconst 3, (0, 0, 0, 0)) := rfl
theorem r11_24 (d : Nat) (ls : tm_Lo) (st : List Value) (h : tm_H) (K : Option Value → tm_H → Prop) : tm_A d 11 24 ls st h K ↔ tm_A d 11 25 ls (.int (3 : Int32) :: st) h K := tm_ic o11_24 (by decide)
theorem o11_25 : tm_op 11 25 = some (.iload_n 2, (0, 0, 0, 0)) := rfl
theorem r11_25 (d : Nat) (v : Int32) (l0 l1 : Option Value) (st : List Value) (h : tm_H) (K : Option Value → tm_H → Prop) : tm_A d 11 25 [l0, l1, some (.int v)] st h K ↔ tm_A d 11 26 [l0, l1, some (.int v)] (.int v :: st) h K := tm_s o11_25 rfl rfl rfl
theorem o11_26 : tm_op 11 26 = some (.iconst 1, (0, 0, 0, 0)) := rfl
theorem r11_26 (d : Nat) (ls : tm_Lo) (st : List Value) (h : tm_H) (K : Option Value → tm_H → Prop) : tm_A d 11 26 ls st h K ↔ tm_A d 11 27 ls (.int (1 : Int32) :: st) h K := tm_ic o11_26 (by decide)
theorem o11_27 : tm_op 11 27 = some (.iadd, (0, 0, 0, 0)) := rfl
theorem r11_27 (d : Nat) (u v : Int32) (ls : tm_Lo) (st : List Value) (h : tm_H) (K : Option Value → tm_H → Prop) : tm_A d 11 27 ls (.int u :: .int v :: st) h K ↔ tm_A d 11 28 ls (.int (v + u) :: st) h K := tm_s o11_27 rfl rfl rfl
theorem o11_28 : tm_op 11 28 = some (.invokevirtual 33, (2, 9, 3, 0)) := rfl
theorem r11_28 (d : Nat) (v1 : Int32) (v2 : Int32) (a : Nat) (ls : tm_Lo) (st : List Value) (h : tm_H) (K : Option Value → tm_H → Prop) : tm_A (d + 1) 11 28 ls (.int v2 :: .int v1 :: .ref a :: st) h K ↔ (h.1.2.2 a = (0, 0) ∧ tm_cs st) ∧ tm_R d 9 [.ref a, .int v1, .int v2] h (fun r h' => tm_A (d + 1) 11 31 ls (r.toList ++ st) h' K) := tm_callV (as := [.int v1, .int v2]) o11_28 rfl rfl rfl rfl
theorem o11_31 : tm_op 11 31 = some (.return_, (0, 0, 0, 0)) := rfl
theorem r11_31 (d : Nat) (ls : tm_Lo) (h : tm_H) (K : Option Value → tm_H → Prop) : tm_A d 11 31 ls [] h K ↔ K none h := tm_retv o11_31 rfl
theorem o12_0 : tm_op 12 0 = some (.aload_n 0, (0, 0, 0, 0)) := rfl
theorem r12_0 (d : Nat) (v : Nat) (l1 l2 l3 : Option Value) (st : List Value) (h : tm_H) (K : Option Value → tm_H → Prop) : tm_A d 12 0 [some (.ref v), l1, l2, l3] st h K ↔ tm_A d 12 1 [some (.ref v), l1, l2, l3] (.ref v :: st) h K := tm_s o12_0 rfl rfl rfl
theorem o12_1 : tm_op 12 1 = some (.aload_n 0, (0, 0, 0, 0)) := rfl
theorem r12_1 (d : Nat) (v : Nat) (l1 l2 l3 : Option Value) (st : List Value) (h : tm_H) (K : Option Value → tm_H → Prop) : tm_A d 12 1 [some (.ref v), l1, l2, l3] st h K ↔ tm_A d 12 2 [some (.ref v), l1, l2, l3] (.ref v :: st) h K := tm_s o12_1 rfl rfl rfl
theorem o12_2 : tm_op 12 2 = some (.getfield 9, (0, 0, 0, 0)) := rfl
theorem r12_2 (d : Nat) (a : Nat) (ls : tm_Lo) (st : List Value) (G : tm_G) (I : Nat → Nat → Int32) (J : Nat → Nat → Int64) (R : Nat → Nat → Option Nat) (K : Option Value → tm_H → Prop) : tm_A d 12 2 ls (.ref a :: st) (G, I, J, R) K ↔ G.2.2 a = (0, 0) ∧ tm_A d 12 5 ls (.int (I a 0) :: st) (G, I, J, R) K := tm_getI o12_2
theorem o12_5 : tm_op 12 5 = some (.iload_n 2, (0, 0, 0, 0)) := rfl
theorem r12_5 (d : Nat) (v : Int32) (l0 l1 l3 : Option Value) (st : List Value) (h : tm_H) (K : Option Value → tm_H → Prop) : tm_A d 12 5 [l0, l1, some (.int v), l3] st h K ↔ tm_A d 12 6 [l0, l1, some (.int v), l3] (.int v :: st) h K := tm_s o12_5 rfl rfl rfl
theorem o12_6 : tm_op 12 6 = some (.iconst (-1), (0, 0, 0, 0)) := rfl
theorem r12_6 (d : Nat) (ls : tm_Lo) (st : List Value) (h : tm_H) (K : Option Value → tm_H → Prop) : tm_A d 12 6 ls st h K ↔ tm_A d 12 7 ls (.int (-1 : Int32) :: st) h K := tm_ic o12_6 (by decide)
theorem o12_7 : tm_op 12 7 = some (.ixor, (0, 0, 0, 0)) := rfl
theorem r12_7 (d : Nat) (u v : Int32) (ls : tm_Lo) (st : List Value) (h : tm_H) (K : Option Value → tm_H → Prop) : tm_A d 12 7 ls (.int u :: .int v :: st) h K ↔ tm_A d 12 8 ls (.int (v ^^^ u) :: st) h K := tm_s o12_7 rfl rfl rfl
theorem o12_8 : tm_op 12 8 = some (.iand, (0, 0, 0, 0)) := rfl
theorem r12_8 (d : Nat) (u v : Int32) (ls : tm_Lo) (st : List Value) (h : tm_H) (K : Option Value → tm_H → Prop) : tm_A d 12 8 ls (.int u :: .int v :: st) h K ↔ tm_A d 12 9 ls (.int (v &&& u) :: st) h K := tm_s o12_8 rfl rfl rfl
theorem o12_9 : tm_op 12 9 = some (.aload_n 1, (0, 0, 0, 0)) := rfl
theorem r12_9 (d : Nat) (v : Nat) (l0 l2 l3 : Option Value) (st : List Value) (h : tm_H) (K : Option Value → tm_H → Prop) : tm_A d 12 9 [l0, some (.ref v), l2, l3] st h K ↔ tm_A d 12 10 [l0, some (.ref v), l2, l3] (.ref v :: st) h K := tm_s o12_9 rfl rfl rfl
theorem r12_9n (d : Nat)  (l0 l2 l3 : Option Value) (st : List Value) (h : tm_H) (K : Option Value → tm_H → Prop) : tm_A d 12 9 [l0, some .null, l2, l3] st h K ↔ tm_A d 12 10 [l0, some .null, l2, l3] (.null :: st) h K := tm_s o12_9 rfl rfl rfl
theorem o12_10 : tm_op 12 10 = some (.getfield 9, (0, 0, 0, 0)) := rfl
theorem r12_10 (d : Nat) (a : Nat) (ls : tm_Lo) (st : List Value) (G : tm_G) (I : Nat → Nat → Int32) (J : Nat → Nat → Int64) (R : Nat → Nat → Option Nat) (K : Option Value → tm_H → Prop) : tm_A d 12 10 ls (.ref a :: st) (G, I, J, R) K ↔ G.2.2 a = (0, 0) ∧ tm_A d 12 13 ls (.int (I a 0) :: st) (G, I, J, R) K := tm_getI o12_10
theorem o12_13 : tm_op 12 13 = some (.iload_n 2, (0, 0, 0, 0)) := rfl
theorem r12_13 (d : Nat) (v : Int32) (l0 l1 l3 : Option Value) (st : List Value) (h : tm_H) (K : Option Value → tm_H → Prop) : tm_A d 12 13 [l0, l1, some (.int v), l3] st h K ↔ tm_A d 12 14 [l0, l1, some (.int v), l3] (.int v :: st) h K := tm_s o12_13 rfl rfl rfl
theorem o12_14 : tm_op 12 14 = some (.iand, (0, 0, 0, 0)) := rfl
theorem r12_14 (d : Nat) (u v : Int32) (ls : tm_Lo) (st : List Value) (h : tm_H) (K : Option Value → tm_H → Prop) : tm_A d 12 14 ls (.int u :: .int v :: st) h K ↔ tm_A d 12 15 ls (.int (v &&& u) :: st) h K := tm_s o12_14 rfl rfl rfl
theorem o12_15 : tm_op 12 15 = some (.ior, (0, 0, 0, 0)) := rfl
theorem r12_15 (d : Nat) (u v : Int32) (ls : tm_Lo) (st : List Value) (h : tm_H) (K : Option Value → tm_H → Prop) : tm_A d 12 15 ls (.int u :: .int v :: st) h K ↔ tm_A d 12 16 ls (.int (v ||| u) :: st) h K := tm_s o12_15 rfl rfl rfl
theorem o12_16 : tm_op 12 16 = some (.putfield 9, (0, 0, 0, 0)) := rfl
theorem r12_16 (d : Nat) (v : Int32) (a : Nat) (ls : tm_Lo) (st : List Value) (G : tm_G) (I : Nat → Nat → Int32) (J : Nat → Nat → Int64) (R : Nat → Nat → Option Nat) (K : Option Value → tm_H → Prop) : tm_A d 12 16 ls (.int v :: .ref a :: st) (G, I, J, R) K ↔ G.2.2 a = (0, 0) ∧ tm_A d 12 19 ls st (G, up2 I a 0 v, J, R) K := tm_putI o12_16
theorem o12_19 : tm_op 12 19 = some (.iconst 0, (0, 0, 0, 0)) := rfl
theorem r12_19 (d : Nat) (ls : tm_Lo) (st : List Value) (h : tm_H) (K : Option Value → tm_H → Prop) : tm_A d 12 19 ls st h K ↔ tm_A d 12 20 ls (.int (0 : Int32) :: st) h K := tm_ic o12_19 (by decide)
theorem o12_20 : tm_op 12 20 = some (.istore_n 3, (0, 0, 0, 0)) := rfl
theorem r12_20 (d : Nat) (v : Int32) (l0 l1 l2 l3 : Option Value) (st : List Value) (h : tm_H) (K : Option Value → tm_H → Prop) : tm_A d 12 20 [l0, l1, l2, l3] (.int v :: st) h K ↔ tm_A d 12 21 [l0, l1, l2, some (.int v)] st h K := tm_s o12_20 rfl rfl rfl
theorem o12_21 : tm_op 12 21 = some (.iload_n 3, (0, 0, 0, 0)) := rfl
theorem r12_21 (d : Nat) (v : Int32) (l0 l1 l2 : Option Value) (st : List Value) (h : tm_H) (K : Option Value → tm_H → Prop) : tm_A d 12 21 [l0, l1, l2, some (.int v)] st h K ↔ tm_A d 12 22 [l0, l1, l2, some (.int v)] (.int v :: st) h K := tm_s o12_21 rfl rfl rfl
theorem o12_22 : tm_op 12 22 = some (.iconst 5, (0, 0, 0, 0)) := rfl
theorem r12_22 (d : Nat) (ls : tm_Lo) (st : List Value) (h : tm_H) (K : Option Value → tm_H → Prop) : tm_A d 12 22 ls st h K ↔ tm_A d 12 23 ls (.int (5 : Int32) :: st) h K := tm_ic o12_22 (by decide)
theorem o12_23 : tm_op 12 23 = some (.if_icmp .ge 30, (0, 0, 0, 0)) := rfl
theorem r12_23 (d : Nat) (y x : Int32) (ls : tm_Lo) (st : List Value) (h : tm_H) (K : Option Value → tm_H → Prop) : tm_A d 12 23 ls (.int y :: .int x :: st) h K ↔ if y ≤ x then tm_A d 12 53 ls st h K else tm_A d 12 26 ls st h K := tm_b o12_23 rfl rfl rfl rfl
theorem o12_26 : tm_op 12 26 = some (.iload_n 2, (0, 0, 0, 0)) := rfl
theorem r12_26 (d : Nat) (v : Int32) (l0 l1 l3 : Option Value) (st : List Value) (h : tm_H) (K : Option Value → tm_H → Prop) : tm_A d 12 26 [l0, l1, some (.int v), l3] st h K ↔ tm_A d 12 27 [l0, l1, some (.int v), l3] (.int v :: st) h K := tm_s o12_26 rfl rfl rfl
theorem o12_27 : tm_op 12 27 = some (.iload_n 3, (0, 0, 0, 0)) := rfl
theorem r12_27 (d : Nat) (v : Int32) (l0 l1 l2 : Option Value) (st : List Value) (h : tm_H) (K : Option Value → tm_H → Prop) : tm_A d 12 27 [l0, l1, l2, some (.int v)] st h K ↔ tm_A d 12 28 [l0, l1, l2, some (.int v)] (.int v :: st) h K := tm_s o12_27 rfl rfl rfl
theorem o12_28 : tm_op 12 28 = some (.ishr, (0, 0, 0, 0)) := rfl
theorem r12_28 (d : Nat) (u v : Int32) (ls : tm_Lo) (st : List Value) (h : tm_H) (K : Option Value → tm_H → Prop) : tm_A d 12 28 ls (.int u :: .int v :: st) h K ↔ tm_A d 12 29 ls (.int (v >>> (u &&& 31)) :: st) h K := tm_s o12_28 rfl rfl rfl
theorem o12_29 : tm_op 12 29 = some (.iconst 1, (0, 0, 0, 0)) := rfl
theorem r12_29 (d : Nat) (ls : tm_Lo) (st : List Value) (h : tm_H) (K : Option Value → tm_H → Prop) : tm_A d 12 29 ls st h K ↔ tm_A d 12 30 ls (.int (1 : Int32) :: st) h K := tm_ic o12_29 (by decide)
theorem o12_30 : tm_op 12 30 = some (.iand, (0, 0, 0, 0)) := rfl
theorem r12_30 (d : Nat) (u v : Int32) (ls : tm_Lo) (st : List Value) (h : tm_H) (K : Option Value → tm_H → Prop) : tm_A d 12 30 ls (.int u :: .int v :: st) h K ↔ tm_A d 12 31 ls (.int (v &&& u) :: st) h K := tm_s o12_30 rfl rfl rfl
theorem o12_31 : tm_op 12 31 = some (.iconst 1, (0, 0, 0, 0)) := rfl
theorem r12_31 (d : Nat) (ls : tm_Lo) (st : List Value) (h : tm_H) (K : Option Value → tm_H → Prop) : tm_A d 12 31 ls st h K ↔ tm_A d 12 32 ls (.int (1 : Int32) :: st) h K := tm_ic o12_31 (by decide)
theorem o12_32 : tm_op 12 32 = some (.if_icmp .ne 15, (0, 0, 0, 0)) := rfl
theorem r12_32 (d : Nat) (y x : Int32) (ls : tm_Lo) (st : List Value) (h : tm_H) (K : Option Value → tm_H → Prop) : tm_A d 12 32 ls (.int y :: .int x :: st) h K ↔ if ¬ x = y then tm_A d 12 47 ls st h K else tm_A d 12 35 ls st h K := tm_b o12_32 rfl rfl rfl rfl
theorem o12_35 : tm_op 12 35 = some (.aload_n 0, (0, 0, 0, 0)) := rfl
theorem r12_35 (d : Nat) (v : Nat) (l1 l2 l3 : Option Value) (st : List Value) (h : tm_H) (K : Option Value → tm_H → Prop) : tm_A d 12 35 [some (.ref v), l1, l2, l3] st h K ↔ tm_A d 12 36 [some (.ref v), l1, l2, l3] (.ref v :: st) h K := tm_s o12_35 rfl rfl rfl
theorem o12_36 : tm_op 12 36 = some (.getfield 18, (2, 0, 2, 0)) := rfl
theorem r12_36 (d : Nat) (a : Nat) (ls : tm_Lo) (st : List Value) (G : tm_G) (I : Nat → Nat → Int32) (J : Nat → Nat → Int64) (R : Nat → Nat → Option Nat) (K : Option Value → tm_H → Prop) : tm_A d 12 36 ls (.ref a :: st) (G, I, J, R) K ↔ G.2.2 a = (0, 0) ∧ tm_A d 12 39 ls (tm_rf (R a 2) :: st) (G, I, J, R) K := tm_getR o12_36
theorem o12_39 : tm_op 12 39 = some (.iload_n 3, (0, 0, 0, 0)) := rfl
theorem r12_39 (d : Nat) (v : Int32) (l0 l1 l2 : Option Value) (st : List Value) (h : tm_H) (K : Option Value → tm_H → Prop) : tm_A d 12 39 [l0, l1, l2, some (.int v)] st h K ↔ tm_A d 12 40 [l0, l1, l2, some (.int v)] (.int v :: st) h K := tm_s o12_39 rfl rfl rfl
theorem o12_40 : tm_op 12 40 = some (.aload_n 1, (0, 0, 0, 0)) := rfl
theorem r12_40 (d : Nat) (v : Nat) (l0 l2 l3 : Option Value) (st : List Value) (h : tm_H) (K : Option Value → tm_H → Prop) : tm_A d 12 40 [l0, some (.ref v), l2, l3] st h K ↔ tm_A d 12 41 [l0, some (.ref v), l2, l3] (.ref v :: st) h K := tm_s o12_40 rfl rfl rfl
theorem r12_40n (d : Nat)  (l0 l2 l3 : Option Value) (st : List Value) (h : tm_H) (K : Option Value → tm_H → Prop) : tm_A d 12 40 [l0, some .null, l2, l3] st h K ↔ tm_A d 12 41 [l0, some .null, l2, l3] (.null :: st) h K := tm_s o12_40 rfl rfl rfl
theorem o12_41 : tm_op 12 41 = some (.getfield 18, (2, 0, 2, 0)) := rfl
theorem r12_41 (d : Nat) (a : Nat) (ls : tm_Lo) (st : List Value) (G : tm_G) (I : Nat → Nat → Int32) (J : Nat → Nat → Int64) (R : Nat → Nat → Option Nat) (K : Option Value → tm_H → Prop) : tm_A d 12 41 ls (.ref a :: st) (G, I, J, R) K ↔ G.2.2 a = (0, 0) ∧ tm_A d 12 44 ls (tm_rf (R a 2) :: st) (G, I, J, R) K := tm_getR o12_41
theorem o12_44 : tm_op 12 44 = some (.iload_n 3, (0, 0, 0, 0)) := rfl
theorem r12_44 (d : Nat) (v : Int32) (l0 l1 l2 : Option Value) (st : List Value) (h : tm_H) (K : Option Value → tm_H → Prop) : tm_A d 12 44 [l0, l1, l2, some (.int v)] st h K ↔ tm_A d 12 45 [l0, l1, l2, some (.int v)] (.int v :: st) h K := tm_s o12_44 rfl rfl rfl
theorem o12_45 : tm_op 12 45 = some (.iaload, (0, 0, 0, 0)) := rfl
theorem r12_45 (d : Nat) (v : Int32) (a : Nat) (ls : tm_Lo) (st : List Value) (G : tm_G) (I : Nat → Nat → Int32) (J : Nat → Nat → Int64) (R : Nat → Nat → Option Nat) (K : Option Value → tm_H → Prop) : tm_A d 12 45 ls (.int v :: .ref a :: st) (G, I, J, R) K ↔ ((G.2.2 a).1 = 1 ∧ tm_in v (G.2.2 a).2) ∧ tm_A d 12 46 ls (.int (I a (tm_ix v)) :: st) (G, I, J, R) K := tm_iald o12_45
theorem o12_46 : tm_op 12 46 = some (.iastore, (0, 0, 0, 0)) := rfl
theorem r12_46 (d : Nat) (u v : Int32) (a : Nat) (ls : tm_Lo) (st : List Value) (G : tm_G) (I : Nat → Nat → Int32) (J : Nat → Nat → Int64) (R : Nat → Nat → Option Nat) (K : Option Value → tm_H → Prop) : tm_A d 12 46 ls (.int u :: .int v :: .ref a :: st) (G, I, J, R) K ↔ (3 ≤ a ∧ (G.2.2 a).1 = 1 ∧ tm_in v (G.2.2 a).2) ∧ tm_A d 12 47 ls st (G, up2 I a (tm_ix v) u, J, R) K := tm_iast o12_46
theorem o12_47 : tm_op 12 47 = some (.iinc 3 1, (0, 0, 0, 0)) := rfl
theorem r12_47 (d : Nat) (v : Int32) (l0 l1 l2 : Option Value) (st : List Value) (h : tm_H) (K : Option Value → tm_H → Prop) : tm_A d 12 47 [l0, l1, l2, some (.int v)] st h K ↔ tm_A d 12 50 [l0, l1, l2, some (.int (v + (1 : Int32)))] st h K := tm_s o12_47 rfl rfl rfl
theorem o12_50 : tm_op 12 50 = some (.goto (-29), (0, 0, 0, 0)) := rfl
theorem r12_50 (d : Nat) (ls : tm_Lo) (st : List Value) (h : tm_H) (K : Option Value → tm_H → Prop) : tm_A d 12 50 ls st h K ↔ tm_A d 12 21 ls st h K := tm_s o12_50 rfl rfl rfl
theorem o12_53 : tm_op 12 53 = some (.iload_n 2, (0, 0, 0, 0)) := rfl
theorem r12_53 (d : Nat) (v : Int32) (l0 l1 l3 : Option Value) (st : List Value) (h : tm_H) (K : Option Value → tm_H → Prop) : tm_A d 12 53 [l0, l1, some (.int v), l3] st h K ↔ tm_A d 12 54 [l0, l1, some (.int v), l3] (.int v :: st) h K := tm_s o12_53 rfl rfl rfl
theorem o12_54 : tm_op 12 54 = some (.iconst 2, (0, 0, 0, 0)) := rfl
theorem r12_54 (d : Nat) (ls : tm_Lo) (st : List Value) (h : tm_H) (K : Option Value → tm_H → Prop) : tm_A d 12 54 ls st h K ↔ tm_A d 12 55 ls (.int (2 : Int32) :: st) h K := tm_ic o12_54 (by decide)
theorem o12_55 : tm_op 12 55 = some (.ishr, (0, 0, 0, 0)) := rfl
theorem r12_55 (d : Nat) (u v : Int32) (ls : tm_Lo) (st : List Value) (h : tm_H) (K : Option Value → tm_H → Prop) : tm_A d 12 55 ls (.int u :: .int v :: st) h K ↔ tm_A d 12 56 ls (.int (v >>> (u &&& 31)) :: st) h K := tm_s o12_55 rfl rfl rfl
theorem o12_56 : tm_op 12 56 = some (.iconst 1, (0, 0, 0, 0)) := rfl
theorem r12_56 (d : Nat) (ls : tm_Lo) (st : List Value) (h : tm_H) (K : Option Value → tm_H → Prop) : tm_A d 12 56 ls st h K ↔ tm_A d 12 57 ls (.int (1 : Int32) :: st) h K := tm_ic o12_56 (by decide)
theorem o12_57 : tm_op 12 57 = some (.iand, (0, 0, 0, 0)) := rfl
theorem r12_57 (d : Nat) (u v : Int32) (ls : tm_Lo) (st : List Value) (h : tm_H) (K : Option Value → tm_H → Prop) : tm_A d 12 57 ls (.int u :: .int v :: st) h K ↔ tm_A d 12 58 ls (.int (v &&& u) :: st) h K := tm_s o12_57 rfl rfl rfl
theorem o12_58 : tm_op 12 58 = some (.iconst 1, (0, 0, 0, 0)) := rfl
theorem r12_58 (d : Nat) (ls : tm_Lo) (st : List Value) (h : tm_H) (K : Option Value → tm_H → Prop) : tm_A d 12 58 ls st h K ↔ tm_A d 12 59 ls (.int (1 : Int32) :: st) h K := tm_ic o12_58 (by decide)
theorem o12_59 : tm_op 12 59 = some (.if_icmp .ne 11, (0, 0, 0, 0)) := rfl
theorem r12_59 (d : Nat) (y x : Int32) (ls : tm_Lo) (st : List Value) (h : tm_H) (K : Option Value → tm_H → Prop) : tm_A d 12 59 ls (.int y :: .int x :: st) h K ↔ if ¬ x = y then tm_A d 12 70 ls st h K else tm_A d 12 62 ls st h K := tm_b o12_59 rfl rfl rfl rfl
theorem o12_62 : tm_op 12 62 = some (.aload_n 0, (0, 0, 0, 0)) := rfl
theorem r12_62 (d : Nat) (v : Nat) (l1 l2 l3 : Option Value) (st : List Value) (h : tm_H) (K : Option Value → tm_H → Prop) : tm_A d 12 62 [some (.ref v), l1, l2, l3] st h K ↔ tm_A d 12 63 [some (.ref v), l1, l2, l3] (.ref v :: st) h K := tm_s o12_62 rfl rfl rfl
theorem o12_63 : tm_op 12 63 = some (.aload_n 1, (0, 0, 0, 0)) := rfl
theorem r12_63 (d : Nat) (v : Nat) (l0 l2 l3 : Option Value) (st : List Value) (h : tm_H) (K : Option Value → tm_H → Prop) : tm_A d 12 63 [l0, some (.ref v), l2, l3] st h K ↔ tm_A d 12 64 [l0, some (.ref v), l2, l3] (.ref v :: st) h K := tm_s o12_63 rfl rfl rfl
theorem r12_63n (d : Nat)  (l0 l2 l3 : Option Value) (st : List Value) (h : tm_H) (K : Option Value → tm_H → Prop) : tm_A d 12 63 [l0, some .null, l2, l3] st h K ↔ tm_A d 12 64 [l0, some .null, l2, l3] (.null :: st) h K := tm_s o12_63 rfl rfl rfl
theorem o12_64 : tm_op 12 64 = some (.getfield 15, (0, 0, 1, 0)) := rfl
theorem r12_64 (d : Nat) (a : Nat) (ls : tm_Lo) (st : List Value) (G : tm_G) (I : Nat → Nat → Int32) (J : Nat → Nat → Int64) (R : Nat → Nat → Option Nat) (K : Option Value → tm_H → Prop) : tm_A d 12 64 ls (.ref a :: st) (G, I, J, R) K ↔ G.2.2 a = (0, 0) ∧ tm_A d 12 67 ls (.int (I a 1) :: st) (G, I, J, R) K := tm_getI o12_64
theorem o12_67 : tm_op 12 67 = some (.putfield 15, (0, 0, 1, 0)) := rfl
theorem r12_67 (d : Nat) (v : Int32) (a : Nat) (ls : tm_Lo) (st : List Value) (G : tm_G) (I : Nat → Nat → Int32) (J : Nat → Nat → Int64) (R : Nat → Nat → Option Nat) (K : Option Value → tm_H → Prop) : tm_A d 12 67 ls (.int v :: .ref a :: st) (G, I, J, R) K ↔ G.2.2 a = (0, 0) ∧ tm_A d 12 70 ls st (G, up2 I a 1 v, J, R) K := tm_putI o12_67
theorem o12_70 : tm_op 12 70 = some (.iload_n 2, (0, 0, 0, 0)) := rfl
theorem r12_70 (d : Nat) (v : Int32) (l0 l1 l3 : Option Value) (st : List Value) (h : tm_H) (K : Option Value → tm_H → Prop) : tm_A d 12 70 [l0, l1, some (.int v), l3] st h K ↔ tm_A d 12 71 [l0, l1, some (.int v), l3] (.int v :: st) h K := tm_s o12_70 rfl rfl rfl
theorem o12_71 : tm_op 12 71 = some (.iconst 3, (0, 0, 0, 0)) := rfl
theorem r12_71 (d : Nat) (ls : tm_Lo) (st : List Value) (h : tm_H) (K : Option Value → tm_H → Prop) : tm_A d 12 71 ls st h K ↔ tm_A d 12 72 ls (.int (3 : Int32) :: st) h K := tm_ic o12_71 (by decide)
theorem o12_72 : tm_op 12 72 = some (.ishr, (0, 0, 0, 0)) := rfl
theorem r12_72 (d : Nat) (u v : Int32) (ls : tm_Lo) (st : List Value) (h : tm_H) (K : Option Value → tm_H → Prop) : tm_A d 12 72 ls (.int u :: .int v :: st) h K ↔ tm_A d 12 73 ls (.int (v >>> (u &&& 31)) :: st) h K := tm_s o12_72 rfl rfl rfl
theorem o12_73 : tm_op 12 73 = some (.iconst 1, (0, 0, 0, 0)) := rfl
theorem r12_73 (d : Nat) (ls : tm_Lo) (st : List Value) (h : tm_H) (K : Option Value → tm_H → Prop) : tm_A d 12 73 ls st h K ↔ tm_A d 12 74 ls (.int (1 : Int32) :: st) h K := tm_ic o12_73 (by decide)
theorem o12_74 : tm_op 12 74 = some (.iand, (0, 0, 0, 0)) := rfl
theorem r12_74 (d : Nat) (u v : Int32) (ls : tm_Lo) (st : List Value) (h : tm_H) (K : Option Value → tm_H → Prop) : tm_A d 12 74 ls (.int u :: .int v :: st) h K ↔ tm_A d 12 75 ls (.int (v &&& u) :: st) h K := tm_s o12_74 rfl rfl rfl
theorem o12_75 : tm_op 12 75 = some (.iconst 1, (0, 0, 0, 0)) := rfl
theorem r12_75 (d : Nat) (ls : tm_Lo) (st : List Value) (h : tm_H) (K : Option Value → tm_H → Prop) : tm_A d 12 75 ls st h K ↔ tm_A d 12 76 ls (.int (1 : Int32) :: st) h K := tm_ic o12_75 (by decide)
theorem o12_76 : tm_op 12 76 = some (.if_icmp .ne 17, (0, 0, 0, 0)) := rfl
theorem r12_76 (d : Nat) (y x : Int32) (ls : tm_Lo) (st : List Value) (h : tm_H) (K : Option Value → tm_H → Prop) : tm_A d 12 76 ls (.int y :: .int x :: st) h K ↔ if ¬ x = y then tm_A d 12 93 ls st h K else tm_A d 12 79 ls st h K := tm_b o12_76 rfl rfl rfl rfl
theorem o12_79 : tm_op 12 79 = some (.aload_n 1, (0, 0, 0, 0)) := rfl
theorem r12_79 (d : Nat) (v : Nat) (l0 l2 l3 : Option Value) (st : List Value) (h : tm_H) (K : Option Value → tm_H → Prop) : tm_A d 12 79 [l0, some (.ref v), l2, l3] st h K ↔ tm_A d 12 80 [l0, some (.ref v), l2, l3] (.ref v :: st) h K := tm_s o12_79 rfl rfl rfl
theorem r12_79n (d : Nat)  (l0 l2 l3 : Option Value) (st : List Value) (h : tm_H) (K : Option Value → tm_H → Prop) : tm_A d 12 79 [l0, some .null, l2, l3] st h K ↔ tm_A d 12 80 [l0, some .null, l2, l3] (.null :: st) h K := tm_s o12_79 rfl rfl rfl
theorem o12_80 : tm_op 12 80 = some (.getfield 22, (2, 0, 3, 0)) := rfl
theorem r12_80 (d : Nat) (a : Nat) (ls : tm_Lo) (st : List Value) (G : tm_G) (I : Nat → Nat → Int32) (J : Nat → Nat → Int64) (R : Nat → Nat → Option Nat) (K : Option Value → tm_H → Prop) : tm_A d 12 80 ls (.ref a :: st) (G, I, J, R) K ↔ G.2.2 a = (0, 0) ∧ tm_A d 12 83 ls (tm_rf (R a 3) :: st) (G, I, J, R) K := tm_getR o12_80
theorem o12_83 : tm_op 12 83 = some (.iconst 0, (0, 0, 0, 0)) := rfl
theorem r12_83 (d : Nat) (ls : tm_Lo) (st : List Value) (h : tm_H) (K : Option Value → tm_H → Prop) : tm_A d 12 83 ls st h K ↔ tm_A d 12 84 ls (.int (0 : Int32) :: st) h K := tm_ic o12_83 (by decide)
theorem o12_84 : tm_op 12 84 = some (.aload_n 0, (0, 0, 0, 0)) := rfl
theorem r12_84 (d : Nat) (v : Nat) (l1 l2 l3 : Option Value) (st : List Value) (h : tm_H) (K : Option Value → tm_H → Prop) : tm_A d 12 84 [some (.ref v), l1, l2, l3] st h K ↔ tm_A d 12 85 [some (.ref v), l1, l2, l3] (.ref v :: st) h K := tm_s o12_84 rfl rfl rfl
theorem o12_85 : tm_op 12 85 = some (.getfield 22, (2, 0, 3, 0)) := rfl
theorem r12_85 (d : Nat) (a : Nat) (ls : tm_Lo) (st : List Value) (G : tm_G) (I : Nat → Nat → Int32) (J : Nat → Nat → Int64) (R : Nat → Nat → Option Nat) (K : Option Value → tm_H → Prop) : tm_A d 12 85 ls (.ref a :: st) (G, I, J, R) K ↔ G.2.2 a = (0, 0) ∧ tm_A d 12 88 ls (tm_rf (R a 3) :: st) (G, I, J, R) K := tm_getR o12_85
theorem o12_88 : tm_op 12 88 = some (.iconst 0, (0, 0, 0, 0)) := rfl
theorem r12_88 (d : Nat) (ls : tm_Lo) (st : List Value) (h : tm_H) (K : Option Value → tm_H → Prop) : tm_A d 12 88 ls st h K ↔ tm_A d 12 89 ls (.int (0 : Int32) :: st) h K := tm_ic o12_88 (by decide)
theorem o12_89 : tm_op 12 89 = some (.iconst 3, (0, 0, 0, 0)) := rfl
theorem r12_89 (d : Nat) (ls : tm_Lo) (st : List Value) (h : tm_H) (K : Option Value → tm_H → Prop) : tm_A d 12 89 ls st h K ↔ tm_A d 12 90 ls (.int (3 : Int32) :: st) h K := tm_ic o12_89 (by decide)
theorem o12_90 : tm_op 12 90 = some (.invokestatic 37, (5, 0, 0, 0)) := rfl
theorem r12_90 (d : Nat) (ls : tm_Lo) (st : List Value) (h : tm_H) (K : Option Value → tm_H → Prop) : tm_A (d + 1) 12 90 ls st h K ↔ ∃ w, tm_cp st h = some w ∧ tm_A (d + 1) 12 93 ls w.1 w.2 K := tm_A_cp o12_90 rfl rfl rfl
theorem o12_93 : tm_op 12 93 = some (.return_, (0, 0, 0, 0)) := rfl
theorem r12_93 (d : Nat) (ls : tm_Lo) (h : tm_H) (K : Option Value → tm_H → Prop) : tm_A d 12 93 ls [] h K ↔ K none h := tm_retv o12_93 rfl
theorem o13_0 : tm_op 13 0 = some (.aload_n 0, (0, 0, 0, 0)) := rfl
theorem r13_0 (d : Nat) (v : Nat) (st : List Value) (h : tm_H) (K : Option Value → tm_H → Prop) : tm_A d 13 0 [some (.ref v)] st h K ↔ tm_A d 13 1 [some (.ref v)] (.ref v :: st) h K := tm_s o13_0 rfl rfl rfl
theorem o13_1 : tm_op 13 1 = some (.invokespecial 3, (4, 0, 0, 0)) := rfl
theorem r13_1 (d : Nat) (a : Nat) (ls : tm_Lo) (st : List Value) (h : tm_H) (K : Option Value → tm_H → Prop) : tm_A (d + 1) 13 1 ls (.ref a :: st) h K ↔ tm_cs st ∧ tm_A (d + 1) 13 4 ls st h K := tm_obj o13_1 rfl rfl
theorem o13_4 : tm_op 13 4 = some (.aload_n 0, (0, 0, 0, 0)) := rfl
theorem r13_4 (d : Nat) (v : Nat) (st : List Value) (h : tm_H) (K : Option Value → tm_H → Prop) : tm_A d 13 4 [some (.ref v)] st h K ↔ tm_A d 13 5 [some (.ref v)] (.ref v :: st) h K := tm_s o13_4 rfl rfl rfl
theorem o13_5 : tm_op 13 5 = some (.bipush 10, (0, 0, 0, 0)) := rfl
theorem r13_5 (d : Nat) (ls : tm_Lo) (st : List Value) (h : tm_H) (K : Option Value → tm_H → Prop) : tm_A d 13 5 ls st h K ↔ tm_A d 13 7 ls (.int (10 : Int32) :: st) h K := tm_bp o13_5 (by decide)
theorem o13_7 : tm_op 13 7 = some (.bipush 32, (0, 0, 0, 0)) := rfl
theorem r13_7 (d : Nat) (ls : tm_Lo) (st : List Value) (h : tm_H) (K : Option Value → tm_H → Prop) : tm_A d 13 7 ls st h K ↔ tm_A d 13 9 ls (.int (32 : Int32) :: st) h K := tm_bp o13_7 (by decide)
theorem o13_9 : tm_op 13 9 = some (.multianewarray 9 2, (3, 0, 0, 0)) := rfl
theorem r13_9 (d : Nat) (v u : Int32) (ls : tm_Lo) (st : List Value) (G : tm_G) (I : Nat → Nat → Int32) (J : Nat → Nat → Int64) (R : Nat → Nat → Option Nat) (K : Option Value → tm_H → Prop) : tm_A d 13 9 ls (.int v :: .int u :: st) (G, I, J, R) K ↔ (¬ u < 0 ∧ ¬ v < 0 ∧ (tm_ix u) ≤ 1000 ∧ (tm_ix v) ≤ 1000) ∧ tm_A d 13 13 ls (.ref G.1 :: st) (tm_mn (tm_ix u) (tm_ix v) (G, I, J, R)) K := tm_mnew o13_9
theorem o13_13 : tm_op 13 13 = some (.putfield 11, (2, 1, 0, 0)) := rfl
theorem r13_13 (d : Nat) (v : Nat) (a : Nat) (ls : tm_Lo) (st : List Value) (G : tm_G) (I : Nat → Nat → Int32) (J : Nat → Nat → Int64) (R : Nat → Nat → Option Nat) (K : Option Value → tm_H → Prop) : tm_A d 13 13 ls (.ref v :: .ref a :: st) (G, I, J, R) K ↔ G.2.2 a = (0, 1) ∧ tm_A d 13 16 ls st (G, I, J, up2 R a 0 (some v)) K := tm_putR o13_13
theorem o13_16 : tm_op 13 16 = some (.aload_n 0, (0, 0, 0, 0)) := rfl
theorem r13_16 (d : Nat) (v : Nat) (st : List Value) (h : tm_H) (K : Option Value → tm_H → Prop) : tm_A d 13 16 [some (.ref v)] st h K ↔ tm_A d 13 17 [some (.ref v)] (.ref v :: st) h K := tm_s o13_16 rfl rfl rfl
theorem o13_17 : tm_op 13 17 = some (.iconst 3, (0, 0, 0, 0)) := rfl
theorem r13_17 (d : Nat) (ls : tm_Lo) (st : List Value) (h : tm_H) (K : Option Value → tm_H → Prop) : tm_A d 13 17 ls st h K ↔ tm_A d 13 18 ls (.int (3 : Int32) :: st) h K := tm_ic o13_17 (by decide)
theorem o13_18 : tm_op 13 18 = some (.newarray .int, (1, 0, 0, 0)) := rfl
theorem r13_18 (d : Nat) (v : Int32) (ls : tm_Lo) (st : List Value) (G : tm_G) (I : Nat → Nat → Int32) (J : Nat → Nat → Int64) (R : Nat → Nat → Option Nat) (K : Option Value → tm_H → Prop) : tm_A d 13 18 ls (.int v :: st) (G, I, J, R) K ↔ (¬ v < 0 ∧ (tm_ix v) ≤ 100000) ∧ tm_A d 13 20 ls (.ref G.1 :: st) (tm_nw (1, (tm_ix v)) (tm_ix v) (G, I, J, R)) K := tm_newa o13_18
theorem o13_20 : tm_op 13 20 = some (.putfield 16, (2, 1, 1, 0)) := rfl
theorem r13_20 (d : Nat) (v : Nat) (a : Nat) (ls : tm_Lo) (st : List Value) (G : tm_G) (I : Nat → Nat → Int32) (J : Nat → Nat → Int64) (R : Nat → Nat → Option Nat) (K : Option Value → tm_H → Prop) : tm_A d 13 20 ls (.ref v :: .ref a :: st) (G, I, J, R) K ↔ G.2.2 a = (0, 1) ∧ tm_A d 13 23 ls st (G, I, J, up2 R a 1 (some v)) K := tm_putR o13_20
theorem o13_23 : tm_op 13 23 = some (.aload_n 0, (0, 0, 0, 0)) := rfl
theorem r13_23 (d : Nat) (v : Nat) (st : List Value) (h : tm_H) (K : Option Value → tm_H → Prop) : tm_A d 13 23 [some (.ref v)] st h K ↔ tm_A d 13 24 [some (.ref v)] (.ref v :: st) h K := tm_s o13_23 rfl rfl rfl
theorem o13_24 : tm_op 13 24 = some (.iconst 0, (0, 0, 0, 0)) := rfl
theorem r13_24 (d : Nat) (ls : tm_Lo) (st : List Value) (h : tm_H) (K : Option Value → tm_H → Prop) : tm_A d 13 24 ls st h K ↔ tm_A d 13 25 ls (.int (0 : Int32) :: st) h K := tm_ic o13_24 (by decide)
theorem o13_25 : tm_op 13 25 = some (.putfield 20, (0, 1, 2, 0)) := rfl
theorem r13_25 (d : Nat) (v : Int32) (a : Nat) (ls : tm_Lo) (st : List Value) (G : tm_G) (I : Nat → Nat → Int32) (J : Nat → Nat → Int64) (R : Nat → Nat → Option Nat) (K : Option Value → tm_H → Prop) : tm_A d 13 25 ls (.int v :: .ref a :: st) (G, I, J, R) K ↔ G.2.2 a = (0, 1) ∧ tm_A d 13 28 ls st (G, up2 I a 2 v, J, R) K := tm_putI o13_25
theorem o13_28 : tm_op 13 28 = some (.aload_n 0, (0, 0, 0, 0)) := rfl
theorem r13_28 (d : Nat) (v : Nat) (st : List Value) (h : tm_H) (K : Option Value → tm_H → Prop) : tm_A d 13 28 [some (.ref v)] st h K ↔ tm_A d 13 29 [some (.ref v)] (.ref v :: st) h K := tm_s o13_28 rfl rfl rfl
theorem o13_29 : tm_op 13 29 = some (.iconst 0, (0, 0, 0, 0)) := rfl
theorem r13_29 (d : Nat) (ls : tm_Lo) (st : List Value) (h : tm_H) (K : Option Value → tm_H → Prop) : tm_A d 13 29 ls st h K ↔ tm_A d 13 30 ls (.int (0 : Int32) :: st) h K := tm_ic o13_29 (by decide)
theorem o13_30 : tm_op 13 30 = some (.putfield 24, (0, 1, 3, 0)) := rfl
theorem r13_30 (d : Nat) (v : Int32) (a : Nat) (ls : tm_Lo) (st : List Value) (G : tm_G) (I : Nat → Nat → Int32) (J : Nat → Nat → Int64) (R : Nat → Nat → Option Nat) (K : Option Value → tm_H → Prop) : tm_A d 13 30 ls (.int v :: .ref a :: st) (G, I, J, R) K ↔ G.2.2 a = (0, 1) ∧ tm_A d 13 33 ls st (G, up2 I a 3 v, J, R) K := tm_putI o13_30
theorem o13_33 : tm_op 13 33 = some (.aload_n 0, (0, 0, 0, 0)) := rfl
theorem r13_33 (d : Nat) (v : Nat) (st : List Value) (h : tm_H) (K : Option Value → tm_H → Prop) : tm_A d 13 33 [some (.ref v)] st h K ↔ tm_A d 13 34 [some (.ref v)] (.ref v :: st) h K := tm_s o13_33 rfl rfl rfl
theorem o13_34 : tm_op 13 34 = some (.iconst 0, (0, 0, 0, 0)) := rfl
theorem r13_34 (d : Nat) (ls : tm_Lo) (st : List Value) (h : tm_H) (K : Option Value → tm_H → Prop) : tm_A d 13 34 ls st h K ↔ tm_A d 13 35 ls (.int (0 : Int32) :: st) h K := tm_ic o13_34 (by decide)
theorem o13_35 : tm_op 13 35 = some (.putfield 27, (0, 1, 4, 0)) := rfl
theorem r13_35 (d : Nat) (v : Int32) (a : Nat) (ls : tm_Lo) (st : List Value) (G : tm_G) (I : Nat → Nat → Int32) (J : Nat → Nat → Int64) (R : Nat → Nat → Option Nat) (K : Option Value → tm_H → Prop) : tm_A d 13 35 ls (.int v :: .ref a :: st) (G, I, J, R) K ↔ G.2.2 a = (0, 1) ∧ tm_A d 13 38 ls st (G, up2 I a 4 v, J, R) K := tm_putI o13_35
theorem o13_38 : tm_op 13 38 = some (.return_, (0, 0, 0, 0)) := rfl
theorem r13_38 (d : Nat) (ls : tm_Lo) (h : tm_H) (K : Option Value → tm_H → Prop) : tm_A d 13 38 ls [] h K ↔ K none h := tm_retv o13_38 rfl
theorem o14_0 : tm_op 14 0 = some (.aload_n 0, (0, 0, 0, 0)) := rfl
theorem r14_0 (d : Nat) (v : Nat) (l1 l2 : Option Value) (st : List Value) (h : tm_H) (K : Option Value → tm_H → Prop) : tm_A d 14 0 [some (.ref v), l1, l2] st h K ↔ tm_A d 14 1 [some (.ref v), l1, l2] (.ref v :: st) h K := tm_s o14_0 rfl rfl rfl
theorem o14_1 : tm_op 14 1 = some (.aload_n 1, (0, 0, 0, 0)) := rfl
theorem r14_1 (d : Nat) (v : Nat) (l0 l2 : Option Value) (st : List Value) (h : tm_H) (K : Option Value → tm_H → Prop) : tm_A d 14 1 [l0, some (.ref v), l2] st h K ↔ tm_A d 14 2 [l0, some (.ref v), l2] (.ref v :: st) h K := tm_s o14_1 rfl rfl rfl
theorem r14_1n (d : Nat)  (l0 l2 : Option Value) (st : List Value) (h : tm_H) (K : Option Value → tm_H → Prop) : tm_A d 14 1 [l0, some .null, l2] st h K ↔ tm_A d 14 2 [l0, some .null, l2] (.null :: st) h K := tm_s o14_1 rfl rfl rfl
theorem o14_2 : tm_op 14 2 = some (.invokevirtual 30, (2, 42, 1, 4)) := rfl
theorem r14_2 (d : Nat) (a : Nat) (ls : tm_Lo) (st : List Value) (h : tm_H) (K : Option Value → tm_H → Prop) : tm_A (d + 1) 14 2 ls (.ref a :: st) h K ↔ (h.1.2.2 a = (0, 4) ∧ tm_cs st) ∧ tm_R d 42 [.ref a] h (fun r h' => tm_A (d + 1) 14 5 ls (r.toList ++ st) h' K) := tm_callV (as := []) o14_2 rfl rfl rfl rfl
theorem o14_5 : tm_op 14 5 = some (.bipush 10, (0, 0, 0, 0)) := rfl
theorem r14_5 (d : Nat) (ls : tm_Lo) (st : List Value) (h : tm_H) (K : Option Value → tm_H → Prop) : tm_A d 14 5 ls st h K ↔ tm_A d 14 7 ls (.int (10 : Int32) :: st) h K := tm_bp o14_5 (by decide)
theorem o14_7 : tm_op 14 7 = some (.invokestatic 36, (8, 0, 0, 0)) := rfl
theorem r14_7 (d : Nat) (v0 v1 : Int32) (ls : tm_Lo) (st : List Value) (h : tm_H) (K : Option Value → tm_H → Prop) : tm_A (d + 1) 14 7 ls (.int v1 :: .int v0 :: st) h K ↔ tm_cs st ∧ tm_A (d + 1) 14 10 ls (.int (if v1 < v0 then v1 else v0) :: st) h K := tm_min o14_7 rfl rfl
theorem o14_10 : tm_op 14 10 = some (.putfield 27, (0, 1, 4, 0)) := rfl
theorem r14_10 (d : Nat) (v : Int32) (a : Nat) (ls : tm_Lo) (st : List Value) (G : tm_G) (I : Nat → Nat → Int32) (J : Nat → Nat → Int64) (R : Nat → Nat → Option Nat) (K : Option Value → tm_H → Prop) : tm_A d 14 10 ls (.int v :: .ref a :: st) (G, I, J, R) K ↔ G.2.2 a = (0, 1) ∧ tm_A d 14 13 ls st (G, up2 I a 4 v, J, R) K := tm_putI o14_10
theorem o14_13 : tm_op 14 13 = some (.aload_n 0, (0, 0, 0, 0)) := rfl
theorem r14_13 (d : Nat) (v : Nat) (l1 l2 : Option Value) (st : List Value) (h : tm_H) (K : Option Value → tm_H → Prop) : tm_A d 14 13 [some (.ref v), l1, l2] st h K ↔ tm_A d 14 14 [some (.ref v), l1, l2] (.ref v :: st) h K := tm_s o14_13 rfl rfl rfl
theorem o14_14 : tm_op 14 14 = some (.iconst 0, (0, 0, 0, 0)) := rfl
theorem r14_14 (d : Nat) (ls : tm_Lo) (st : List Value) (h : tm_H) (K : Option Value → tm_H → Prop) : tm_A d 14 14 ls st h K ↔ tm_A d 14 15 ls (.int (0 : Int32) :: st) h K := tm_ic o14_14 (by decide)
theorem o14_15 : tm_op 14 15 = some (.putfield 20, (0, 1, 2, 0)) := rfl
theorem r14_15 (d : Nat) (v : Int32) (a : Nat) (ls : tm_Lo) (st : List Value) (G : tm_G) (I : Nat → Nat → Int32) (J : Nat → Nat → Int64) (R : Nat → Nat → Option Nat) (K : Option Value → tm_H → Prop) : tm_A d 14 15 ls (.int v :: .ref a :: st) (G, I, J, R) K ↔ G.2.2 a = (0, 1) ∧ tm_A d 14 18 ls st (G, up2 I a 2 v, J, R) K := tm_putI o14_15
theorem o14_18 : tm_op 14 18 = some (.aload_n 0, (0, 0, 0, 0)) := rfl
theorem r14_18 (d : Nat) (v : Nat) (l1 l2 : Option Value) (st : List Value) (h : tm_H) (K : Option Value → tm_H → Prop) : tm_A d 14 18 [some (.ref v), l1, l2] st h K ↔ tm_A d 14 19 [some (.ref v), l1, l2] (.ref v :: st) h K := tm_s o14_18 rfl rfl rfl
theorem o14_19 : tm_op 14 19 = some (.iconst 0, (0, 0, 0, 0)) := rfl
theorem r14_19 (d : Nat) (ls : tm_Lo) (st : List Value) (h : tm_H) (K : Option Value → tm_H → Prop) : tm_A d 14 19 ls st h K ↔ tm_A d 14 20 ls (.int (0 : Int32) :: st) h K := tm_ic o14_19 (by decide)
theorem o14_20 : tm_op 14 20 = some (.putfield 24, (0, 1, 3, 0)) := rfl
theorem r14_20 (d : Nat) (v : Int32) (a : Nat) (ls : tm_Lo) (st : List Value) (G : tm_G) (I : Nat → Nat → Int32) (J : Nat → Nat → Int64) (R : Nat → Nat → Option Nat) (K : Option Value → tm_H → Prop) : tm_A d 14 20 ls (.int v :: .ref a :: st) (G, I, J, R) K ↔ G.2.2 a = (0, 1) ∧ tm_A d 14 23 ls st (G, up2 I a 3 v, J, R) K := tm_putI o14_20
theorem o14_23 : tm_op 14 23 = some (.aload_n 0, (0, 0, 0, 0)) := rfl
theorem r14_23 (d : Nat) (v : Nat) (l1 l2 : Option Value) (st : List Value) (h : tm_H) (K : Option Value → tm_H → Prop) : tm_A d 14 23 [some (.ref v), l1, l2] st h K ↔ tm_A d 14 24 [some (.ref v), l1, l2] (.ref v :: st) h K := tm_s o14_23 rfl rfl rfl
theorem o14_24 : tm_op 14 24 = some (.getfield 27, (0, 1, 4, 0)) := rfl
theorem r14_24 (d : Nat) (a : Nat) (ls : tm_Lo) (st : List Value) (G : tm_G) (I : Nat → Nat → Int32) (J : Nat → Nat → Int64) (R : Nat → Nat → Option Nat) (K : Option Value → tm_H → Prop) : tm_A d 14 24 ls (.ref a :: st) (G, I, J, R) K ↔ G.2.2 a = (0, 1) ∧ tm_A d 14 27 ls (.int (I a 4) :: st) (G, I, J, R) K := tm_getI o14_24
theorem o14_27 : tm_op 14 27 = some (.ifCond .le 33, (0, 0, 0, 0)) := rfl
theorem r14_27 (d : Nat) (x : Int32) (ls : tm_Lo) (st : List Value) (h : tm_H) (K : Option Value → tm_H → Prop) : tm_A d 14 27 ls (.int x :: st) h K ↔ if x ≤ 0 then tm_A d 14 60 ls st h K else tm_A d 14 30 ls st h K := tm_b o14_27 rfl rfl rfl rfl
theorem o14_30 : tm_op 14 30 = some (.aload_n 0, (0, 0, 0, 0)) := rfl
theorem r14_30 (d : Nat) (v : Nat) (l1 l2 : Option Value) (st : List Value) (h : tm_H) (K : Option Value → tm_H → Prop) : tm_A d 14 30 [some (.ref v), l1, l2] st h K ↔ tm_A d 14 31 [some (.ref v), l1, l2] (.ref v :: st) h K := tm_s o14_30 rfl rfl rfl
theorem o14_31 : tm_op 14 31 = some (.aload_n 1, (0, 0, 0, 0)) := rfl
theorem r14_31 (d : Nat) (v : Nat) (l0 l2 : Option Value) (st : List Value) (h : tm_H) (K : Option Value → tm_H → Prop) : tm_A d 14 31 [l0, some (.ref v), l2] st h K ↔ tm_A d 14 32 [l0, some (.ref v), l2] (.ref v :: st) h K := tm_s o14_31 rfl rfl rfl
theorem r14_31n (d : Nat)  (l0 l2 : Option Value) (st : List Value) (h : tm_H) (K : Option Value → tm_H → Prop) : tm_A d 14 31 [l0, some .null, l2] st h K ↔ tm_A d 14 32 [l0, some .null, l2] (.null :: st) h K := tm_s o14_31 rfl rfl rfl
theorem o14_32 : tm_op 14 32 = some (.invokevirtual 42, (2, 15, 2, 1)) := rfl
theorem r14_32 (d : Nat) (v1 : Nat) (a : Nat) (ls : tm_Lo) (st : List Value) (h : tm_H) (K : Option Value → tm_H → Prop) : tm_A (d + 1) 14 32 ls (.ref v1 :: .ref a :: st) h K ↔ (h.1.2.2 a = (0, 1) ∧ tm_cs st) ∧ tm_R d 15 [.ref a, .ref v1] h (fun r h' => tm_A (d + 1) 14 35 ls (r.toList ++ st) h' K) := tm_callV (as := [.ref v1]) o14_32 rfl rfl rfl rfl
theorem o14_35 : tm_op 14 35 = some (.aload_n 0, (0, 0, 0, 0)) := rfl
theorem r14_35 (d : Nat) (v : Nat) (l1 l2 : Option Value) (st : List Value) (h : tm_H) (K : Option Value → tm_H → Prop) : tm_A d 14 35 [some (.ref v), l1, l2] st h K ↔ tm_A d 14 36 [some (.ref v), l1, l2] (.ref v :: st) h K := tm_s o14_35 rfl rfl rfl
theorem o14_36 : tm_op 14 36 = some (.ldc 46, (0, 1000000, 0, 0)) := rfl
theorem r14_36 (d : Nat) (ls : tm_Lo) (st : List Value) (h : tm_H) (K : Option Value → tm_H → Prop) : tm_A d 14 36 ls st h K ↔ tm_A d 14 38 ls (.int (1000000 : Int32) :: st) h K := tm_s o14_36 rfl rfl rfl
theorem o14_38 : tm_op 14 38 = some (.putfield 24, (0, 1, 3, 0)) := rfl
theorem r14_38 (d : Nat) (v : Int32) (a : Nat) (ls : tm_Lo) (st : List Value) (G : tm_G) (I : Nat → Nat → Int32) (J : Nat → Nat → Int64) (R : Nat → Nat → Option Nat) (K : Option Value → tm_H → Prop) : tm_A d 14 38 ls (.int v :: .ref a :: st) (G, I, J, R) K ↔ G.2.2 a = (0, 1) ∧ tm_A d 14 41 ls st (G, up2 I a 3 v, J, R) K := tm_putI o14_38
theorem o14_41 : tm_op 14 41 = some (.aload_n 0, (0, 0, 0, 0)) := rfl
theorem r14_41 (d : Nat) (v : Nat) (l1 l2 : Option Value) (st : List Value) (h : tm_H) (K : Option Value → tm_H → Prop) : tm_A d 14 41 [some (.ref v), l1, l2] st h K ↔ tm_A d 14 42 [some (.ref v), l1, l2] (.ref v :: st) h K := tm_s o14_41 rfl rfl rfl
theorem o14_42 : tm_op 14 42 = some (.iload_n 2, (0, 0, 0, 0)) := rfl
theorem r14_42 (d : Nat) (v : Int32) (l0 l1 : Option Value) (st : List Value) (h : tm_H) (K : Option Value → tm_H → Prop) : tm_A d 14 42 [l0, l1, some (.int v)] st h K ↔ tm_A d 14 43 [l0, l1, some (.int v)] (.int v :: st) h K := tm_s o14_42 rfl rfl rfl
theorem o14_43 : tm_op 14 43 = some (.invokevirtual 47, (2, 16, 2, 1)) := rfl
theorem r14_43 (d : Nat) (v1 : Int32) (a : Nat) (ls : tm_Lo) (st : List Value) (h : tm_H) (K : Option Value → tm_H → Prop) : tm_A (d + 1) 14 43 ls (.int v1 :: .ref a :: st) h K ↔ (h.1.2.2 a = (0, 1) ∧ tm_cs st) ∧ tm_R d 16 [.ref a, .int v1] h (fun r h' => tm_A (d + 1) 14 46 ls (r.toList ++ st) h' K) := tm_callV (as := [.int v1]) o14_43 rfl rfl rfl rfl
theorem o14_46 : tm_op 14 46 = some (.aload_n 0, (0, 0, 0, 0)) := rfl
theorem r14_46 (d : Nat) (v : Nat) (l1 l2 : Option Value) (st : List Value) (h : tm_H) (K : Option Value → tm_H → Prop) : tm_A d 14 46 [some (.ref v), l1, l2] st h K ↔ tm_A d 14 47 [some (.ref v), l1, l2] (.ref v :: st) h K := tm_s o14_46 rfl rfl rfl
theorem o14_47 : tm_op 14 47 = some (.iconst 2, (0, 0, 0, 0)) := rfl
theorem r14_47 (d : Nat) (ls : tm_Lo) (st : List Value) (h : tm_H) (K : Option Value → tm_H → Prop) : tm_A d 14 47 ls st h K ↔ tm_A d 14 48 ls (.int (2 : Int32) :: st) h K := tm_ic o14_47 (by decide)
theorem o14_48 : tm_op 14 48 = some (.iload_n 2, (0, 0, 0, 0)) := rfl
theorem r14_48 (d : Nat) (v : Int32) (l0 l1 : Option Value) (st : List Value) (h : tm_H) (K : Option Value → tm_H → Prop) : tm_A d 14 48 [l0, l1, some (.int v)] st h K ↔ tm_A d 14 49 [l0, l1, some (.int v)] (.int v :: st) h K := tm_s o14_48 rfl rfl rfl
theorem o14_49 : tm_op 14 49 = some (.imul, (0, 0, 0, 0)) := rfl
theorem r14_49 (d : Nat) (u v : Int32) (ls : tm_Lo) (st : List Value) (h : tm_H) (K : Option Value → tm_H → Prop) : tm_A d 14 49 ls (.int u :: .int v :: st) h K ↔ tm_A d 14 50 ls (.int (v * u) :: st) h K := tm_s o14_49 rfl rfl rfl
theorem o14_50 : tm_op 14 50 = some (.invokevirtual 51, (2, 17, 2, 1)) := rfl
theorem r14_50 (d : Nat) (v1 : Int32) (a : Nat) (ls : tm_Lo) (st : List Value) (h : tm_H) (K : Option Value → tm_H → Prop) : tm_A (d + 1) 14 50 ls (.int v1 :: .ref a :: st) h K ↔ (h.1.2.2 a = (0, 1) ∧ tm_cs st) ∧ tm_R d 17 [.ref a, .int v1] h (fun r h' => tm_A (d + 1) 14 53 ls (r.toList ++ st) h' K) := tm_callV (as := [.int v1]) o14_50 rfl rfl rfl rfl
theorem o14_53 : tm_op 14 53 = some (.aload_n 0, (0, 0, 0, 0)) := rfl
theorem r14_53 (d : Nat) (v : Nat) (l1 l2 : Option Value) (st : List Value) (h : tm_H) (K : Option Value → tm_H → Prop) : tm_A d 14 53 [some (.ref v), l1, l2] st h K ↔ tm_A d 14 54 [some (.ref v), l1, l2] (.ref v :: st) h K := tm_s o14_53 rfl rfl rfl
theorem o14_54 : tm_op 14 54 = some (.iconst 3, (0, 0, 0, 0)) := rfl
theorem r14_54 (d : Nat) (ls : tm_Lo) (st : List Value) (h : tm_H) (K : Option Value → tm_H → Prop) : tm_A d 14 54 ls st h K ↔ tm_A d 14 55 ls (.int (3 : Int32) :: st) h K := tm_ic o14_54 (by decide)
theorem o14_55 : tm_op 14 55 = some (.iload_n 2, (0, 0, 0, 0)) := rfl
theorem r14_55 (d : Nat) (v : Int32) (l0 l1 : Option Value) (st : List Value) (h : tm_H) (K : Option Value → tm_H → Prop) : tm_A d 14 55 [l0, l1, some (.int v)] st h K ↔ tm_A d 14 56 [l0, l1, some (.int v)] (.int v :: st) h K := tm_s o14_55 rfl rfl rfl
theorem o14_56 : tm_op 14 56 = some (.imul, (0, 0, 0, 0)) := rfl
theorem r14_56 (d : Nat) (u v : Int32) (ls : tm_Lo) (st : List Value) (h : tm_H) (K : Option Value → tm_H → Prop) : tm_A d 14 56 ls (.int u :: .int v :: st) h K ↔ tm_A d 14 57 ls (.int (v * u) :: st) h K := tm_s o14_56 rfl rfl rfl
theorem o14_57 : tm_op 14 57 = some (.invokevirtual 54, (2, 18, 2, 1)) := rfl
theorem r14_57 (d : Nat) (v1 : Int32) (a : Nat) (ls : tm_Lo) (st : List Value) (h : tm_H) (K : Option Value → tm_H → Prop) : tm_A (d + 1) 14 57 ls (.int v1 :: .ref a :: st) h K ↔ (h.1.2.2 a = (0, 1) ∧ tm_cs st) ∧ tm_R d 18 [.ref a, .int v1] h (fun r h' => tm_A (d + 1) 14 60 ls (r.toList ++ st) h' K) := tm_callV (as := [.int v1]) o14_57 rfl rfl rfl rfl
theorem o14_60 : tm_op 14 60 = some (.return_, (0, 0, 0, 0)) := rfl
theorem r14_60 (d : Nat) (ls : tm_Lo) (h : tm_H) (K : Option Value → tm_H → Prop) : tm_A d 14 60 ls [] h K ↔ K none h := tm_retv o14_60 rfl
theorem o15_0 : tm_op 15 0 = some (.iconst 0, (0, 0, 0, 0)) := rfl
theorem r15_0 (d : Nat) (ls : tm_Lo) (st : List Value) (h : tm_H) (K : Option Value → tm_H → Prop) : tm_A d 15 0 ls st h K ↔ tm_A d 15 1 ls (.int (0 : Int32) :: st) h K := tm_ic o15_0 (by decide)
theorem o15_1 : tm_op 15 1 = some (.istore_n 2, (0, 0, 0, 0)) := rfl
theorem r15_1 (d : Nat) (v : Int32) (l0 l1 l2 l3 l4 l5 l6 : Option Value) (st : List Value) (h : tm_H) (K : Option Value → tm_H → Prop) : tm_A d 15 1 [l0, l1, l2, l3, l4, l5, l6] (.int v :: st) h K ↔ tm_A d 15 2 [l0, l1, some (.int v), l3, l4, l5, l6] st h K := tm_s o15_1 rfl rfl rfl
theorem o15_2 : tm_op 15 2 = some (.iload_n 2, (0, 0, 0, 0)) := rfl
theorem r15_2 (d : Nat) (v : Int32) (l0 l1 l3 l4 l5 l6 : Option Value) (st : List Value) (h : tm_H) (K : Option Value → tm_H → Prop) : tm_A d 15 2 [l0, l1, some (.int v), l3, l4, l5, l6] st h K ↔ tm_A d 15 3 [l0, l1, some (.int v), l3, l4, l5, l6] (.int v :: st) h K := tm_s o15_2 rfl rfl rfl
theorem o15_3 : tm_op 15 3 = some (.aload_n 0, (0, 0, 0, 0)) := rfl
theorem r15_3 (d : Nat) (v : Nat) (l1 l2 l3 l4 l5 l6 : Option Value) (st : List Value) (h : tm_H) (K : Option Value → tm_H → Prop) : tm_A d 15 3 [some (.ref v), l1, l2, l3, l4, l5, l6] st h K ↔ tm_A d 15 4 [some (.ref v), l1, l2, l3, l4, l5, l6] (.ref v :: st) h K := tm_s o15_3 rfl rfl rfl
theorem o15_4 : tm_op 15 4 = some (.getfield 27, (0, 1, 4, 0)) := rfl
theorem r15_4 (d : Nat) (a : Nat) (ls : tm_Lo) (st : List Value) (G : tm_G) (I : Nat → Nat → Int32) (J : Nat → Nat → Int64) (R : Nat → Nat → Option Nat) (K : Option Value → tm_H → Prop) : tm_A d 15 4 ls (.ref a :: st) (G, I, J, R) K ↔ G.2.2 a = (0, 1) ∧ tm_A d 15 7 ls (.int (I a 4) :: st) (G, I, J, R) K := tm_getI o15_4
theorem o15_7 : tm_op 15 7 = some (.if_icmp .ge 71, (0, 0, 0, 0)) := rfl
theorem r15_7 (d : Nat) (y x : Int32) (ls : tm_Lo) (st : List Value) (h : tm_H) (K : Option Value → tm_H → Prop) : tm_A d 15 7 ls (.int y :: .int x :: st) h K ↔ if y ≤ x then tm_A d 15 78 ls st h K else tm_A d 15 10 ls st h K := tm_b o15_7 rfl rfl rfl rfl
theorem o15_10 : tm_op 15 10 = some (.aload_n 1, (0, 0, 0, 0)) := rfl
theorem r15_10 (d : Nat) (v : Nat) (l0 l2 l3 l4 l5 l6 : Option Value) (st : List Value) (h : tm_H) (K : Option Value → tm_H → Prop) : tm_A d 15 10 [l0, some (.ref v), l2, l3, l4, l5, l6] st h K ↔ tm_A d 15 11 [l0, some (.ref v), l2, l3, l4, l5, l6] (.ref v :: st) h K := tm_s o15_10 rfl rfl rfl
theorem r15_10n (d : Nat)  (l0 l2 l3 l4 l5 l6 : Option Value) (st : List Value) (h : tm_H) (K : Option Value → tm_H → Prop) : tm_A d 15 10 [l0, some .null, l2, l3, l4, l5, l6] st h K ↔ tm_A d 15 11 [l0, some .null, l2, l3, l4, l5, l6] (.null :: st) h K := tm_s o15_10 rfl rfl rfl
theorem o15_11 : tm_op 15 11 = some (.iload_n 2, (0, 0, 0, 0)) := rfl
theorem r15_11 (d : Nat) (v : Int32) (l0 l1 l3 l4 l5 l6 : Option Value) (st : List Value) (h : tm_H) (K : Option Value → tm_H → Prop) : tm_A d 15 11 [l0, l1, some (.int v), l3, l4, l5, l6] st h K ↔ tm_A d 15 12 [l0, l1, some (.int v), l3, l4, l5, l6] (.int v :: st) h K := tm_s o15_11 rfl rfl rfl
theorem o15_12 : tm_op 15 12 = some (.invokevirtual 57, (2, 46, 2, 4)) := rfl
theorem r15_12 (d : Nat) (v1 : Int32) (a : Nat) (ls : tm_Lo) (st : List Value) (h : tm_H) (K : Option Value → tm_H → Prop) : tm_A (d + 1) 15 12 ls (.int v1 :: .ref a :: st) h K ↔ (h.1.2.2 a = (0, 4) ∧ tm_cs st) ∧ tm_R d 46 [.ref a, .int v1] h (fun r h' => tm_A (d + 1) 15 15 ls (r.toList ++ st) h' K) := tm_callV (as := [.int v1]) o15_12 rfl rfl rfl rfl
theorem o15_15 : tm_op 15 15 = some (.istore_n 3, (0, 0, 0, 0)) := rfl
theorem r15_15 (d : Nat) (v : Int32) (l0 l1 l2 l3 l4 l5 l6 : Option Value) (st : List Value) (h : tm_H) (K : Option Value → tm_H → Prop) : tm_A d 15 15 [l0, l1, l2, l3, l4, l5, l6] (.int v :: st) h K ↔ tm_A d 15 16 [l0, l1, l2, some (.int v), l4, l5, l6] st h K := tm_s o15_15 rfl rfl rfl
theorem o15_16 : tm_op 15 16 = some (.iconst 1, (0, 0, 0, 0)) := rfl
theorem r15_16 (d : Nat) (ls : tm_Lo) (st : List Value) (h : tm_H) (K : Option Value → tm_H → Prop) : tm_A d 15 16 ls st h K ↔ tm_A d 15 17 ls (.int (1 : Int32) :: st) h K := tm_ic o15_16 (by decide)
theorem o15_17 : tm_op 15 17 = some (.istore 4, (0, 0, 0, 0)) := rfl
theorem r15_17 (d : Nat) (v : Int32) (l0 l1 l2 l3 l4 l5 l6 : Option Value) (st : List Value) (h : tm_H) (K : Option Value → tm_H → Prop) : tm_A d 15 17 [l0, l1, l2, l3, l4, l5, l6] (.int v :: st) h K ↔ tm_A d 15 19 [l0, l1, l2, l3, some (.int v), l5, l6] st h K := tm_s o15_17 rfl rfl rfl
theorem o15_19 : tm_op 15 19 = some (.iload 4, (0, 0, 0, 0)) := rfl
theorem r15_19 (d : Nat) (v : Int32) (l0 l1 l2 l3 l5 l6 : Option Value) (st : List Value) (h : tm_H) (K : Option Value → tm_H → Prop) : tm_A d 15 19 [l0, l1, l2, l3, some (.int v), l5, l6] st h K ↔ tm_A d 15 21 [l0, l1, l2, l3, some (.int v), l5, l6] (.int v :: st) h K := tm_s o15_19 rfl rfl rfl
theorem o15_21 : tm_op 15 21 = some (.bipush 31, (0, 0, 0, 0)) := rfl
theorem r15_21 (d : Nat) (ls : tm_Lo) (st : List Value) (h : tm_H) (K : Option Value → tm_H → Prop) : tm_A d 15 21 ls st h K ↔ tm_A d 15 23 ls (.int (31 : Int32) :: st) h K := tm_bp o15_21 (by decide)
theorem o15_23 : tm_op 15 23 = some (.if_icmp .gt 49, (0, 0, 0, 0)) := rfl
theorem r15_23 (d : Nat) (y x : Int32) (ls : tm_Lo) (st : List Value) (h : tm_H) (K : Option Value → tm_H → Prop) : tm_A d 15 23 ls (.int y :: .int x :: st) h K ↔ if y < x then tm_A d 15 72 ls st h K else tm_A d 15 26 ls st h K := tm_b o15_23 rfl rfl rfl rfl
theorem o15_26 : tm_op 15 26 = some (.iload 4, (0, 0, 0, 0)) := rfl
theorem r15_26 (d : Nat) (v : Int32) (l0 l1 l2 l3 l5 l6 : Option Value) (st : List Value) (h : tm_H) (K : Option Value → tm_H → Prop) : tm_A d 15 26 [l0, l1, l2, l3, some (.int v), l5, l6] st h K ↔ tm_A d 15 28 [l0, l1, l2, l3, some (.int v), l5, l6] (.int v :: st) h K := tm_s o15_26 rfl rfl rfl
theorem o15_28 : tm_op 15 28 = some (.iload_n 3, (0, 0, 0, 0)) := rfl
theorem r15_28 (d : Nat) (v : Int32) (l0 l1 l2 l4 l5 l6 : Option Value) (st : List Value) (h : tm_H) (K : Option Value → tm_H → Prop) : tm_A d 15 28 [l0, l1, l2, some (.int v), l4, l5, l6] st h K ↔ tm_A d 15 29 [l0, l1, l2, some (.int v), l4, l5, l6] (.int v :: st) h K := tm_s o15_28 rfl rfl rfl
theorem o15_29 : tm_op 15 29 = some (.iconst (-1), (0, 0, 0, 0)) := rfl
theorem r15_29 (d : Nat) (ls : tm_Lo) (st : List Value) (h : tm_H) (K : Option Value → tm_H → Prop) : tm_A d 15 29 ls st h K ↔ tm_A d 15 30 ls (.int (-1 : Int32) :: st) h K := tm_ic o15_29 (by decide)
theorem o15_30 : tm_op 15 30 = some (.ixor, (0, 0, 0, 0)) := rfl
theorem r15_30 (d : Nat) (u v : Int32) (ls : tm_Lo) (st : List Value) (h : tm_H) (K : Option Value → tm_H → Prop) : tm_A d 15 30 ls (.int u :: .int v :: st) h K ↔ tm_A d 15 31 ls (.int (v ^^^ u) :: st) h K := tm_s o15_30 rfl rfl rfl
theorem o15_31 : tm_op 15 31 = some (.iand, (0, 0, 0, 0)) := rfl
theorem r15_31 (d : Nat) (u v : Int32) (ls : tm_Lo) (st : List Value) (h : tm_H) (K : Option Value → tm_H → Prop) : tm_A d 15 31 ls (.int u :: .int v :: st) h K ↔ tm_A d 15 32 ls (.int (v &&& u) :: st) h K := tm_s o15_31 rfl rfl rfl
theorem o15_32 : tm_op 15 32 = some (.invokestatic 61, (1, 174, 1, 0)) := rfl
theorem r15_32 (d : Nat) (v0 : Int32) (ls : tm_Lo) (st : List Value) (h : tm_H) (K : Option Value → tm_H → Prop) : tm_A (d + 1) 15 32 ls (.int v0 :: st) h K ↔ tm_cs st ∧ tm_R d 174 [.int v0] h (fun r h' => tm_A (d + 1) 15 35 ls (r.toList ++ st) h' K) := tm_callS (as := [.int v0]) o15_32 rfl rfl rfl rfl
theorem o15_35 : tm_op 15 35 = some (.istore 5, (0, 0, 0, 0)) := rfl
theorem r15_35 (d : Nat) (v : Int32) (l0 l1 l2 l3 l4 l5 l6 : Option Value) (st : List Value) (h : tm_H) (K : Option Value → tm_H → Prop) : tm_A d 15 35 [l0, l1, l2, l3, l4, l5, l6] (.int v :: st) h K ↔ tm_A d 15 37 [l0, l1, l2, l3, l4, some (.int v), l6] st h K := tm_s o15_35 rfl rfl rfl
theorem o15_37 : tm_op 15 37 = some (.iload_n 3, (0, 0, 0, 0)) := rfl
theorem r15_37 (d : Nat) (v : Int32) (l0 l1 l2 l4 l5 l6 : Option Value) (st : List Value) (h : tm_H) (K : Option Value → tm_H → Prop) : tm_A d 15 37 [l0, l1, l2, some (.int v), l4, l5, l6] st h K ↔ tm_A d 15 38 [l0, l1, l2, some (.int v), l4, l5, l6] (.int v :: st) h K := tm_s o15_37 rfl rfl rfl
theorem o15_38 : tm_op 15 38 = some (.iload 4, (0, 0, 0, 0)) := rfl
theorem r15_38 (d : Nat) (v : Int32) (l0 l1 l2 l3 l5 l6 : Option Value) (st : List Value) (h : tm_H) (K : Option Value → tm_H → Prop) : tm_A d 15 38 [l0, l1, l2, l3, some (.int v), l5, l6] st h K ↔ tm_A d 15 40 [l0, l1, l2, l3, some (.int v), l5, l6] (.int v :: st) h K := tm_s o15_38 rfl rfl rfl
theorem o15_40 : tm_op 15 40 = some (.iconst (-1), (0, 0, 0, 0)) := rfl
theorem r15_40 (d : Nat) (ls : tm_Lo) (st : List Value) (h : tm_H) (K : Option Value → tm_H → Prop) : tm_A d 15 40 ls st h K ↔ tm_A d 15 41 ls (.int (-1 : Int32) :: st) h K := tm_ic o15_40 (by decide)
theorem o15_41 : tm_op 15 41 = some (.ixor, (0, 0, 0, 0)) := rfl
theorem r15_41 (d : Nat) (u v : Int32) (ls : tm_Lo) (st : List Value) (h : tm_H) (K : Option Value → tm_H → Prop) : tm_A d 15 41 ls (.int u :: .int v :: st) h K ↔ tm_A d 15 42 ls (.int (v ^^^ u) :: st) h K := tm_s o15_41 rfl rfl rfl
theorem o15_42 : tm_op 15 42 = some (.iand, (0, 0, 0, 0)) := rfl
theorem r15_42 (d : Nat) (u v : Int32) (ls : tm_Lo) (st : List Value) (h : tm_H) (K : Option Value → tm_H → Prop) : tm_A d 15 42 ls (.int u :: .int v :: st) h K ↔ tm_A d 15 43 ls (.int (v &&& u) :: st) h K := tm_s o15_42 rfl rfl rfl
theorem o15_43 : tm_op 15 43 = some (.invokestatic 61, (1, 174, 1, 0)) := rfl
theorem r15_43 (d : Nat) (v0 : Int32) (ls : tm_Lo) (st : List Value) (h : tm_H) (K : Option Value → tm_H → Prop) : tm_A (d + 1) 15 43 ls (.int v0 :: st) h K ↔ tm_cs st ∧ tm_R d 174 [.int v0] h (fun r h' => tm_A (d + 1) 15 46 ls (r.toList ++ st) h' K) := tm_callS (as := [.int v0]) o15_43 rfl rfl rfl rfl
theorem o15_46 : tm_op 15 46 = some (.istore 6, (0, 0, 0, 0)) := rfl
theorem r15_46 (d : Nat) (v : Int32) (l0 l1 l2 l3 l4 l5 l6 : Option Value) (st : List Value) (h : tm_H) (K : Option Value → tm_H → Prop) : tm_A d 15 46 [l0, l1, l2, l3, l4, l5, l6] (.int v :: st) h K ↔ tm_A d 15 48 [l0, l1, l2, l3, l4, l5, some (.int v)] st h K := tm_s o15_46 rfl rfl rfl
theorem o15_48 : tm_op 15 48 = some (.aload_n 0, (0, 0, 0, 0)) := rfl
theorem r15_48 (d : Nat) (v : Nat) (l1 l2 l3 l4 l5 l6 : Option Value) (st : List Value) (h : tm_H) (K : Option Value → tm_H → Prop) : tm_A d 15 48 [some (.ref v), l1, l2, l3, l4, l5, l6] st h K ↔ tm_A d 15 49 [some (.ref v), l1, l2, l3, l4, l5, l6] (.ref v :: st) h K := tm_s o15_48 rfl rfl rfl
theorem o15_49 : tm_op 15 49 = some (.getfield 11, (2, 1, 0, 0)) := rfl
theorem r15_49 (d : Nat) (a : Nat) (ls : tm_Lo) (st : List Value) (G : tm_G) (I : Nat → Nat → Int32) (J : Nat → Nat → Int64) (R : Nat → Nat → Option Nat) (K : Option Value → tm_H → Prop) : tm_A d 15 49 ls (.ref a :: st) (G, I, J, R) K ↔ G.2.2 a = (0, 1) ∧ tm_A d 15 52 ls (tm_rf (R a 0) :: st) (G, I, J, R) K := tm_getR o15_49
theorem o15_52 : tm_op 15 52 = some (.iload_n 2, (0, 0, 0, 0)) := rfl
theorem r15_52 (d : Nat) (v : Int32) (l0 l1 l3 l4 l5 l6 : Option Value) (st : List Value) (h : tm_H) (K : Option Value → tm_H → Prop) : tm_A d 15 52 [l0, l1, some (.int v), l3, l4, l5, l6] st h K ↔ tm_A d 15 53 [l0, l1, some (.int v), l3, l4, l5, l6] (.int v :: st) h K := tm_s o15_52 rfl rfl rfl
theorem o15_53 : tm_op 15 53 = some (.aaload, (0, 0, 0, 0)) := rfl
theorem r15_53 (d : Nat) (v : Int32) (a : Nat) (ls : tm_Lo) (st : List Value) (G : tm_G) (I : Nat → Nat → Int32) (J : Nat → Nat → Int64) (R : Nat → Nat → Option Nat) (K : Option Value → tm_H → Prop) : tm_A d 15 53 ls (.int v :: .ref a :: st) (G, I, J, R) K ↔ (((G.2.2 a).1 = 3 ∨ (G.2.2 a).1 = 4 ∨ (G.2.2 a).1 = 5) ∧ tm_in v (G.2.2 a).2) ∧ tm_A d 15 54 ls (tm_rf (R a (tm_ix v)) :: st) (G, I, J, R) K := tm_aald o15_53
theorem o15_54 : tm_op 15 54 = some (.iload 4, (0, 0, 0, 0)) := rfl
theorem r15_54 (d : Nat) (v : Int32) (l0 l1 l2 l3 l5 l6 : Option Value) (st : List Value) (h : tm_H) (K : Option Value → tm_H → Prop) : tm_A d 15 54 [l0, l1, l2, l3, some (.int v), l5, l6] st h K ↔ tm_A d 15 56 [l0, l1, l2, l3, some (.int v), l5, l6] (.int v :: st) h K := tm_s o15_54 rfl rfl rfl
theorem o15_56 : tm_op 15 56 = some (.iconst 1, (0, 0, 0, 0)) := rfl
theorem r15_56 (d : Nat) (ls : tm_Lo) (st : List Value) (h : tm_H) (K : Option Value → tm_H → Prop) : tm_A d 15 56 ls st h K ↔ tm_A d 15 57 ls (.int (1 : Int32) :: st) h K := tm_ic o15_56 (by decide)
theorem o15_57 : tm_op 15 57 = some (.iload 5, (0, 0, 0, 0)) := rfl
theorem r15_57 (d : Nat) (v : Int32) (l0 l1 l2 l3 l4 l6 : Option Value) (st : List Value) (h : tm_H) (K : Option Value → tm_H → Prop) : tm_A d 15 57 [l0, l1, l2, l3, l4, some (.int v), l6] st h K ↔ tm_A d 15 59 [l0, l1, l2, l3, l4, some (.int v), l6] (.int v :: st) h K := tm_s o15_57 rfl rfl rfl
theorem o15_59 : tm_op 15 59 = some (.imul, (0, 0, 0, 0)) := rfl
theorem r15_59 (d : Nat) (u v : Int32) (ls : tm_Lo) (st : List Value) (h : tm_H) (K : Option Value → tm_H → Prop) : tm_A d 15 59 ls (.int u :: .int v :: st) h K ↔ tm_A d 15 60 ls (.int (v * u) :: st) h K := tm_s o15_59 rfl rfl rfl
theorem o15_60 : tm_op 15 60 = some (.iconst 2, (0, 0, 0, 0)) := rfl
theorem r15_60 (d : Nat) (ls : tm_Lo) (st : List Value) (h : tm_H) (K : Option Value → tm_H → Prop) : tm_A d 15 60 ls st h K ↔ tm_A d 15 61 ls (.int (2 : Int32) :: st) h K := tm_ic o15_60 (by decide)
theorem o15_61 : tm_op 15 61 = some (.iload 6, (0, 0, 0, 0)) := rfl
theorem r15_61 (d : Nat) (v : Int32) (l0 l1 l2 l3 l4 l5 : Option Value) (st : List Value) (h : tm_H) (K : Option Value → tm_H → Prop) : tm_A d 15 61 [l0, l1, l2, l3, l4, l5, some (.int v)] st h K ↔ tm_A d 15 63 [l0, l1, l2, l3, l4, l5, some (.int v)] (.int v :: st) h K := tm_s o15_61 rfl rfl rfl
theorem o15_63 : tm_op 15 63 = some (.imul, (0, 0, 0, 0)) := rfl
theorem r15_63 (d : Nat) (u v : Int32) (ls : tm_Lo) (st : List Value) (h : tm_H) (K : Option Value → tm_H → Prop) : tm_A d 15 63 ls (.int u :: .int v :: st) h K ↔ tm_A d 15 64 ls (.int (v * u) :: st) h K := tm_s o15_63 rfl rfl rfl
theorem o15_64 : tm_op 15 64 = some (.iadd, (0, 0, 0, 0)) := rfl
theorem r15_64 (d : Nat) (u v : Int32) (ls : tm_Lo) (st : List Value) (h : tm_H) (K : Option Value → tm_H → Prop) : tm_A d 15 64 ls (.int u :: .int v :: st) h K ↔ tm_A d 15 65 ls (.int (v + u) :: st) h K := tm_s o15_64 rfl rfl rfl
theorem o15_65 : tm_op 15 65 = some (.iastore, (0, 0, 0, 0)) := rfl
theorem r15_65 (d : Nat) (u v : Int32) (a : Nat) (ls : tm_Lo) (st : List Value) (G : tm_G) (I : Nat → Nat → Int32) (J : Nat → Nat → Int64) (R : Nat → Nat → Option Nat) (K : Option Value → tm_H → Prop) : tm_A d 15 65 ls (.int u :: .int v :: .ref a :: st) (G, I, J, R) K ↔ (3 ≤ a ∧ (G.2.2 a).1 = 1 ∧ tm_in v (G.2.2 a).2) ∧ tm_A d 15 66 ls st (G, up2 I a (tm_ix v) u, J, R) K := tm_iast o15_65
theorem o15_66 : tm_op 15 66 = some (.iinc 4 1, (0, 0, 0, 0)) := rfl
theorem r15_66 (d : Nat) (v : Int32) (l0 l1 l2 l3 l5 l6 : Option Value) (st : List Value) (h : tm_H) (K : Option Value → tm_H → Prop) : tm_A d 15 66 [l0, l1, l2, l3, some (.int v), l5, l6] st h K ↔ tm_A d 15 69 [l0, l1, l2, l3, some (.int (v + (1 : Int32))), l5, l6] st h K := tm_s o15_66 rfl rfl rfl
theorem o15_69 : tm_op 15 69 = some (.goto (-50), (0, 0, 0, 0)) := rfl
theorem r15_69 (d : Nat) (ls : tm_Lo) (st : List Value) (h : tm_H) (K : Option Value → tm_H → Prop) : tm_A d 15 69 ls st h K ↔ tm_A d 15 19 ls st h K := tm_s o15_69 rfl rfl rfl
theorem o15_72 : tm_op 15 72 = some (.iinc 2 1, (0, 0, 0, 0)) := rfl
theorem r15_72 (d : Nat) (v : Int32) (l0 l1 l3 l4 l5 l6 : Option Value) (st : List Value) (h : tm_H) (K : Option Value → tm_H → Prop) : tm_A d 15 72 [l0, l1, some (.int v), l3, l4, l5, l6] st h K ↔ tm_A d 15 75 [l0, l1, some (.int (v + (1 : Int32))), l3, l4, l5, l6] st h K := tm_s o15_72 rfl rfl rfl
theorem o15_75 : tm_op 15 75 = some (.goto (-73), (0, 0, 0, 0)) := rfl
theorem r15_75 (d : Nat) (ls : tm_Lo) (st : List Value) (h : tm_H) (K : Option Value → tm_H → Prop) : tm_A d 15 75 ls st h K ↔ tm_A d 15 2 ls st h K := tm_s o15_75 rfl rfl rfl
theorem o15_78 : tm_op 15 78 = some (.return_, (0, 0, 0, 0)) := rfl
theorem r15_78 (d : Nat) (ls : tm_Lo) (h : tm_H) (K : Option Value → tm_H → Prop) : tm_A d 15 78 ls [] h K ↔ K none h := tm_retv o15_78 rfl
theorem o16_0 : tm_op 16 0 = some (.iconst 1, (0, 0, 0, 0)) := rfl
theorem r16_0 (d : Nat) (ls : tm_Lo) (st : List Value) (h : tm_H) (K : Option Value → tm_H → Prop) : tm_A d 16 0 ls st h K ↔ tm_A d 16 1 ls (.int (1 : Int32) :: st) h K := tm_ic o16_0 (by decide)
theorem o16_1 : tm_op 16 1 = some (.istore_n 2, (0, 0, 0, 0)) := rfl
theorem r16_1 (d : Nat) (v : Int32) (l0 l1 l2 : Option Value) (st : List Value) (h : tm_H) (K : Option Value → tm_H → Prop) : tm_A d 16 1 [l0, l1, l2] (.int v :: st) h K ↔ tm_A d 16 2 [l0, l1, some (.int v)] st h K := tm_s o16_1 rfl rfl rfl
theorem o16_2 : tm_op 16 2 = some (.iload_n 2, (0, 0, 0, 0)) := rfl
theorem r16_2 (d : Nat) (v : Int32) (l0 l1 : Option Value) (st : List Value) (h : tm_H) (K : Option Value → tm_H → Prop) : tm_A d 16 2 [l0, l1, some (.int v)] st h K ↔ tm_A d 16 3 [l0, l1, some (.int v)] (.int v :: st) h K := tm_s o16_2 rfl rfl rfl
theorem o16_3 : tm_op 16 3 = some (.bipush 31, (0, 0, 0, 0)) := rfl
theorem r16_3 (d : Nat) (ls : tm_Lo) (st : List Value) (h : tm_H) (K : Option Value → tm_H → Prop) : tm_A d 16 3 ls st h K ↔ tm_A d 16 5 ls (.int (31 : Int32) :: st) h K := tm_bp o16_3 (by decide)
theorem o16_5 : tm_op 16 5 = some (.if_icmp .gt 25, (0, 0, 0, 0)) := rfl
theorem r16_5 (d : Nat) (y x : Int32) (ls : tm_Lo) (st : List Value) (h : tm_H) (K : Option Value → tm_H → Prop) : tm_A d 16 5 ls (.int y :: .int x :: st) h K ↔ if y < x then tm_A d 16 30 ls st h K else tm_A d 16 8 ls st h K := tm_b o16_5 rfl rfl rfl rfl
theorem o16_8 : tm_op 16 8 = some (.aload_n 0, (0, 0, 0, 0)) := rfl
theorem r16_8 (d : Nat) (v : Nat) (l1 l2 : Option Value) (st : List Value) (h : tm_H) (K : Option Value → tm_H → Prop) : tm_A d 16 8 [some (.ref v), l1, l2] st h K ↔ tm_A d 16 9 [some (.ref v), l1, l2] (.ref v :: st) h K := tm_s o16_8 rfl rfl rfl
theorem o16_9 : tm_op 16 9 = some (.iload_n 1, (0, 0, 0, 0)) := rfl
theorem r16_9 (d : Nat) (v : Int32) (l0 l2 : Option Value) (st : List Value) (h : tm_H) (K : Option Value → tm_H → Prop) : tm_A d 16 9 [l0, some (.int v), l2] st h K ↔ tm_A d 16 10 [l0, some (.int v), l2] (.int v :: st) h K := tm_s o16_9 rfl rfl rfl
theorem o16_10 : tm_op 16 10 = some (.iload_n 2, (0, 0, 0, 0)) := rfl
theorem r16_10 (d : Nat) (v : Int32) (l0 l1 : Option Value) (st : List Value) (h : tm_H) (K : Option Value → tm_H → Prop) : tm_A d 16 10 [l0, l1, some (.int v)] st h K ↔ tm_A d 16 11 [l0, l1, some (.int v)] (.int v :: st) h K := tm_s o16_10 rfl rfl rfl
theorem o16_11 : tm_op 16 11 = some (.iload_n 2, (0, 0, 0, 0)) := rfl
theorem r16_11 (d : Nat) (v : Int32) (l0 l1 : Option Value) (st : List Value) (h : tm_H) (K : Option Value → tm_H → Prop) : tm_A d 16 11 [l0, l1, some (.int v)] st h K ↔ tm_A d 16 12 [l0, l1, some (.int v)] (.int v :: st) h K := tm_s o16_11 rfl rfl rfl
theorem o16_12 : tm_op 16 12 = some (.iload_n 2, (0, 0, 0, 0)) := rfl
theorem r16_12 (d : Nat) (v : Int32) (l0 l1 : Option Value) (st : List Value) (h : tm_H) (K : Option Value → tm_H → Prop) : tm_A d 16 12 [l0, l1, some (.int v)] st h K ↔ tm_A d 16 13 [l0, l1, some (.int v)] (.int v :: st) h K := tm_s o16_12 rfl rfl rfl
theorem o16_13 : tm_op 16 13 = some (.invokevirtual 66, (2, 19, 5, 1)) := rfl
theorem r16_13 (d : Nat) (v1 : Int32) (v2 : Int32) (v3 : Int32) (v4 : Int32) (a : Nat) (ls : tm_Lo) (st : List Value) (h : tm_H) (K : Option Value → tm_H → Prop) : tm_A (d + 1) 16 13 ls (.int v4 :: .int v3 :: .int v2 :: .int v1 :: .ref a :: st) h K ↔ (h.1.2.2 a = (0, 1) ∧ tm_cs st) ∧ tm_R d 19 [.ref a, .int v1, .int v2, .int v3, .int v4] h (fun r h' => tm_A (d + 1) 16 16 ls (r.toList ++ st) h' K) := tm_callV (as := [.int v1, .int v2, .int v3, .int v4]) o16_13 rfl rfl rfl rfl
theorem o16_16 : tm_op 16 16 = some (.ifCond .eq 8, (0, 0, 0, 0)) := rfl
theorem r16_16 (d : Nat) (x : Int32) (ls : tm_Lo) (st : List Value) (h : tm_H) (K : Option Value → tm_H → Prop) : tm_A d 16 16 ls (.int x :: st) h K ↔ if x = 0 then tm_A d 16 24 ls st h K else tm_A d 16 19 ls st h K := tm_b o16_16 rfl rfl rfl rfl
theorem o16_19 : tm_op 16 19 = some (.aload_n 0, (0, 0, 0, 0)) := rfl
theorem r16_19 (d : Nat) (v : Nat) (l1 l2 : Option Value) (st : List Value) (h : tm_H) (K : Option Value → tm_H → Prop) : tm_A d 16 19 [some (.ref v), l1, l2] st h K ↔ tm_A d 16 20 [some (.ref v), l1, l2] (.ref v :: st) h K := tm_s o16_19 rfl rfl rfl
theorem o16_20 : tm_op 16 20 = some (.iconst 1, (0, 0, 0, 0)) := rfl
theorem r16_20 (d : Nat) (ls : tm_Lo) (st : List Value) (h : tm_H) (K : Option Value → tm_H → Prop) : tm_A d 16 20 ls st h K ↔ tm_A d 16 21 ls (.int (1 : Int32) :: st) h K := tm_ic o16_20 (by decide)
theorem o16_21 : tm_op 16 21 = some (.putfield 20, (0, 1, 2, 0)) := rfl
theorem r16_21 (d : Nat) (v : Int32) (a : Nat) (ls : tm_Lo) (st : List Value) (G : tm_G) (I : Nat → Nat → Int32) (J : Nat → Nat → Int64) (R : Nat → Nat → Option Nat) (K : Option Value → tm_H → Prop) : tm_A d 16 21 ls (.int v :: .ref a :: st) (G, I, J, R) K ↔ G.2.2 a = (0, 1) ∧ tm_A d 16 24 ls st (G, up2 I a 2 v, J, R) K := tm_putI o16_21
theorem o16_24 : tm_op 16 24 = some (.iinc 2 1, (0, 0, 0, 0)) := rfl
theorem r16_24 (d : Nat) (v : Int32) (l0 l1 : Option Value) (st : List Value) (h : tm_H) (K : Option Value → tm_H → Prop) : tm_A d 16 24 [l0, l1, some (.int v)] st h K ↔ tm_A d 16 27 [l0, l1, some (.int (v + (1 : Int32)))] st h K := tm_s o16_24 rfl rfl rfl
theorem o16_27 : tm_op 16 27 = some (.goto (-25), (0, 0, 0, 0)) := rfl
theorem r16_27 (d : Nat) (ls : tm_Lo) (st : List Value) (h : tm_H) (K : Option Value → tm_H → Prop) : tm_A d 16 27 ls st h K ↔ tm_A d 16 2 ls st h K := tm_s o16_27 rfl rfl rfl
theorem o16_30 : tm_op 16 30 = some (.return_, (0, 0, 0, 0)) := rfl
theorem r16_30 (d : Nat) (ls : tm_Lo) (h : tm_H) (K : Option Value → tm_H → Prop) : tm_A d 16 30 ls [] h K ↔ K none h := tm_retv o16_30 rfl
theorem o17_0 : tm_op 17 0 = some (.iconst 1, (0, 0, 0, 0)) := rfl
theorem r17_0 (d : Nat) (ls : tm_Lo) (st : List Value) (h : tm_H) (K : Option Value → tm_H → Prop) : tm_A d 17 0 ls st h K ↔ tm_A d 17 1 ls (.int (1 : Int32) :: st) h K := tm_ic o17_0 (by decide)
theorem o17_1 : tm_op 17 1 = some (.istore_n 2, (0, 0, 0, 0)) := rfl
theorem r17_1 (d : Nat) (v : Int32) (l0 l1 l2 l3 : Option Value) (st : List Value) (h : tm_H) (K : Option Value → tm_H → Prop) : tm_A d 17 1 [l0, l1, l2, l3] (.int v :: st) h K ↔ tm_A d 17 2 [l0, l1, some (.int v), l3] st h K := tm_s o17_1 rfl rfl rfl
theorem o17_2 : tm_op 17 2 = some (.iload_n 2, (0, 0, 0, 0)) := rfl
theorem r17_2 (d : Nat) (v : Int32) (l0 l1 l3 : Option Value) (st : List Value) (h : tm_H) (K : Option Value → tm_H → Prop) : tm_A d 17 2 [l0, l1, some (.int v), l3] st h K ↔ tm_A d 17 3 [l0, l1, some (.int v), l3] (.int v :: st) h K := tm_s o17_2 rfl rfl rfl
theorem o17_3 : tm_op 17 3 = some (.bipush 31, (0, 0, 0, 0)) := rfl
theorem r17_3 (d : Nat) (ls : tm_Lo) (st : List Value) (h : tm_H) (K : Option Value → tm_H → Prop) : tm_A d 17 3 ls st h K ↔ tm_A d 17 5 ls (.int (31 : Int32) :: st) h K := tm_bp o17_3 (by decide)
theorem o17_5 : tm_op 17 5 = some (.if_icmp .gt 41, (0, 0, 0, 0)) := rfl
theorem r17_5 (d : Nat) (y x : Int32) (ls : tm_Lo) (st : List Value) (h : tm_H) (K : Option Value → tm_H → Prop) : tm_A d 17 5 ls (.int y :: .int x :: st) h K ↔ if y < x then tm_A d 17 46 ls st h K else tm_A d 17 8 ls st h K := tm_b o17_5 rfl rfl rfl rfl
theorem o17_8 : tm_op 17 8 = some (.iload_n 2, (0, 0, 0, 0)) := rfl
theorem r17_8 (d : Nat) (v : Int32) (l0 l1 l3 : Option Value) (st : List Value) (h : tm_H) (K : Option Value → tm_H → Prop) : tm_A d 17 8 [l0, l1, some (.int v), l3] st h K ↔ tm_A d 17 9 [l0, l1, some (.int v), l3] (.int v :: st) h K := tm_s o17_8 rfl rfl rfl
theorem o17_9 : tm_op 17 9 = some (.iconst 1, (0, 0, 0, 0)) := rfl
theorem r17_9 (d : Nat) (ls : tm_Lo) (st : List Value) (h : tm_H) (K : Option Value → tm_H → Prop) : tm_A d 17 9 ls st h K ↔ tm_A d 17 10 ls (.int (1 : Int32) :: st) h K := tm_ic o17_9 (by decide)
theorem o17_10 : tm_op 17 10 = some (.iadd, (0, 0, 0, 0)) := rfl
theorem r17_10 (d : Nat) (u v : Int32) (ls : tm_Lo) (st : List Value) (h : tm_H) (K : Option Value → tm_H → Prop) : tm_A d 17 10 ls (.int u :: .int v :: st) h K ↔ tm_A d 17 11 ls (.int (v + u) :: st) h K := tm_s o17_10 rfl rfl rfl
theorem o17_11 : tm_op 17 11 = some (.istore_n 3, (0, 0, 0, 0)) := rfl
theorem r17_11 (d : Nat) (v : Int32) (l0 l1 l2 l3 : Option Value) (st : List Value) (h : tm_H) (K : Option Value → tm_H → Prop) : tm_A d 17 11 [l0, l1, l2, l3] (.int v :: st) h K ↔ tm_A d 17 12 [l0, l1, l2, some (.int v)] st h K := tm_s o17_11 rfl rfl rfl
theorem o17_12 : tm_op 17 12 = some (.iload_n 3, (0, 0, 0, 0)) := rfl
theorem r17_12 (d : Nat) (v : Int32) (l0 l1 l2 : Option Value) (st : List Value) (h : tm_H) (K : Option Value → tm_H → Prop) : tm_A d 17 12 [l0, l1, l2, some (.int v)] st h K ↔ tm_A d 17 13 [l0, l1, l2, some (.int v)] (.int v :: st) h K := tm_s o17_12 rfl rfl rfl
theorem o17_13 : tm_op 17 13 = some (.bipush 31, (0, 0, 0, 0)) := rfl
theorem r17_13 (d : Nat) (ls : tm_Lo) (st : List Value) (h : tm_H) (K : Option Value → tm_H → Prop) : tm_A d 17 13 ls st h K ↔ tm_A d 17 15 ls (.int (31 : Int32) :: st) h K := tm_bp o17_13 (by decide)
theorem o17_15 : tm_op 17 15 = some (.if_icmp .gt 25, (0, 0, 0, 0)) := rfl
theorem r17_15 (d : Nat) (y x : Int32) (ls : tm_Lo) (st : List Value) (h : tm_H) (K : Option Value → tm_H → Prop) : tm_A d 17 15 ls (.int y :: .int x :: st) h K ↔ if y < x then tm_A d 17 40 ls st h K else tm_A d 17 18 ls st h K := tm_b o17_15 rfl rfl rfl rfl
theorem o17_18 : tm_op 17 18 = some (.aload_n 0, (0, 0, 0, 0)) := rfl
theorem r17_18 (d : Nat) (v : Nat) (l1 l2 l3 : Option Value) (st : List Value) (h : tm_H) (K : Option Value → tm_H → Prop) : tm_A d 17 18 [some (.ref v), l1, l2, l3] st h K ↔ tm_A d 17 19 [some (.ref v), l1, l2, l3] (.ref v :: st) h K := tm_s o17_18 rfl rfl rfl
theorem o17_19 : tm_op 17 19 = some (.iload_n 1, (0, 0, 0, 0)) := rfl
theorem r17_19 (d : Nat) (v : Int32) (l0 l2 l3 : Option Value) (st : List Value) (h : tm_H) (K : Option Value → tm_H → Prop) : tm_A d 17 19 [l0, some (.int v), l2, l3] st h K ↔ tm_A d 17 20 [l0, some (.int v), l2, l3] (.int v :: st) h K := tm_s o17_19 rfl rfl rfl
theorem o17_20 : tm_op 17 20 = some (.iload_n 2, (0, 0, 0, 0)) := rfl
theorem r17_20 (d : Nat) (v : Int32) (l0 l1 l3 : Option Value) (st : List Value) (h : tm_H) (K : Option Value → tm_H → Prop) : tm_A d 17 20 [l0, l1, some (.int v), l3] st h K ↔ tm_A d 17 21 [l0, l1, some (.int v), l3] (.int v :: st) h K := tm_s o17_20 rfl rfl rfl
theorem o17_21 : tm_op 17 21 = some (.iload_n 3, (0, 0, 0, 0)) := rfl
theorem r17_21 (d : Nat) (v : Int32) (l0 l1 l2 : Option Value) (st : List Value) (h : tm_H) (K : Option Value → tm_H → Prop) : tm_A d 17 21 [l0, l1, l2, some (.int v)] st h K ↔ tm_A d 17 22 [l0, l1, l2, some (.int v)] (.int v :: st) h K := tm_s o17_21 rfl rfl rfl
theorem o17_22 : tm_op 17 22 = some (.iload_n 3, (0, 0, 0, 0)) := rfl
theorem r17_22 (d : Nat) (v : Int32) (l0 l1 l2 : Option Value) (st : List Value) (h : tm_H) (K : Option Value → tm_H → Prop) : tm_A d 17 22 [l0, l1, l2, some (.int v)] st h K ↔ tm_A d 17 23 [l0, l1, l2, some (.int v)] (.int v :: st) h K := tm_s o17_22 rfl rfl rfl
theorem o17_23 : tm_op 17 23 = some (.invokevirtual 66, (2, 19, 5, 1)) := rfl
theorem r17_23 (d : Nat) (v1 : Int32) (v2 : Int32) (v3 : Int32) (v4 : Int32) (a : Nat) (ls : tm_Lo) (st : List Value) (h : tm_H) (K : Option Value → tm_H → Prop) : tm_A (d + 1) 17 23 ls (.int v4 :: .int v3 :: .int v2 :: .int v1 :: .ref a :: st) h K ↔ (h.1.2.2 a = (0, 1) ∧ tm_cs st) ∧ tm_R d 19 [.ref a, .int v1, .int v2, .int v3, .int v4] h (fun r h' => tm_A (d + 1) 17 26 ls (r.toList ++ st) h' K) := tm_callV (as := [.int v1, .int v2, .int v3, .int v4]) o17_23 rfl rfl rfl rfl
theorem o17_26 : tm_op 17 26 = some (.ifCond .eq 8, (0, 0, 0, 0)) := rfl
theorem r17_26 (d : Nat) (x : Int32) (ls : tm_Lo) (st : List Value) (h : tm_H) (K : Option Value → tm_H → Prop) : tm_A d 17 26 ls (.int x :: st) h K ↔ if x = 0 then tm_A d 17 34 ls st h K else tm_A d 17 29 ls st h K := tm_b o17_26 rfl rfl rfl rfl
theorem o17_29 : tm_op 17 29 = some (.aload_n 0, (0, 0, 0, 0)) := rfl
theorem r17_29 (d : Nat) (v : Nat) (l1 l2 l3 : Option Value) (st : List Value) (h : tm_H) (K : Option Value → tm_H → Prop) : tm_A d 17 29 [some (.ref v), l1, l2, l3] st h K ↔ tm_A d 17 30 [some (.ref v), l1, l2, l3] (.ref v :: st) h K := tm_s o17_29 rfl rfl rfl
theorem o17_30 : tm_op 17 30 = some (.iconst 2, (0, 0, 0, 0)) := rfl
theorem r17_30 (d : Nat) (ls : tm_Lo) (st : List Value) (h : tm_H) (K : Option Value → tm_H → Prop) : tm_A d 17 30 ls st h K ↔ tm_A d 17 31 ls (.int (2 : Int32) :: st) h K := tm_ic o17_30 (by decide)
theorem o17_31 : tm_op 17 31 = some (.putfield 20, (0, 1, 2, 0)) := rfl
theorem r17_31 (d : Nat) (v : Int32) (a : Nat) (ls : tm_Lo) (st : List Value) (G : tm_G) (I : Nat → Nat → Int32) (J : Nat → Nat → Int64) (R : Nat → Nat → Option Nat) (K : Option Value → tm_H → Prop) : tm_A d 17 31 ls (.int v :: .ref a :: st) (G, I, J, R) K ↔ G.2.2 a = (0, 1) ∧ tm_A d 17 34 ls st (G, up2 I a 2 v, J, R) K := tm_putI o17_31
theorem o17_34 : tm_op 17 34 = some (.iinc 3 1, (0, 0, 0, 0)) := rfl
theorem r17_34 (d : Nat) (v : Int32) (l0 l1 l2 : Option Value) (st : List Value) (h : tm_H) (K : Option Value → tm_H → Prop) : tm_A d 17 34 [l0, l1, l2, some (.int v)] st h K ↔ tm_A d 17 37 [l0, l1, l2, some (.int (v + (1 : Int32)))] st h K := tm_s o17_34 rfl rfl rfl
theorem o17_37 : tm_op 17 37 = some (.goto (-25), (0, 0, 0, 0)) := rfl
theorem r17_37 (d : Nat) (ls : tm_Lo) (st : List Value) (h : tm_H) (K : Option Value → tm_H → Prop) : tm_A d 17 37 ls st h K ↔ tm_A d 17 12 ls st h K := tm_s o17_37 rfl rfl rfl
theorem o17_40 : tm_op 17 40 = some (.iinc 2 1, (0, 0, 0, 0)) := rfl
theorem r17_40 (d : Nat) (v : Int32) (l0 l1 l3 : Option Value) (st : List Value) (h : tm_H) (K : Option Value → tm_H → Prop) : tm_A d 17 40 [l0, l1, some (.int v), l3] st h K ↔ tm_A d 17 43 [l0, l1, some (.int (v + (1 : Int32))), l3] st h K := tm_s o17_40 rfl rfl rfl
theorem o17_43 : tm_op 17 43 = some (.goto (-41), (0, 0, 0, 0)) := rfl
theorem r17_43 (d : Nat) (ls : tm_Lo) (st : List Value) (h : tm_H) (K : Option Value → tm_H → Prop) : tm_A d 17 43 ls st h K ↔ tm_A d 17 2 ls st h K := tm_s o17_43 rfl rfl rfl
theorem o17_46 : tm_op 17 46 = some (.return_, (0, 0, 0, 0)) := rfl
theorem r17_46 (d : Nat) (ls : tm_Lo) (h : tm_H) (K : Option Value → tm_H → Prop) : tm_A d 17 46 ls [] h K ↔ K none h := tm_retv o17_46 rfl
theorem o18_0 : tm_op 18 0 = some (.iconst 1, (0, 0, 0, 0)) := rfl
theorem r18_0 (d : Nat) (ls : tm_Lo) (st : List Value) (h : tm_H) (K : Option Value → tm_H → Prop) : tm_A d 18 0 ls st h K ↔ tm_A d 18 1 ls (.int (1 : Int32) :: st) h K := tm_ic o18_0 (by decide)
theorem o18_1 : tm_op 18 1 = some (.istore_n 2, (0, 0, 0, 0)) := rfl
theorem r18_1 (d : Nat) (v : Int32) (l0 l1 l2 l3 l4 : Option Value) (st : List Value) (h : tm_H) (K : Option Value → tm_H → Prop) : tm_A d 18 1 [l0, l1, l2, l3, l4] (.int v :: st) h K ↔ tm_A d 18 2 [l0, l1, some (.int v), l3, l4] st h K := tm_s o18_1 rfl rfl rfl
theorem o18_2 : tm_op 18 2 = some (.iload_n 2, (0, 0, 0, 0)) := rfl
theorem r18_2 (d : Nat) (v : Int32) (l0 l1 l3 l4 : Option Value) (st : List Value) (h : tm_H) (K : Option Value → tm_H → Prop) : tm_A d 18 2 [l0, l1, some (.int v), l3, l4] st h K ↔ tm_A d 18 3 [l0, l1, some (.int v), l3, l4] (.int v :: st) h K := tm_s o18_2 rfl rfl rfl
theorem o18_3 : tm_op 18 3 = some (.bipush 31, (0, 0, 0, 0)) := rfl
theorem r18_3 (d : Nat) (ls : tm_Lo) (st : List Value) (h : tm_H) (K : Option Value → tm_H → Prop) : tm_A d 18 3 ls st h K ↔ tm_A d 18 5 ls (.int (31 : Int32) :: st) h K := tm_bp o18_3 (by decide)
theorem o18_5 : tm_op 18 5 = some (.if_icmp .gt 60, (0, 0, 0, 0)) := rfl
theorem r18_5 (d : Nat) (y x : Int32) (ls : tm_Lo) (st : List Value) (h : tm_H) (K : Option Value → tm_H → Prop) : tm_A d 18 5 ls (.int y :: .int x :: st) h K ↔ if y < x then tm_A d 18 65 ls st h K else tm_A d 18 8 ls st h K := tm_b o18_5 rfl rfl rfl rfl
theorem o18_8 : tm_op 18 8 = some (.iload_n 2, (0, 0, 0, 0)) := rfl
theorem r18_8 (d : Nat) (v : Int32) (l0 l1 l3 l4 : Option Value) (st : List Value) (h : tm_H) (K : Option Value → tm_H → Prop) : tm_A d 18 8 [l0, l1, some (.int v), l3, l4] st h K ↔ tm_A d 18 9 [l0, l1, some (.int v), l3, l4] (.int v :: st) h K := tm_s o18_8 rfl rfl rfl
theorem o18_9 : tm_op 18 9 = some (.iconst 1, (0, 0, 0, 0)) := rfl
theorem r18_9 (d : Nat) (ls : tm_Lo) (st : List Value) (h : tm_H) (K : Option Value → tm_H → Prop) : tm_A d 18 9 ls st h K ↔ tm_A d 18 10 ls (.int (1 : Int32) :: st) h K := tm_ic o18_9 (by decide)
theorem o18_10 : tm_op 18 10 = some (.iadd, (0, 0, 0, 0)) := rfl
theorem r18_10 (d : Nat) (u v : Int32) (ls : tm_Lo) (st : List Value) (h : tm_H) (K : Option Value → tm_H → Prop) : tm_A d 18 10 ls (.int u :: .int v :: st) h K ↔ tm_A d 18 11 ls (.int (v + u) :: st) h K := tm_s o18_10 rfl rfl rfl
theorem o18_11 : tm_op 18 11 = some (.istore_n 3, (0, 0, 0, 0)) := rfl
theorem r18_11 (d : Nat) (v : Int32) (l0 l1 l2 l3 l4 : Option Value) (st : List Value) (h : tm_H) (K : Option Value → tm_H → Prop) : tm_A d 18 11 [l0, l1, l2, l3, l4] (.int v :: st) h K ↔ tm_A d 18 12 [l0, l1, l2, some (.int v), l4] st h K := tm_s o18_11 rfl rfl rfl
theorem o18_12 : tm_op 18 12 = some (.iload_n 3, (0, 0, 0, 0)) := rfl
theorem r18_12 (d : Nat) (v : Int32) (l0 l1 l2 l4 : Option Value) (st : List Value) (h : tm_H) (K : Option Value → tm_H → Prop) : tm_A d 18 12 [l0, l1, l2, some (.int v), l4] st h K ↔ tm_A d 18 13 [l0, l1, l2, some (.int v), l4] (.int v :: st) h K := tm_s o18_12 rfl rfl rfl
theorem o18_13 : tm_op 18 13 = some (.bipush 31, (0, 0, 0, 0)) := rfl
theorem r18_13 (d : Nat) (ls : tm_Lo) (st : List Value) (h : tm_H) (K : Option Value → tm_H → Prop) : tm_A d 18 13 ls st h K ↔ tm_A d 18 15 ls (.int (31 : Int32) :: st) h K := tm_bp o18_13 (by decide)
theorem o18_15 : tm_op 18 15 = some (.if_icmp .gt 44, (0, 0, 0, 0)) := rfl
theorem r18_15 (d : Nat) (y x : Int32) (ls : tm_Lo) (st : List Value) (h : tm_H) (K : Option Value → tm_H → Prop) : tm_A d 18 15 ls (.int y :: .int x :: st) h K ↔ if y < x then tm_A d 18 59 ls st h K else tm_A d 18 18 ls st h K := tm_b o18_15 rfl rfl rfl rfl
theorem o18_18 : tm_op 18 18 = some (.iload_n 3, (0, 0, 0, 0)) := rfl
theorem r18_18 (d : Nat) (v : Int32) (l0 l1 l2 l4 : Option Value) (st : List Value) (h : tm_H) (K : Option Value → tm_H → Prop) : tm_A d 18 18 [l0, l1, l2, some (.int v), l4] st h K ↔ tm_A d 18 19 [l0, l1, l2, some (.int v), l4] (.int v :: st) h K := tm_s o18_18 rfl rfl rfl
theorem o18_19 : tm_op 18 19 = some (.iconst 1, (0, 0, 0, 0)) := rfl
theorem r18_19 (d : Nat) (ls : tm_Lo) (st : List Value) (h : tm_H) (K : Option Value → tm_H → Prop) : tm_A d 18 19 ls st h K ↔ tm_A d 18 20 ls (.int (1 : Int32) :: st) h K := tm_ic o18_19 (by decide)
theorem o18_20 : tm_op 18 20 = some (.iadd, (0, 0, 0, 0)) := rfl
theorem r18_20 (d : Nat) (u v : Int32) (ls : tm_Lo) (st : List Value) (h : tm_H) (K : Option Value → tm_H → Prop) : tm_A d 18 20 ls (.int u :: .int v :: st) h K ↔ tm_A d 18 21 ls (.int (v + u) :: st) h K := tm_s o18_20 rfl rfl rfl
theorem o18_21 : tm_op 18 21 = some (.istore 4, (0, 0, 0, 0)) := rfl
theorem r18_21 (d : Nat) (v : Int32) (l0 l1 l2 l3 l4 : Option Value) (st : List Value) (h : tm_H) (K : Option Value → tm_H → Prop) : tm_A d 18 21 [l0, l1, l2, l3, l4] (.int v :: st) h K ↔ tm_A d 18 23 [l0, l1, l2, l3, some (.int v)] st h K := tm_s o18_21 rfl rfl rfl
theorem o18_23 : tm_op 18 23 = some (.iload 4, (0, 0, 0, 0)) := rfl
theorem r18_23 (d : Nat) (v : Int32) (l0 l1 l2 l3 : Option Value) (st : List Value) (h : tm_H) (K : Option Value → tm_H → Prop) : tm_A d 18 23 [l0, l1, l2, l3, some (.int v)] st h K ↔ tm_A d 18 25 [l0, l1, l2, l3, some (.int v)] (.int v :: st) h K := tm_s o18_23 rfl rfl rfl
theorem o18_25 : tm_op 18 25 = some (.bipush 31, (0, 0, 0, 0)) := rfl
theorem r18_25 (d : Nat) (ls : tm_Lo) (st : List Value) (h : tm_H) (K : Option Value → tm_H → Prop) : tm_A d 18 25 ls st h K ↔ tm_A d 18 27 ls (.int (31 : Int32) :: st) h K := tm_bp o18_25 (by decide)
theorem o18_27 : tm_op 18 27 = some (.if_icmp .gt 26, (0, 0, 0, 0)) := rfl
theorem r18_27 (d : Nat) (y x : Int32) (ls : tm_Lo) (st : List Value) (h : tm_H) (K : Option Value → tm_H → Prop) : tm_A d 18 27 ls (.int y :: .int x :: st) h K ↔ if y < x then tm_A d 18 53 ls st h K else tm_A d 18 30 ls st h K := tm_b o18_27 rfl rfl rfl rfl
theorem o18_30 : tm_op 18 30 = some (.aload_n 0, (0, 0, 0, 0)) := rfl
theorem r18_30 (d : Nat) (v : Nat) (l1 l2 l3 l4 : Option Value) (st : List Value) (h : tm_H) (K : Option Value → tm_H → Prop) : tm_A d 18 30 [some (.ref v), l1, l2, l3, l4] st h K ↔ tm_A d 18 31 [some (.ref v), l1, l2, l3, l4] (.ref v :: st) h K := tm_s o18_30 rfl rfl rfl
theorem o18_31 : tm_op 18 31 = some (.iload_n 1, (0, 0, 0, 0)) := rfl
theorem r18_31 (d : Nat) (v : Int32) (l0 l2 l3 l4 : Option Value) (st : List Value) (h : tm_H) (K : Option Value → tm_H → Prop) : tm_A d 18 31 [l0, some (.int v), l2, l3, l4] st h K ↔ tm_A d 18 32 [l0, some (.int v), l2, l3, l4] (.int v :: st) h K := tm_s o18_31 rfl rfl rfl
theorem o18_32 : tm_op 18 32 = some (.iload_n 2, (0, 0, 0, 0)) := rfl
theorem r18_32 (d : Nat) (v : Int32) (l0 l1 l3 l4 : Option Value) (st : List Value) (h : tm_H) (K : Option Value → tm_H → Prop) : tm_A d 18 32 [l0, l1, some (.int v), l3, l4] st h K ↔ tm_A d 18 33 [l0, l1, some (.int v), l3, l4] (.int v :: st) h K := tm_s o18_32 rfl rfl rfl
theorem o18_33 : tm_op 18 33 = some (.iload_n 3, (0, 0, 0, 0)) := rfl
theorem r18_33 (d : Nat) (v : Int32) (l0 l1 l2 l4 : Option Value) (st : List Value) (h : tm_H) (K : Option Value → tm_H → Prop) : tm_A d 18 33 [l0, l1, l2, some (.int v), l4] st h K ↔ tm_A d 18 34 [l0, l1, l2, some (.int v), l4] (.int v :: st) h K := tm_s o18_33 rfl rfl rfl
theorem o18_34 : tm_op 18 34 = some (.iload 4, (0, 0, 0, 0)) := rfl
theorem r18_34 (d : Nat) (v : Int32) (l0 l1 l2 l3 : Option Value) (st : List Value) (h : tm_H) (K : Option Value → tm_H → Prop) : tm_A d 18 34 [l0, l1, l2, l3, some (.int v)] st h K ↔ tm_A d 18 36 [l0, l1, l2, l3, some (.int v)] (.int v :: st) h K := tm_s o18_34 rfl rfl rfl
theorem o18_36 : tm_op 18 36 = some (.invokevirtual 66, (2, 19, 5, 1)) := rfl
theorem r18_36 (d : Nat) (v1 : Int32) (v2 : Int32) (v3 : Int32) (v4 : Int32) (a : Nat) (ls : tm_Lo) (st : List Value) (h : tm_H) (K : Option Value → tm_H → Prop) : tm_A (d + 1) 18 36 ls (.int v4 :: .int v3 :: .int v2 :: .int v1 :: .ref a :: st) h K ↔ (h.1.2.2 a = (0, 1) ∧ tm_cs st) ∧ tm_R d 19 [.ref a, .int v1, .int v2, .int v3, .int v4] h (fun r h' => tm_A (d + 1) 18 39 ls (r.toList ++ st) h' K) := tm_callV (as := [.int v1, .int v2, .int v3, .int v4]) o18_36 rfl rfl rfl rfl
theorem o18_39 : tm_op 18 39 = some (.ifCond .eq 8, (0, 0, 0, 0)) := rfl
theorem r18_39 (d : Nat) (x : Int32) (ls : tm_Lo) (st : List Value) (h : tm_H) (K : Option Value → tm_H → Prop) : tm_A d 18 39 ls (.int x :: st) h K ↔ if x = 0 then tm_A d 18 47 ls st h K else tm_A d 18 42 ls st h K := tm_b o18_39 rfl rfl rfl rfl
theorem o18_42 : tm_op 18 42 = some (.aload_n 0, (0, 0, 0, 0)) := rfl
theorem r18_42 (d : Nat) (v : Nat) (l1 l2 l3 l4 : Option Value) (st : List Value) (h : tm_H) (K : Option Value → tm_H → Prop) : tm_A d 18 42 [some (.ref v), l1, l2, l3, l4] st h K ↔ tm_A d 18 43 [some (.ref v), l1, l2, l3, l4] (.ref v :: st) h K := tm_s o18_42 rfl rfl rfl
theorem o18_43 : tm_op 18 43 = some (.iconst 3, (0, 0, 0, 0)) := rfl
theorem r18_43 (d : Nat) (ls : tm_Lo) (st : List Value) (h : tm_H) (K : Option Value → tm_H → Prop) : tm_A d 18 43 ls st h K ↔ tm_A d 18 44 ls (.int (3 : Int32) :: st) h K := tm_ic o18_43 (by decide)
theorem o18_44 : tm_op 18 44 = some (.putfield 20, (0, 1, 2, 0)) := rfl
theorem r18_44 (d : Nat) (v : Int32) (a : Nat) (ls : tm_Lo) (st : List Value) (G : tm_G) (I : Nat → Nat → Int32) (J : Nat → Nat → Int64) (R : Nat → Nat → Option Nat) (K : Option Value → tm_H → Prop) : tm_A d 18 44 ls (.int v :: .ref a :: st) (G, I, J, R) K ↔ G.2.2 a = (0, 1) ∧ tm_A d 18 47 ls st (G, up2 I a 2 v, J, R) K := tm_putI o18_44
theorem o18_47 : tm_op 18 47 = some (.iinc 4 1, (0, 0, 0, 0)) := rfl
theorem r18_47 (d : Nat) (v : Int32) (l0 l1 l2 l3 : Option Value) (st : List Value) (h : tm_H) (K : Option Value → tm_H → Prop) : tm_A d 18 47 [l0, l1, l2, l3, some (.int v)] st h K ↔ tm_A d 18 50 [l0, l1, l2, l3, some (.int (v + (1 : Int32)))] st h K := tm_s o18_47 rfl rfl rfl
theorem o18_50 : tm_op 18 50 = some (.goto (-27), (0, 0, 0, 0)) := rfl
theorem r18_50 (d : Nat) (ls : tm_Lo) (st : List Value) (h : tm_H) (K : Option Value → tm_H → Prop) : tm_A d 18 50 ls st h K ↔ tm_A d 18 23 ls st h K := tm_s o18_50 rfl rfl rfl
theorem o18_53 : tm_op 18 53 = some (.iinc 3 1, (0, 0, 0, 0)) := rfl
theorem r18_53 (d : Nat) (v : Int32) (l0 l1 l2 l4 : Option Value) (st : List Value) (h : tm_H) (K : Option Value → tm_H → Prop) : tm_A d 18 53 [l0, l1, l2, some (.int v), l4] st h K ↔ tm_A d 18 56 [l0, l1, l2, some (.int (v + (1 : Int32))), l4] st h K := tm_s o18_53 rfl rfl rfl
theorem o18_56 : tm_op 18 56 = some (.goto (-44), (0, 0, 0, 0)) := rfl
theorem r18_56 (d : Nat) (ls : tm_Lo) (st : List Value) (h : tm_H) (K : Option Value → tm_H → Prop) : tm_A d 18 56 ls st h K ↔ tm_A d 18 12 ls st h K := tm_s o18_56 rfl rfl rfl
theorem o18_59 : tm_op 18 59 = some (.iinc 2 1, (0, 0, 0, 0)) := rfl
theorem r18_59 (d : Nat) (v : Int32) (l0 l1 l3 l4 : Option Value) (st : List Value) (h : tm_H) (K : Option Value → tm_H → Prop) : tm_A d 18 59 [l0, l1, some (.int v), l3, l4] st h K ↔ tm_A d 18 62 [l0, l1, some (.int (v + (1 : Int32))), l3, l4] st h K := tm_s o18_59 rfl rfl rfl
theorem o18_62 : tm_op 18 62 = some (.goto (-60), (0, 0, 0, 0)) := rfl
theorem r18_62 (d : Nat) (ls : tm_Lo) (st : List Value) (h : tm_H) (K : Option Value → tm_H → Prop) : tm_A d 18 62 ls st h K ↔ tm_A d 18 2 ls st h K := tm_s o18_62 rfl rfl rfl
theorem o18_65 : tm_op 18 65 = some (.return_, (0, 0, 0, 0)) := rfl
theorem r18_65 (d : Nat) (ls : tm_Lo) (h : tm_H) (K : Option Value → tm_H → Prop) : tm_A d 18 65 ls [] h K ↔ K none h := tm_retv o18_65 rfl
theorem o19_0 : tm_op 19 0 = some (.iload_n 1, (0, 0, 0, 0)) := rfl
theorem r19_0 (d : Nat) (v : Int32) (l0 l2 l3 l4 l5 l6 : Option Value) (st : List Value) (h : tm_H) (K : Option Value → tm_H → Prop) : tm_A d 19 0 [l0, some (.int v), l2, l3, l4, l5, l6] st h K ↔ tm_A d 19 1 [l0, some (.int v), l2, l3, l4, l5, l6] (.int v :: st) h K := tm_s o19_0 rfl rfl rfl
theorem o19_1 : tm_op 19 1 = some (.istore 5, (0, 0, 0, 0)) := rfl
theorem r19_1 (d : Nat) (v : Int32) (l0 l1 l2 l3 l4 l5 l6 : Option Value) (st : List Value) (h : tm_H) (K : Option Value → tm_H → Prop) : tm_A d 19 1 [l0, l1, l2, l3, l4, l5, l6] (.int v :: st) h K ↔ tm_A d 19 3 [l0, l1, l2, l3, l4, some (.int v), l6] st h K := tm_s o19_1 rfl rfl rfl
theorem o19_3 : tm_op 19 3 = some (.iconst 0, (0, 0, 0, 0)) := rfl
theorem r19_3 (d : Nat) (ls : tm_Lo) (st : List Value) (h : tm_H) (K : Option Value → tm_H → Prop) : tm_A d 19 3 ls st h K ↔ tm_A d 19 4 ls (.int (0 : Int32) :: st) h K := tm_ic o19_3 (by decide)
theorem o19_4 : tm_op 19 4 = some (.istore 6, (0, 0, 0, 0)) := rfl
theorem r19_4 (d : Nat) (v : Int32) (l0 l1 l2 l3 l4 l5 l6 : Option Value) (st : List Value) (h : tm_H) (K : Option Value → tm_H → Prop) : tm_A d 19 4 [l0, l1, l2, l3, l4, l5, l6] (.int v :: st) h K ↔ tm_A d 19 6 [l0, l1, l2, l3, l4, l5, some (.int v)] st h K := tm_s o19_4 rfl rfl rfl
theorem o19_6 : tm_op 19 6 = some (.iload 6, (0, 0, 0, 0)) := rfl
theorem r19_6 (d : Nat) (v : Int32) (l0 l1 l2 l3 l4 l5 : Option Value) (st : List Value) (h : tm_H) (K : Option Value → tm_H → Prop) : tm_A d 19 6 [l0, l1, l2, l3, l4, l5, some (.int v)] st h K ↔ tm_A d 19 8 [l0, l1, l2, l3, l4, l5, some (.int v)] (.int v :: st) h K := tm_s o19_6 rfl rfl rfl
theorem o19_8 : tm_op 19 8 = some (.aload_n 0, (0, 0, 0, 0)) := rfl
theorem r19_8 (d : Nat) (v : Nat) (l1 l2 l3 l4 l5 l6 : Option Value) (st : List Value) (h : tm_H) (K : Option Value → tm_H → Prop) : tm_A d 19 8 [some (.ref v), l1, l2, l3, l4, l5, l6] st h K ↔ tm_A d 19 9 [some (.ref v), l1, l2, l3, l4, l5, l6] (.ref v :: st) h K := tm_s o19_8 rfl rfl rfl
theorem o19_9 : tm_op 19 9 = some (.getfield 27, (0, 1, 4, 0)) := rfl
theorem r19_9 (d : Nat) (a : Nat) (ls : tm_Lo) (st : List Value) (G : tm_G) (I : Nat → Nat → Int32) (J : Nat → Nat → Int64) (R : Nat → Nat → Option Nat) (K : Option Value → tm_H → Prop) : tm_A d 19 9 ls (.ref a :: st) (G, I, J, R) K ↔ G.2.2 a = (0, 1) ∧ tm_A d 19 12 ls (.int (I a 4) :: st) (G, I, J, R) K := tm_getI o19_9
theorem o19_12 : tm_op 19 12 = some (.if_icmp .ge 57, (0, 0, 0, 0)) := rfl
theorem r19_12 (d : Nat) (y x : Int32) (ls : tm_Lo) (st : List Value) (h : tm_H) (K : Option Value → tm_H → Prop) : tm_A d 19 12 ls (.int y :: .int x :: st) h K ↔ if y ≤ x then tm_A d 19 69 ls st h K else tm_A d 19 15 ls st h K := tm_b o19_12 rfl rfl rfl rfl
theorem o19_15 : tm_op 19 15 = some (.iload 5, (0, 0, 0, 0)) := rfl
theorem r19_15 (d : Nat) (v : Int32) (l0 l1 l2 l3 l4 l6 : Option Value) (st : List Value) (h : tm_H) (K : Option Value → tm_H → Prop) : tm_A d 19 15 [l0, l1, l2, l3, l4, some (.int v), l6] st h K ↔ tm_A d 19 17 [l0, l1, l2, l3, l4, some (.int v), l6] (.int v :: st) h K := tm_s o19_15 rfl rfl rfl
theorem o19_17 : tm_op 19 17 = some (.aload_n 0, (0, 0, 0, 0)) := rfl
theorem r19_17 (d : Nat) (v : Nat) (l1 l2 l3 l4 l5 l6 : Option Value) (st : List Value) (h : tm_H) (K : Option Value → tm_H → Prop) : tm_A d 19 17 [some (.ref v), l1, l2, l3, l4, l5, l6] st h K ↔ tm_A d 19 18 [some (.ref v), l1, l2, l3, l4, l5, l6] (.ref v :: st) h K := tm_s o19_17 rfl rfl rfl
theorem o19_18 : tm_op 19 18 = some (.getfield 24, (0, 1, 3, 0)) := rfl
theorem r19_18 (d : Nat) (a : Nat) (ls : tm_Lo) (st : List Value) (G : tm_G) (I : Nat → Nat → Int32) (J : Nat → Nat → Int64) (R : Nat → Nat → Option Nat) (K : Option Value → tm_H → Prop) : tm_A d 19 18 ls (.ref a :: st) (G, I, J, R) K ↔ G.2.2 a = (0, 1) ∧ tm_A d 19 21 ls (.int (I a 3) :: st) (G, I, J, R) K := tm_getI o19_18
theorem o19_21 : tm_op 19 21 = some (.if_icmp .ge 48, (0, 0, 0, 0)) := rfl
theorem r19_21 (d : Nat) (y x : Int32) (ls : tm_Lo) (st : List Value) (h : tm_H) (K : Option Value → tm_H → Prop) : tm_A d 19 21 ls (.int y :: .int x :: st) h K ↔ if y ≤ x then tm_A d 19 69 ls st h K else tm_A d 19 24 ls st h K := tm_b o19_21 rfl rfl rfl rfl
theorem o19_24 : tm_op 19 24 = some (.iload 5, (0, 0, 0, 0)) := rfl
theorem r19_24 (d : Nat) (v : Int32) (l0 l1 l2 l3 l4 l6 : Option Value) (st : List Value) (h : tm_H) (K : Option Value → tm_H → Prop) : tm_A d 19 24 [l0, l1, l2, l3, l4, some (.int v), l6] st h K ↔ tm_A d 19 26 [l0, l1, l2, l3, l4, some (.int v), l6] (.int v :: st) h K := tm_s o19_24 rfl rfl rfl
theorem o19_26 : tm_op 19 26 = some (.aload_n 0, (0, 0, 0, 0)) := rfl
theorem r19_26 (d : Nat) (v : Nat) (l1 l2 l3 l4 l5 l6 : Option Value) (st : List Value) (h : tm_H) (K : Option Value → tm_H → Prop) : tm_A d 19 26 [some (.ref v), l1, l2, l3, l4, l5, l6] st h K ↔ tm_A d 19 27 [some (.ref v), l1, l2, l3, l4, l5, l6] (.ref v :: st) h K := tm_s o19_26 rfl rfl rfl
theorem o19_27 : tm_op 19 27 = some (.getfield 11, (2, 1, 0, 0)) := rfl
theorem r19_27 (d : Nat) (a : Nat) (ls : tm_Lo) (st : List Value) (G : tm_G) (I : Nat → Nat → Int32) (J : Nat → Nat → Int64) (R : Nat → Nat → Option Nat) (K : Option Value → tm_H → Prop) : tm_A d 19 27 ls (.ref a :: st) (G, I, J, R) K ↔ G.2.2 a = (0, 1) ∧ tm_A d 19 30 ls (tm_rf (R a 0) :: st) (G, I, J, R) K := tm_getR o19_27
theorem o19_30 : tm_op 19 30 = some (.iload 6, (0, 0, 0, 0)) := rfl
theorem r19_30 (d : Nat) (v : Int32) (l0 l1 l2 l3 l4 l5 : Option Value) (st : List Value) (h : tm_H) (K : Option Value → tm_H → Prop) : tm_A d 19 30 [l0, l1, l2, l3, l4, l5, some (.int v)] st h K ↔ tm_A d 19 32 [l0, l1, l2, l3, l4, l5, some (.int v)] (.int v :: st) h K := tm_s o19_30 rfl rfl rfl
theorem o19_32 : tm_op 19 32 = some (.aaload, (0, 0, 0, 0)) := rfl
theorem r19_32 (d : Nat) (v : Int32) (a : Nat) (ls : tm_Lo) (st : List Value) (G : tm_G) (I : Nat → Nat → Int32) (J : Nat → Nat → Int64) (R : Nat → Nat → Option Nat) (K : Option Value → tm_H → Prop) : tm_A d 19 32 ls (.int v :: .ref a :: st) (G, I, J, R) K ↔ (((G.2.2 a).1 = 3 ∨ (G.2.2 a).1 = 4 ∨ (G.2.2 a).1 = 5) ∧ tm_in v (G.2.2 a).2) ∧ tm_A d 19 33 ls (tm_rf (R a (tm_ix v)) :: st) (G, I, J, R) K := tm_aald o19_32
theorem o19_33 : tm_op 19 33 = some (.iload_n 2, (0, 0, 0, 0)) := rfl
theorem r19_33 (d : Nat) (v : Int32) (l0 l1 l3 l4 l5 l6 : Option Value) (st : List Value) (h : tm_H) (K : Option Value → tm_H → Prop) : tm_A d 19 33 [l0, l1, some (.int v), l3, l4, l5, l6] st h K ↔ tm_A d 19 34 [l0, l1, some (.int v), l3, l4, l5, l6] (.int v :: st) h K := tm_s o19_33 rfl rfl rfl
theorem o19_34 : tm_op 19 34 = some (.iaload, (0, 0, 0, 0)) := rfl
theorem r19_34 (d : Nat) (v : Int32) (a : Nat) (ls : tm_Lo) (st : List Value) (G : tm_G) (I : Nat → Nat → Int32) (J : Nat → Nat → Int64) (R : Nat → Nat → Option Nat) (K : Option Value → tm_H → Prop) : tm_A d 19 34 ls (.int v :: .ref a :: st) (G, I, J, R) K ↔ ((G.2.2 a).1 = 1 ∧ tm_in v (G.2.2 a).2) ∧ tm_A d 19 35 ls (.int (I a (tm_ix v)) :: st) (G, I, J, R) K := tm_iald o19_34
theorem o19_35 : tm_op 19 35 = some (.aload_n 0, (0, 0, 0, 0)) := rfl
theorem r19_35 (d : Nat) (v : Nat) (l1 l2 l3 l4 l5 l6 : Option Value) (st : List Value) (h : tm_H) (K : Option Value → tm_H → Prop) : tm_A d 19 35 [some (.ref v), l1, l2, l3, l4, l5, l6] st h K ↔ tm_A d 19 36 [some (.ref v), l1, l2, l3, l4, l5, l6] (.ref v :: st) h K := tm_s o19_35 rfl rfl rfl
theorem o19_36 : tm_op 19 36 = some (.getfield 11, (2, 1, 0, 0)) := rfl
theorem r19_36 (d : Nat) (a : Nat) (ls : tm_Lo) (st : List Value) (G : tm_G) (I : Nat → Nat → Int32) (J : Nat → Nat → Int64) (R : Nat → Nat → Option Nat) (K : Option Value → tm_H → Prop) : tm_A d 19 36 ls (.ref a :: st) (G, I, J, R) K ↔ G.2.2 a = (0, 1) ∧ tm_A d 19 39 ls (tm_rf (R a 0) :: st) (G, I, J, R) K := tm_getR o19_36
theorem o19_39 : tm_op 19 39 = some (.iload 6, (0, 0, 0, 0)) := rfl
theorem r19_39 (d : Nat) (v : Int32) (l0 l1 l2 l3 l4 l5 : Option Value) (st : List Value) (h : tm_H) (K : Option Value → tm_H → Prop) : tm_A d 19 39 [l0, l1, l2, l3, l4, l5, some (.int v)] st h K ↔ tm_A d 19 41 [l0, l1, l2, l3, l4, l5, some (.int v)] (.int v :: st) h K := tm_s o19_39 rfl rfl rfl
theorem o19_41 : tm_op 19 41 = some (.aaload, (0, 0, 0, 0)) := rfl
theorem r19_41 (d : Nat) (v : Int32) (a : Nat) (ls : tm_Lo) (st : List Value) (G : tm_G) (I : Nat → Nat → Int32) (J : Nat → Nat → Int64) (R : Nat → Nat → Option Nat) (K : Option Value → tm_H → Prop) : tm_A d 19 41 ls (.int v :: .ref a :: st) (G, I, J, R) K ↔ (((G.2.2 a).1 = 3 ∨ (G.2.2 a).1 = 4 ∨ (G.2.2 a).1 = 5) ∧ tm_in v (G.2.2 a).2) ∧ tm_A d 19 42 ls (tm_rf (R a (tm_ix v)) :: st) (G, I, J, R) K := tm_aald o19_41
theorem o19_42 : tm_op 19 42 = some (.iload_n 3, (0, 0, 0, 0)) := rfl
theorem r19_42 (d : Nat) (v : Int32) (l0 l1 l2 l4 l5 l6 : Option Value) (st : List Value) (h : tm_H) (K : Option Value → tm_H → Prop) : tm_A d 19 42 [l0, l1, l2, some (.int v), l4, l5, l6] st h K ↔ tm_A d 19 43 [l0, l1, l2, some (.int v), l4, l5, l6] (.int v :: st) h K := tm_s o19_42 rfl rfl rfl
theorem o19_43 : tm_op 19 43 = some (.iaload, (0, 0, 0, 0)) := rfl
theorem r19_43 (d : Nat) (v : Int32) (a : Nat) (ls : tm_Lo) (st : List Value) (G : tm_G) (I : Nat → Nat → Int32) (J : Nat → Nat → Int64) (R : Nat → Nat → Option Nat) (K : Option Value → tm_H → Prop) : tm_A d 19 43 ls (.int v :: .ref a :: st) (G, I, J, R) K ↔ ((G.2.2 a).1 = 1 ∧ tm_in v (G.2.2 a).2) ∧ tm_A d 19 44 ls (.int (I a (tm_ix v)) :: st) (G, I, J, R) K := tm_iald o19_43
theorem o19_44 : tm_op 19 44 = some (.aload_n 0, (0, 0, 0, 0)) := rfl
theorem r19_44 (d : Nat) (v : Nat) (l1 l2 l3 l4 l5 l6 : Option Value) (st : List Value) (h : tm_H) (K : Option Value → tm_H → Prop) : tm_A d 19 44 [some (.ref v), l1, l2, l3, l4, l5, l6] st h K ↔ tm_A d 19 45 [some (.ref v), l1, l2, l3, l4, l5, l6] (.ref v :: st) h K := tm_s o19_44 rfl rfl rfl
theorem o19_45 : tm_op 19 45 = some (.getfield 11, (2, 1, 0, 0)) := rfl
theorem r19_45 (d : Nat) (a : Nat) (ls : tm_Lo) (st : List Value) (G : tm_G) (I : Nat → Nat → Int32) (J : Nat → Nat → Int64) (R : Nat → Nat → Option Nat) (K : Option Value → tm_H → Prop) : tm_A d 19 45 ls (.ref a :: st) (G, I, J, R) K ↔ G.2.2 a = (0, 1) ∧ tm_A d 19 48 ls (tm_rf (R a 0) :: st) (G, I, J, R) K := tm_getR o19_45
theorem o19_48 : tm_op 19 48 = some (.iload 6, (0, 0, 0, 0)) := rfl
theorem r19_48 (d : Nat) (v : Int32) (l0 l1 l2 l3 l4 l5 : Option Value) (st : List Value) (h : tm_H) (K : Option Value → tm_H → Prop) : tm_A d 19 48 [l0, l1, l2, l3, l4, l5, some (.int v)] st h K ↔ tm_A d 19 50 [l0, l1, l2, l3, l4, l5, some (.int v)] (.int v :: st) h K := tm_s o19_48 rfl rfl rfl
theorem o19_50 : tm_op 19 50 = some (.aaload, (0, 0, 0, 0)) := rfl
theorem r19_50 (d : Nat) (v : Int32) (a : Nat) (ls : tm_Lo) (st : List Value) (G : tm_G) (I : Nat → Nat → Int32) (J : Nat → Nat → Int64) (R : Nat → Nat → Option Nat) (K : Option Value → tm_H → Prop) : tm_A d 19 50 ls (.int v :: .ref a :: st) (G, I, J, R) K ↔ (((G.2.2 a).1 = 3 ∨ (G.2.2 a).1 = 4 ∨ (G.2.2 a).1 = 5) ∧ tm_in v (G.2.2 a).2) ∧ tm_A d 19 51 ls (tm_rf (R a (tm_ix v)) :: st) (G, I, J, R) K := tm_aald o19_50
theorem o19_51 : tm_op 19 51 = some (.iload 4, (0, 0, 0, 0)) := rfl
theorem r19_51 (d : Nat) (v : Int32) (l0 l1 l2 l3 l5 l6 : Option Value) (st : List Value) (h : tm_H) (K : Option Value → tm_H → Prop) : tm_A d 19 51 [l0, l1, l2, l3, some (.int v), l5, l6] st h K ↔ tm_A d 19 53 [l0, l1, l2, l3, some (.int v), l5, l6] (.int v :: st) h K := tm_s o19_51 rfl rfl rfl
theorem o19_53 : tm_op 19 53 = some (.iaload, (0, 0, 0, 0)) := rfl
theorem r19_53 (d : Nat) (v : Int32) (a : Nat) (ls : tm_Lo) (st : List Value) (G : tm_G) (I : Nat → Nat → Int32) (J : Nat → Nat → Int64) (R : Nat → Nat → Option Nat) (K : Option Value → tm_H → Prop) : tm_A d 19 53 ls (.int v :: .ref a :: st) (G, I, J, R) K ↔ ((G.2.2 a).1 = 1 ∧ tm_in v (G.2.2 a).2) ∧ tm_A d 19 54 ls (.int (I a (tm_ix v)) :: st) (G, I, J, R) K := tm_iald o19_53
theorem o19_54 : tm_op 19 54 = some (.invokestatic 36, (8, 0, 0, 0)) := rfl
theorem r19_54 (d : Nat) (v0 v1 : Int32) (ls : tm_Lo) (st : List Value) (h : tm_H) (K : Option Value → tm_H → Prop) : tm_A (d + 1) 19 54 ls (.int v1 :: .int v0 :: st) h K ↔ tm_cs st ∧ tm_A (d + 1) 19 57 ls (.int (if v1 < v0 then v1 else v0) :: st) h K := tm_min o19_54 rfl rfl
theorem o19_57 : tm_op 19 57 = some (.invokestatic 36, (8, 0, 0, 0)) := rfl
theorem r19_57 (d : Nat) (v0 v1 : Int32) (ls : tm_Lo) (st : List Value) (h : tm_H) (K : Option Value → tm_H → Prop) : tm_A (d + 1) 19 57 ls (.int v1 :: .int v0 :: st) h K ↔ tm_cs st ∧ tm_A (d + 1) 19 60 ls (.int (if v1 < v0 then v1 else v0) :: st) h K := tm_min o19_57 rfl rfl
theorem o19_60 : tm_op 19 60 = some (.iadd, (0, 0, 0, 0)) := rfl
theorem r19_60 (d : Nat) (u v : Int32) (ls : tm_Lo) (st : List Value) (h : tm_H) (K : Option Value → tm_H → Prop) : tm_A d 19 60 ls (.int u :: .int v :: st) h K ↔ tm_A d 19 61 ls (.int (v + u) :: st) h K := tm_s o19_60 rfl rfl rfl
theorem o19_61 : tm_op 19 61 = some (.istore 5, (0, 0, 0, 0)) := rfl
theorem r19_61 (d : Nat) (v : Int32) (l0 l1 l2 l3 l4 l5 l6 : Option Value) (st : List Value) (h : tm_H) (K : Option Value → tm_H → Prop) : tm_A d 19 61 [l0, l1, l2, l3, l4, l5, l6] (.int v :: st) h K ↔ tm_A d 19 63 [l0, l1, l2, l3, l4, some (.int v), l6] st h K := tm_s o19_61 rfl rfl rfl
theorem o19_63 : tm_op 19 63 = some (.iinc 6 1, (0, 0, 0, 0)) := rfl
theorem r19_63 (d : Nat) (v : Int32) (l0 l1 l2 l3 l4 l5 : Option Value) (st : List Value) (h : tm_H) (K : Option Value → tm_H → Prop) : tm_A d 19 63 [l0, l1, l2, l3, l4, l5, some (.int v)] st h K ↔ tm_A d 19 66 [l0, l1, l2, l3, l4, l5, some (.int (v + (1 : Int32)))] st h K := tm_s o19_63 rfl rfl rfl
theorem o19_66 : tm_op 19 66 = some (.goto (-60), (0, 0, 0, 0)) := rfl
theorem r19_66 (d : Nat) (ls : tm_Lo) (st : List Value) (h : tm_H) (K : Option Value → tm_H → Prop) : tm_A d 19 66 ls st h K ↔ tm_A d 19 6 ls st h K := tm_s o19_66 rfl rfl rfl
theorem o19_69 : tm_op 19 69 = some (.iload 5, (0, 0, 0, 0)) := rfl
theorem r19_69 (d : Nat) (v : Int32) (l0 l1 l2 l3 l4 l6 : Option Value) (st : List Value) (h : tm_H) (K : Option Value → tm_H → Prop) : tm_A d 19 69 [l0, l1, l2, l3, l4, some (.int v), l6] st h K ↔ tm_A d 19 71 [l0, l1, l2, l3, l4, some (.int v), l6] (.int v :: st) h K := tm_s o19_69 rfl rfl rfl
theorem o19_71 : tm_op 19 71 = some (.aload_n 0, (0, 0, 0, 0)) := rfl
theorem r19_71 (d : Nat) (v : Nat) (l1 l2 l3 l4 l5 l6 : Option Value) (st : List Value) (h : tm_H) (K : Option Value → tm_H → Prop) : tm_A d 19 71 [some (.ref v), l1, l2, l3, l4, l5, l6] st h K ↔ tm_A d 19 72 [some (.ref v), l1, l2, l3, l4, l5, l6] (.ref v :: st) h K := tm_s o19_71 rfl rfl rfl
theorem o19_72 : tm_op 19 72 = some (.getfield 24, (0, 1, 3, 0)) := rfl
theorem r19_72 (d : Nat) (a : Nat) (ls : tm_Lo) (st : List Value) (G : tm_G) (I : Nat → Nat → Int32) (J : Nat → Nat → Int64) (R : Nat → Nat → Option Nat) (K : Option Value → tm_H → Prop) : tm_A d 19 72 ls (.ref a :: st) (G, I, J, R) K ↔ G.2.2 a = (0, 1) ∧ tm_A d 19 75 ls (.int (I a 3) :: st) (G, I, J, R) K := tm_getI o19_72
theorem o19_75 : tm_op 19 75 = some (.if_icmp .lt 5, (0, 0, 0, 0)) := rfl
theorem r19_75 (d : Nat) (y x : Int32) (ls : tm_Lo) (st : List Value) (h : tm_H) (K : Option Value → tm_H → Prop) : tm_A d 19 75 ls (.int y :: .int x :: st) h K ↔ if x < y then tm_A d 19 80 ls st h K else tm_A d 19 78 ls st h K := tm_b o19_75 rfl rfl rfl rfl
theorem o19_78 : tm_op 19 78 = some (.iconst 0, (0, 0, 0, 0)) := rfl
theorem r19_78 (d : Nat) (ls : tm_Lo) (st : List Value) (h : tm_H) (K : Option Value → tm_H → Prop) : tm_A d 19 78 ls st h K ↔ tm_A d 19 79 ls (.int (0 : Int32) :: st) h K := tm_ic o19_78 (by decide)
theorem o19_79 : tm_op 19 79 = some (.ireturn, (0, 0, 0, 0)) := rfl
theorem r19_79 (d : Nat) (v : Int32) (ls : tm_Lo) (h : tm_H) (K : Option Value → tm_H → Prop) : tm_A d 19 79 ls [.int v] h K ↔ (v = 0 ∨ v = 1) ∧ K (some (.int v)) h := tm_retz o19_79 rfl
theorem o19_80 : tm_op 19 80 = some (.aload_n 0, (0, 0, 0, 0)) := rfl
theorem r19_80 (d : Nat) (v : Nat) (l1 l2 l3 l4 l5 l6 : Option Value) (st : List Value) (h : tm_H) (K : Option Value → tm_H → Prop) : tm_A d 19 80 [some (.ref v), l1, l2, l3, l4, l5, l6] st h K ↔ tm_A d 19 81 [some (.ref v), l1, l2, l3, l4, l5, l6] (.ref v :: st) h K := tm_s o19_80 rfl rfl rfl
theorem o19_81 : tm_op 19 81 = some (.iload 5, (0, 0, 0, 0)) := rfl
theorem r19_81 (d : Nat) (v : Int32) (l0 l1 l2 l3 l4 l6 : Option Value) (st : List Value) (h : tm_H) (K : Option Value → tm_H → Prop) : tm_A d 19 81 [l0, l1, l2, l3, l4, some (.int v), l6] st h K ↔ tm_A d 19 83 [l0, l1, l2, l3, l4, some (.int v), l6] (.int v :: st) h K := tm_s o19_81 rfl rfl rfl
theorem o19_83 : tm_op 19 83 = some (.putfield 24, (0, 1, 3, 0)) := rfl
theorem r19_83 (d : Nat) (v : Int32) (a : Nat) (ls : tm_Lo) (st : List Value) (G : tm_G) (I : Nat → Nat → Int32) (J : Nat → Nat → Int64) (R : Nat → Nat → Option Nat) (K : Option Value → tm_H → Prop) : tm_A d 19 83 ls (.int v :: .ref a :: st) (G, I, J, R) K ↔ G.2.2 a = (0, 1) ∧ tm_A d 19 86 ls st (G, up2 I a 3 v, J, R) K := tm_putI o19_83
theorem o19_86 : tm_op 19 86 = some (.aload_n 0, (0, 0, 0, 0)) := rfl
theorem r19_86 (d : Nat) (v : Nat) (l1 l2 l3 l4 l5 l6 : Option Value) (st : List Value) (h : tm_H) (K : Option Value → tm_H → Prop) : tm_A d 19 86 [some (.ref v), l1, l2, l3, l4, l5, l6] st h K ↔ tm_A d 19 87 [some (.ref v), l1, l2, l3, l4, l5, l6] (.ref v :: st) h K := tm_s o19_86 rfl rfl rfl
theorem o19_87 : tm_op 19 87 = some (.getfield 16, (2, 1, 1, 0)) := rfl
theorem r19_87 (d : Nat) (a : Nat) (ls : tm_Lo) (st : List Value) (G : tm_G) (I : Nat → Nat → Int32) (J : Nat → Nat → Int64) (R : Nat → Nat → Option Nat) (K : Option Value → tm_H → Prop) : tm_A d 19 87 ls (.ref a :: st) (G, I, J, R) K ↔ G.2.2 a = (0, 1) ∧ tm_A d 19 90 ls (tm_rf (R a 1) :: st) (G, I, J, R) K := tm_getR o19_87
theorem o19_90 : tm_op 19 90 = some (.iconst 0, (0, 0, 0, 0)) := rfl
theorem r19_90 (d : Nat) (ls : tm_Lo) (st : List Value) (h : tm_H) (K : Option Value → tm_H → Prop) : tm_A d 19 90 ls st h K ↔ tm_A d 19 91 ls (.int (0 : Int32) :: st) h K := tm_ic o19_90 (by decide)
theorem o19_91 : tm_op 19 91 = some (.iload_n 2, (0, 0, 0, 0)) := rfl
theorem r19_91 (d : Nat) (v : Int32) (l0 l1 l3 l4 l5 l6 : Option Value) (st : List Value) (h : tm_H) (K : Option Value → tm_H → Prop) : tm_A d 19 91 [l0, l1, some (.int v), l3, l4, l5, l6] st h K ↔ tm_A d 19 92 [l0, l1, some (.int v), l3, l4, l5, l6] (.int v :: st) h K := tm_s o19_91 rfl rfl rfl
theorem o19_92 : tm_op 19 92 = some (.iastore, (0, 0, 0, 0)) := rfl
theorem r19_92 (d : Nat) (u v : Int32) (a : Nat) (ls : tm_Lo) (st : List Value) (G : tm_G) (I : Nat → Nat → Int32) (J : Nat → Nat → Int64) (R : Nat → Nat → Option Nat) (K : Option Value → tm_H → Prop) : tm_A d 19 92 ls (.int u :: .int v :: .ref a :: st) (G, I, J, R) K ↔ (3 ≤ a ∧ (G.2.2 a).1 = 1 ∧ tm_in v (G.2.2 a).2) ∧ tm_A d 19 93 ls st (G, up2 I a (tm_ix v) u, J, R) K := tm_iast o19_92
theorem o19_93 : tm_op 19 93 = some (.aload_n 0, (0, 0, 0, 0)) := rfl
theorem r19_93 (d : Nat) (v : Nat) (l1 l2 l3 l4 l5 l6 : Option Value) (st : List Value) (h : tm_H) (K : Option Value → tm_H → Prop) : tm_A d 19 93 [some (.ref v), l1, l2, l3, l4, l5, l6] st h K ↔ tm_A d 19 94 [some (.ref v), l1, l2, l3, l4, l5, l6] (.ref v :: st) h K := tm_s o19_93 rfl rfl rfl
theorem o19_94 : tm_op 19 94 = some (.getfield 16, (2, 1, 1, 0)) := rfl
theorem r19_94 (d : Nat) (a : Nat) (ls : tm_Lo) (st : List Value) (G : tm_G) (I : Nat → Nat → Int32) (J : Nat → Nat → Int64) (R : Nat → Nat → Option Nat) (K : Option Value → tm_H → Prop) : tm_A d 19 94 ls (.ref a :: st) (G, I, J, R) K ↔ G.2.2 a = (0, 1) ∧ tm_A d 19 97 ls (tm_rf (R a 1) :: st) (G, I, J, R) K := tm_getR o19_94
theorem o19_97 : tm_op 19 97 = some (.iconst 1, (0, 0, 0, 0)) := rfl
theorem r19_97 (d : Nat) (ls : tm_Lo) (st : List Value) (h : tm_H) (K : Option Value → tm_H → Prop) : tm_A d 19 97 ls st h K ↔ tm_A d 19 98 ls (.int (1 : Int32) :: st) h K := tm_ic o19_97 (by decide)
theorem o19_98 : tm_op 19 98 = some (.iload_n 3, (0, 0, 0, 0)) := rfl
theorem r19_98 (d : Nat) (v : Int32) (l0 l1 l2 l4 l5 l6 : Option Value) (st : List Value) (h : tm_H) (K : Option Value → tm_H → Prop) : tm_A d 19 98 [l0, l1, l2, some (.int v), l4, l5, l6] st h K ↔ tm_A d 19 99 [l0, l1, l2, some (.int v), l4, l5, l6] (.int v :: st) h K := tm_s o19_98 rfl rfl rfl
theorem o19_99 : tm_op 19 99 = some (.iastore, (0, 0, 0, 0)) := rfl
theorem r19_99 (d : Nat) (u v : Int32) (a : Nat) (ls : tm_Lo) (st : List Value) (G : tm_G) (I : Nat → Nat → Int32) (J : Nat → Nat → Int64) (R : Nat → Nat → Option Nat) (K : Option Value → tm_H → Prop) : tm_A d 19 99 ls (.int u :: .int v :: .ref a :: st) (G, I, J, R) K ↔ (3 ≤ a ∧ (G.2.2 a).1 = 1 ∧ tm_in v (G.2.2 a).2) ∧ tm_A d 19 100 ls st (G, up2 I a (tm_ix v) u, J, R) K := tm_iast o19_99
theorem o19_100 : tm_op 19 100 = some (.aload_n 0, (0, 0, 0, 0)) := rfl
theorem r19_100 (d : Nat) (v : Nat) (l1 l2 l3 l4 l5 l6 : Option Value) (st : List Value) (h : tm_H) (K : Option Value → tm_H → Prop) : tm_A d 19 100 [some (.ref v), l1, l2, l3, l4, l5, l6] st h K ↔ tm_A d 19 101 [some (.ref v), l1, l2, l3, l4, l5, l6] (.ref v :: st) h K := tm_s o19_100 rfl rfl rfl
theorem o19_101 : tm_op 19 101 = some (.getfield 16, (2, 1, 1, 0)) := rfl
theorem r19_101 (d : Nat) (a : Nat) (ls : tm_Lo) (st : List Value) (G : tm_G) (I : Nat → Nat → Int32) (J : Nat → Nat → Int64) (R : Nat → Nat → Option Nat) (K : Option Value → tm_H → Prop) : tm_A d 19 101 ls (.ref a :: st) (G, I, J, R) K ↔ G.2.2 a = (0, 1) ∧ tm_A d 19 104 ls (tm_rf (R a 1) :: st) (G, I, J, R) K := tm_getR o19_101
theorem o19_104 : tm_op 19 104 = some (.iconst 2, (0, 0, 0, 0)) := rfl
theorem r19_104 (d : Nat) (ls : tm_Lo) (st : List Value) (h : tm_H) (K : Option Value → tm_H → Prop) : tm_A d 19 104 ls st h K ↔ tm_A d 19 105 ls (.int (2 : Int32) :: st) h K := tm_ic o19_104 (by decide)
theorem o19_105 : tm_op 19 105 = some (.iload 4, (0, 0, 0, 0)) := rfl
theorem r19_105 (d : Nat) (v : Int32) (l0 l1 l2 l3 l5 l6 : Option Value) (st : List Value) (h : tm_H) (K : Option Value → tm_H → Prop) : tm_A d 19 105 [l0, l1, l2, l3, some (.int v), l5, l6] st h K ↔ tm_A d 19 107 [l0, l1, l2, l3, some (.int v), l5, l6] (.int v :: st) h K := tm_s o19_105 rfl rfl rfl
theorem o19_107 : tm_op 19 107 = some (.iastore, (0, 0, 0, 0)) := rfl
theorem r19_107 (d : Nat) (u v : Int32) (a : Nat) (ls : tm_Lo) (st : List Value) (G : tm_G) (I : Nat → Nat → Int32) (J : Nat → Nat → Int64) (R : Nat → Nat → Option Nat) (K : Option Value → tm_H → Prop) : tm_A d 19 107 ls (.int u :: .int v :: .ref a :: st) (G, I, J, R) K ↔ (3 ≤ a ∧ (G.2.2 a).1 = 1 ∧ tm_in v (G.2.2 a).2) ∧ tm_A d 19 108 ls st (G, up2 I a (tm_ix v) u, J, R) K := tm_iast o19_107
theorem o19_108 : tm_op 19 108 = some (.iconst 1, (0, 0, 0, 0)) := rfl
theorem r19_108 (d : Nat) (ls : tm_Lo) (st : List Value) (h : tm_H) (K : Option Value → tm_H → Prop) : tm_A d 19 108 ls st h K ↔ tm_A d 19 109 ls (.int (1 : Int32) :: st) h K := tm_ic o19_108 (by decide)
theorem o19_109 : tm_op 19 109 = some (.ireturn, (0, 0, 0, 0)) := rfl
theorem r19_109 (d : Nat) (v : Int32) (ls : tm_Lo) (h : tm_H) (K : Option Value → tm_H → Prop) : tm_A d 19 109 ls [.int v] h K ↔ (v = 0 ∨ v = 1) ∧ K (some (.int v)) h := tm_retz o19_109 rfl
theorem o20_0 : tm_op 20 0 = some (.iload_n 1, (0, 0, 0, 0)) := rfl
theorem r20_0 (d : Nat) (v : Int32) (l0 : Option Value) (st : List Value) (h : tm_H) (K : Option Value → tm_H → Prop) : tm_A d 20 0 [l0, some (.int v)] st h K ↔ tm_A d 20 1 [l0, some (.int v)] (.int v :: st) h K := tm_s o20_0 rfl rfl rfl
theorem o20_1 : tm_op 20 1 = some (.ifCond .lt 25, (0, 0, 0, 0)) := rfl
theorem r20_1 (d : Nat) (x : Int32) (ls : tm_Lo) (st : List Value) (h : tm_H) (K : Option Value → tm_H → Prop) : tm_A d 20 1 ls (.int x :: st) h K ↔ if x < 0 then tm_A d 20 26 ls st h K else tm_A d 20 4 ls st h K := tm_b o20_1 rfl rfl rfl rfl
theorem o20_4 : tm_op 20 4 = some (.iload_n 1, (0, 0, 0, 0)) := rfl
theorem r20_4 (d : Nat) (v : Int32) (l0 : Option Value) (st : List Value) (h : tm_H) (K : Option Value → tm_H → Prop) : tm_A d 20 4 [l0, some (.int v)] st h K ↔ tm_A d 20 5 [l0, some (.int v)] (.int v :: st) h K := tm_s o20_4 rfl rfl rfl
theorem o20_5 : tm_op 20 5 = some (.aload_n 0, (0, 0, 0, 0)) := rfl
theorem r20_5 (d : Nat) (v : Nat) (l1 : Option Value) (st : List Value) (h : tm_H) (K : Option Value → tm_H → Prop) : tm_A d 20 5 [some (.ref v), l1] st h K ↔ tm_A d 20 6 [some (.ref v), l1] (.ref v :: st) h K := tm_s o20_5 rfl rfl rfl
theorem o20_6 : tm_op 20 6 = some (.getfield 20, (0, 1, 2, 0)) := rfl
theorem r20_6 (d : Nat) (a : Nat) (ls : tm_Lo) (st : List Value) (G : tm_G) (I : Nat → Nat → Int32) (J : Nat → Nat → Int64) (R : Nat → Nat → Option Nat) (K : Option Value → tm_H → Prop) : tm_A d 20 6 ls (.ref a :: st) (G, I, J, R) K ↔ G.2.2 a = (0, 1) ∧ tm_A d 20 9 ls (.int (I a 2) :: st) (G, I, J, R) K := tm_getI o20_6
theorem o20_9 : tm_op 20 9 = some (.if_icmp .ge 17, (0, 0, 0, 0)) := rfl
theorem r20_9 (d : Nat) (y x : Int32) (ls : tm_Lo) (st : List Value) (h : tm_H) (K : Option Value → tm_H → Prop) : tm_A d 20 9 ls (.int y :: .int x :: st) h K ↔ if y ≤ x then tm_A d 20 26 ls st h K else tm_A d 20 12 ls st h K := tm_b o20_9 rfl rfl rfl rfl
theorem o20_12 : tm_op 20 12 = some (.iload_n 1, (0, 0, 0, 0)) := rfl
theorem r20_12 (d : Nat) (v : Int32) (l0 : Option Value) (st : List Value) (h : tm_H) (K : Option Value → tm_H → Prop) : tm_A d 20 12 [l0, some (.int v)] st h K ↔ tm_A d 20 13 [l0, some (.int v)] (.int v :: st) h K := tm_s o20_12 rfl rfl rfl
theorem o20_13 : tm_op 20 13 = some (.iconst 3, (0, 0, 0, 0)) := rfl
theorem r20_13 (d : Nat) (ls : tm_Lo) (st : List Value) (h : tm_H) (K : Option Value → tm_H → Prop) : tm_A d 20 13 ls st h K ↔ tm_A d 20 14 ls (.int (3 : Int32) :: st) h K := tm_ic o20_13 (by decide)
theorem o20_14 : tm_op 20 14 = some (.if_icmp .ge 12, (0, 0, 0, 0)) := rfl
theorem r20_14 (d : Nat) (y x : Int32) (ls : tm_Lo) (st : List Value) (h : tm_H) (K : Option Value → tm_H → Prop) : tm_A d 20 14 ls (.int y :: .int x :: st) h K ↔ if y ≤ x then tm_A d 20 26 ls st h K else tm_A d 20 17 ls st h K := tm_b o20_14 rfl rfl rfl rfl
theorem o20_17 : tm_op 20 17 = some (.aload_n 0, (0, 0, 0, 0)) := rfl
theorem r20_17 (d : Nat) (v : Nat) (l1 : Option Value) (st : List Value) (h : tm_H) (K : Option Value → tm_H → Prop) : tm_A d 20 17 [some (.ref v), l1] st h K ↔ tm_A d 20 18 [some (.ref v), l1] (.ref v :: st) h K := tm_s o20_17 rfl rfl rfl
theorem o20_18 : tm_op 20 18 = some (.getfield 16, (2, 1, 1, 0)) := rfl
theorem r20_18 (d : Nat) (a : Nat) (ls : tm_Lo) (st : List Value) (G : tm_G) (I : Nat → Nat → Int32) (J : Nat → Nat → Int64) (R : Nat → Nat → Option Nat) (K : Option Value → tm_H → Prop) : tm_A d 20 18 ls (.ref a :: st) (G, I, J, R) K ↔ G.2.2 a = (0, 1) ∧ tm_A d 20 21 ls (tm_rf (R a 1) :: st) (G, I, J, R) K := tm_getR o20_18
theorem o20_21 : tm_op 20 21 = some (.iload_n 1, (0, 0, 0, 0)) := rfl
theorem r20_21 (d : Nat) (v : Int32) (l0 : Option Value) (st : List Value) (h : tm_H) (K : Option Value → tm_H → Prop) : tm_A d 20 21 [l0, some (.int v)] st h K ↔ tm_A d 20 22 [l0, some (.int v)] (.int v :: st) h K := tm_s o20_21 rfl rfl rfl
theorem o20_22 : tm_op 20 22 = some (.iaload, (0, 0, 0, 0)) := rfl
theorem r20_22 (d : Nat) (v : Int32) (a : Nat) (ls : tm_Lo) (st : List Value) (G : tm_G) (I : Nat → Nat → Int32) (J : Nat → Nat → Int64) (R : Nat → Nat → Option Nat) (K : Option Value → tm_H → Prop) : tm_A d 20 22 ls (.int v :: .ref a :: st) (G, I, J, R) K ↔ ((G.2.2 a).1 = 1 ∧ tm_in v (G.2.2 a).2) ∧ tm_A d 20 23 ls (.int (I a (tm_ix v)) :: st) (G, I, J, R) K := tm_iald o20_22
theorem o20_23 : tm_op 20 23 = some (.goto 4, (0, 0, 0, 0)) := rfl
theorem r20_23 (d : Nat) (ls : tm_Lo) (st : List Value) (h : tm_H) (K : Option Value → tm_H → Prop) : tm_A d 20 23 ls st h K ↔ tm_A d 20 27 ls st h K := tm_s o20_23 rfl rfl rfl
theorem o20_26 : tm_op 20 26 = some (.iconst (-1), (0, 0, 0, 0)) := rfl
theorem r20_26 (d : Nat) (ls : tm_Lo) (st : List Value) (h : tm_H) (K : Option Value → tm_H → Prop) : tm_A d 20 26 ls st h K ↔ tm_A d 20 27 ls (.int (-1 : Int32) :: st) h K := tm_ic o20_26 (by decide)
theorem o20_27 : tm_op 20 27 = some (.ireturn, (0, 0, 0, 0)) := rfl
theorem r20_27 (d : Nat) (v : Int32) (ls : tm_Lo) (h : tm_H) (K : Option Value → tm_H → Prop) : tm_A d 20 27 ls [.int v] h K ↔ K (some (.int v)) h := tm_reti o20_27 rfl
theorem o21_0 : tm_op 21 0 = some (.aload_n 0, (0, 0, 0, 0)) := rfl
theorem r21_0 (d : Nat) (v : Nat) (st : List Value) (h : tm_H) (K : Option Value → tm_H → Prop) : tm_A d 21 0 [some (.ref v)] st h K ↔ tm_A d 21 1 [some (.ref v)] (.ref v :: st) h K := tm_s o21_0 rfl rfl rfl
theorem o21_1 : tm_op 21 1 = some (.getfield 24, (0, 1, 3, 0)) := rfl
theorem r21_1 (d : Nat) (a : Nat) (ls : tm_Lo) (st : List Value) (G : tm_G) (I : Nat → Nat → Int32) (J : Nat → Nat → Int64) (R : Nat → Nat → Option Nat) (K : Option Value → tm_H → Prop) : tm_A d 21 1 ls (.ref a :: st) (G, I, J, R) K ↔ G.2.2 a = (0, 1) ∧ tm_A d 21 4 ls (.int (I a 3) :: st) (G, I, J, R) K := tm_getI o21_1
theorem o21_4 : tm_op 21 4 = some (.ireturn, (0, 0, 0, 0)) := rfl
theorem r21_4 (d : Nat) (v : Int32) (ls : tm_Lo) (h : tm_H) (K : Option Value → tm_H → Prop) : tm_A d 21 4 ls [.int v] h K ↔ K (some (.int v)) h := tm_reti o21_4 rfl
theorem o22_0 : tm_op 22 0 = some (.aload_n 0, (0, 0, 0, 0)) := rfl
theorem r22_0 (d : Nat) (v : Nat) (l1 l2 : Option Value) (st : List Value) (h : tm_H) (K : Option Value → tm_H → Prop) : tm_A d 22 0 [some (.ref v), l1, l2] st h K ↔ tm_A d 22 1 [some (.ref v), l1, l2] (.ref v :: st) h K := tm_s o22_0 rfl rfl rfl
theorem o22_1 : tm_op 22 1 = some (.invokespecial 5, (4, 0, 0, 0)) := rfl
theorem r22_1 (d : Nat) (a : Nat) (ls : tm_Lo) (st : List Value) (h : tm_H) (K : Option Value → tm_H → Prop) : tm_A (d + 1) 22 1 ls (.ref a :: st) h K ↔ tm_cs st ∧ tm_A (d + 1) 22 4 ls st h K := tm_obj o22_1 rfl rfl
theorem o22_4 : tm_op 22 4 = some (.aload_n 0, (0, 0, 0, 0)) := rfl
theorem r22_4 (d : Nat) (v : Nat) (l1 l2 : Option Value) (st : List Value) (h : tm_H) (K : Option Value → tm_H → Prop) : tm_A d 22 4 [some (.ref v), l1, l2] st h K ↔ tm_A d 22 5 [some (.ref v), l1, l2] (.ref v :: st) h K := tm_s o22_4 rfl rfl rfl
theorem o22_5 : tm_op 22 5 = some (.sipush 1024, (0, 0, 0, 0)) := rfl
theorem r22_5 (d : Nat) (ls : tm_Lo) (st : List Value) (h : tm_H) (K : Option Value → tm_H → Prop) : tm_A d 22 5 ls st h K ↔ tm_A d 22 8 ls (.int (1024 : Int32) :: st) h K := tm_sp o22_5 (by decide)
theorem o22_8 : tm_op 22 8 = some (.newarray .long, (2, 0, 0, 0)) := rfl
theorem r22_8 (d : Nat) (v : Int32) (ls : tm_Lo) (st : List Value) (G : tm_G) (I : Nat → Nat → Int32) (J : Nat → Nat → Int64) (R : Nat → Nat → Option Nat) (K : Option Value → tm_H → Prop) : tm_A d 22 8 ls (.int v :: st) (G, I, J, R) K ↔ (¬ v < 0 ∧ (tm_ix v) ≤ 100000) ∧ tm_A d 22 10 ls (.ref G.1 :: st) (tm_nw (2, (tm_ix v)) (tm_ix v) (G, I, J, R)) K := tm_newa o22_8
theorem o22_10 : tm_op 22 10 = some (.putfield 11, (2, 2, 0, 0)) := rfl
theorem r22_10 (d : Nat) (v : Nat) (a : Nat) (ls : tm_Lo) (st : List Value) (G : tm_G) (I : Nat → Nat → Int32) (J : Nat → Nat → Int64) (R : Nat → Nat → Option Nat) (K : Option Value → tm_H → Prop) : tm_A d 22 10 ls (.ref v :: .ref a :: st) (G, I, J, R) K ↔ G.2.2 a = (0, 2) ∧ tm_A d 22 13 ls st (G, I, J, up2 R a 0 (some v)) K := tm_putR o22_10
theorem o22_13 : tm_op 22 13 = some (.aload_n 0, (0, 0, 0, 0)) := rfl
theorem r22_13 (d : Nat) (v : Nat) (l1 l2 : Option Value) (st : List Value) (h : tm_H) (K : Option Value → tm_H → Prop) : tm_A d 22 13 [some (.ref v), l1, l2] st h K ↔ tm_A d 22 14 [some (.ref v), l1, l2] (.ref v :: st) h K := tm_s o22_13 rfl rfl rfl
theorem o22_14 : tm_op 22 14 = some (.sipush 1024, (0, 0, 0, 0)) := rfl
theorem r22_14 (d : Nat) (ls : tm_Lo) (st : List Value) (h : tm_H) (K : Option Value → tm_H → Prop) : tm_A d 22 14 ls st h K ↔ tm_A d 22 17 ls (.int (1024 : Int32) :: st) h K := tm_sp o22_14 (by decide)
theorem o22_17 : tm_op 22 17 = some (.newarray .long, (2, 0, 0, 0)) := rfl
theorem r22_17 (d : Nat) (v : Int32) (ls : tm_Lo) (st : List Value) (G : tm_G) (I : Nat → Nat → Int32) (J : Nat → Nat → Int64) (R : Nat → Nat → Option Nat) (K : Option Value → tm_H → Prop) : tm_A d 22 17 ls (.int v :: st) (G, I, J, R) K ↔ (¬ v < 0 ∧ (tm_ix v) ≤ 100000) ∧ tm_A d 22 19 ls (.ref G.1 :: st) (tm_nw (2, (tm_ix v)) (tm_ix v) (G, I, J, R)) K := tm_newa o22_17
theorem o22_19 : tm_op 22 19 = some (.putfield 15, (2, 2, 1, 0)) := rfl
theorem r22_19 (d : Nat) (v : Nat) (a : Nat) (ls : tm_Lo) (st : List Value) (G : tm_G) (I : Nat → Nat → Int32) (J : Nat → Nat → Int64) (R : Nat → Nat → Option Nat) (K : Option Value → tm_H → Prop) : tm_A d 22 19 ls (.ref v :: .ref a :: st) (G, I, J, R) K ↔ G.2.2 a = (0, 2) ∧ tm_A d 22 22 ls st (G, I, J, up2 R a 1 (some v)) K := tm_putR o22_19
theorem o22_22 : tm_op 22 22 = some (.aload_n 0, (0, 0, 0, 0)) := rfl
theorem r22_22 (d : Nat) (v : Nat) (l1 l2 : Option Value) (st : List Value) (h : tm_H) (K : Option Value → tm_H → Prop) : tm_A d 22 22 [some (.ref v), l1, l2] st h K ↔ tm_A d 22 23 [some (.ref v), l1, l2] (.ref v :: st) h K := tm_s o22_22 rfl rfl rfl
theorem o22_23 : tm_op 22 23 = some (.sipush 1024, (0, 0, 0, 0)) := rfl
theorem r22_23 (d : Nat) (ls : tm_Lo) (st : List Value) (h : tm_H) (K : Option Value → tm_H → Prop) : tm_A d 22 23 ls st h K ↔ tm_A d 22 26 ls (.int (1024 : Int32) :: st) h K := tm_sp o22_23 (by decide)
theorem o22_26 : tm_op 22 26 = some (.newarray .int, (1, 0, 0, 0)) := rfl
theorem r22_26 (d : Nat) (v : Int32) (ls : tm_Lo) (st : List Value) (G : tm_G) (I : Nat → Nat → Int32) (J : Nat → Nat → Int64) (R : Nat → Nat → Option Nat) (K : Option Value → tm_H → Prop) : tm_A d 22 26 ls (.int v :: st) (G, I, J, R) K ↔ (¬ v < 0 ∧ (tm_ix v) ≤ 100000) ∧ tm_A d 22 28 ls (.ref G.1 :: st) (tm_nw (1, (tm_ix v)) (tm_ix v) (G, I, J, R)) K := tm_newa o22_26
theorem o22_28 : tm_op 22 28 = some (.putfield 18, (2, 2, 2, 0)) := rfl
theorem r22_28 (d : Nat) (v : Nat) (a : Nat) (ls : tm_Lo) (st : List Value) (G : tm_G) (I : Nat → Nat → Int32) (J : Nat → Nat → Int64) (R : Nat → Nat → Option Nat) (K : Option Value → tm_H → Prop) : tm_A d 22 28 ls (.ref v :: .ref a :: st) (G, I, J, R) K ↔ G.2.2 a = (0, 2) ∧ tm_A d 22 31 ls st (G, I, J, up2 R a 2 (some v)) K := tm_putR o22_28
theorem o22_31 : tm_op 22 31 = some (.aload_n 0, (0, 0, 0, 0)) := rfl
theorem r22_31 (d : Nat) (v : Nat) (l1 l2 : Option Value) (st : List Value) (h : tm_H) (K : Option Value → tm_H → Prop) : tm_A d 22 31 [some (.ref v), l1, l2] st h K ↔ tm_A d 22 32 [some (.ref v), l1, l2] (.ref v :: st) h K := tm_s o22_31 rfl rfl rfl
theorem o22_32 : tm_op 22 32 = some (.bipush 10, (0, 0, 0, 0)) := rfl
theorem r22_32 (d : Nat) (ls : tm_Lo) (st : List Value) (h : tm_H) (K : Option Value → tm_H → Prop) : tm_A d 22 32 ls st h K ↔ tm_A d 22 34 ls (.int (10 : Int32) :: st) h K := tm_bp o22_32 (by decide)
theorem o22_34 : tm_op 22 34 = some (.newarray .int, (1, 0, 0, 0)) := rfl
theorem r22_34 (d : Nat) (v : Int32) (ls : tm_Lo) (st : List Value) (G : tm_G) (I : Nat → Nat → Int32) (J : Nat → Nat → Int64) (R : Nat → Nat → Option Nat) (K : Option Value → tm_H → Prop) : tm_A d 22 34 ls (.int v :: st) (G, I, J, R) K ↔ (¬ v < 0 ∧ (tm_ix v) ≤ 100000) ∧ tm_A d 22 36 ls (.ref G.1 :: st) (tm_nw (1, (tm_ix v)) (tm_ix v) (G, I, J, R)) K := tm_newa o22_34
theorem o22_36 : tm_op 22 36 = some (.putfield 22, (2, 2, 3, 0)) := rfl
theorem r22_36 (d : Nat) (v : Nat) (a : Nat) (ls : tm_Lo) (st : List Value) (G : tm_G) (I : Nat → Nat → Int32) (J : Nat → Nat → Int64) (R : Nat → Nat → Option Nat) (K : Option Value → tm_H → Prop) : tm_A d 22 36 ls (.ref v :: .ref a :: st) (G, I, J, R) K ↔ G.2.2 a = (0, 2) ∧ tm_A d 22 39 ls st (G, I, J, up2 R a 3 (some v)) K := tm_putR o22_36
theorem o22_39 : tm_op 22 39 = some (.aload_n 0, (0, 0, 0, 0)) := rfl
theorem r22_39 (d : Nat) (v : Nat) (l1 l2 : Option Value) (st : List Value) (h : tm_H) (K : Option Value → tm_H → Prop) : tm_A d 22 39 [some (.ref v), l1, l2] st h K ↔ tm_A d 22 40 [some (.ref v), l1, l2] (.ref v :: st) h K := tm_s o22_39 rfl rfl rfl
theorem o22_40 : tm_op 22 40 = some (.lconst 0, (0, 0, 0, 0)) := rfl
theorem r22_40 (d : Nat) (ls : tm_Lo) (st : List Value) (h : tm_H) (K : Option Value → tm_H → Prop) : tm_A d 22 40 ls st h K ↔ tm_A d 22 41 ls (.long (0 : Int64) :: st) h K := tm_s o22_40 rfl rfl rfl
theorem o22_41 : tm_op 22 41 = some (.putfield 25, (1, 2, 4, 0)) := rfl
theorem r22_41 (d : Nat) (v : Int64) (a : Nat) (ls : tm_Lo) (st : List Value) (G : tm_G) (I : Nat → Nat → Int32) (J : Nat → Nat → Int64) (R : Nat → Nat → Option Nat) (K : Option Value → tm_H → Prop) : tm_A d 22 41 ls (.long v :: .ref a :: st) (G, I, J, R) K ↔ G.2.2 a = (0, 2) ∧ tm_A d 22 44 ls st (G, I, up2 J a 4 v, R) K := tm_putJ o22_41
theorem o22_44 : tm_op 22 44 = some (.aload_n 0, (0, 0, 0, 0)) := rfl
theorem r22_44 (d : Nat) (v : Nat) (l1 l2 : Option Value) (st : List Value) (h : tm_H) (K : Option Value → tm_H → Prop) : tm_A d 22 44 [some (.ref v), l1, l2] st h K ↔ tm_A d 22 45 [some (.ref v), l1, l2] (.ref v :: st) h K := tm_s o22_44 rfl rfl rfl
theorem o22_45 : tm_op 22 45 = some (.iconst 0, (0, 0, 0, 0)) := rfl
theorem r22_45 (d : Nat) (ls : tm_Lo) (st : List Value) (h : tm_H) (K : Option Value → tm_H → Prop) : tm_A d 22 45 ls st h K ↔ tm_A d 22 46 ls (.int (0 : Int32) :: st) h K := tm_ic o22_45 (by decide)
theorem o22_46 : tm_op 22 46 = some (.putfield 29, (0, 2, 5, 0)) := rfl
theorem r22_46 (d : Nat) (v : Int32) (a : Nat) (ls : tm_Lo) (st : List Value) (G : tm_G) (I : Nat → Nat → Int32) (J : Nat → Nat → Int64) (R : Nat → Nat → Option Nat) (K : Option Value → tm_H → Prop) : tm_A d 22 46 ls (.int v :: .ref a :: st) (G, I, J, R) K ↔ G.2.2 a = (0, 2) ∧ tm_A d 22 49 ls st (G, up2 I a 5 v, J, R) K := tm_putI o22_46
theorem o22_49 : tm_op 22 49 = some (.iconst 0, (0, 0, 0, 0)) := rfl
theorem r22_49 (d : Nat) (ls : tm_Lo) (st : List Value) (h : tm_H) (K : Option Value → tm_H → Prop) : tm_A d 22 49 ls st h K ↔ tm_A d 22 50 ls (.int (0 : Int32) :: st) h K := tm_ic o22_49 (by decide)
theorem o22_50 : tm_op 22 50 = some (.istore_n 1, (0, 0, 0, 0)) := rfl
theorem r22_50 (d : Nat) (v : Int32) (l0 l1 l2 : Option Value) (st : List Value) (h : tm_H) (K : Option Value → tm_H → Prop) : tm_A d 22 50 [l0, l1, l2] (.int v :: st) h K ↔ tm_A d 22 51 [l0, some (.int v), l2] st h K := tm_s o22_50 rfl rfl rfl
theorem o22_51 : tm_op 22 51 = some (.iload_n 1, (0, 0, 0, 0)) := rfl
theorem r22_51 (d : Nat) (v : Int32) (l0 l2 : Option Value) (st : List Value) (h : tm_H) (K : Option Value → tm_H → Prop) : tm_A d 22 51 [l0, some (.int v), l2] st h K ↔ tm_A d 22 52 [l0, some (.int v), l2] (.int v :: st) h K := tm_s o22_51 rfl rfl rfl
theorem o22_52 : tm_op 22 52 = some (.bipush 10, (0, 0, 0, 0)) := rfl
theorem r22_52 (d : Nat) (ls : tm_Lo) (st : List Value) (h : tm_H) (K : Option Value → tm_H → Prop) : tm_A d 22 52 ls st h K ↔ tm_A d 22 54 ls (.int (10 : Int32) :: st) h K := tm_bp o22_52 (by decide)
theorem o22_54 : tm_op 22 54 = some (.if_icmp .ge 49, (0, 0, 0, 0)) := rfl
theorem r22_54 (d : Nat) (y x : Int32) (ls : tm_Lo) (st : List Value) (h : tm_H) (K : Option Value → tm_H → Prop) : tm_A d 22 54 ls (.int y :: .int x :: st) h K ↔ if y ≤ x then tm_A d 22 103 ls st h K else tm_A d 22 57 ls st h K := tm_b o22_54 rfl rfl rfl rfl
theorem o22_57 : tm_op 22 57 = some (.aload_n 0, (0, 0, 0, 0)) := rfl
theorem r22_57 (d : Nat) (v : Nat) (l1 l2 : Option Value) (st : List Value) (h : tm_H) (K : Option Value → tm_H → Prop) : tm_A d 22 57 [some (.ref v), l1, l2] st h K ↔ tm_A d 22 58 [some (.ref v), l1, l2] (.ref v :: st) h K := tm_s o22_57 rfl rfl rfl
theorem o22_58 : tm_op 22 58 = some (.getfield 18, (2, 2, 2, 0)) := rfl
theorem r22_58 (d : Nat) (a : Nat) (ls : tm_Lo) (st : List Value) (G : tm_G) (I : Nat → Nat → Int32) (J : Nat → Nat → Int64) (R : Nat → Nat → Option Nat) (K : Option Value → tm_H → Prop) : tm_A d 22 58 ls (.ref a :: st) (G, I, J, R) K ↔ G.2.2 a = (0, 2) ∧ tm_A d 22 61 ls (tm_rf (R a 2) :: st) (G, I, J, R) K := tm_getR o22_58
theorem o22_61 : tm_op 22 61 = some (.iconst 1, (0, 0, 0, 0)) := rfl
theorem r22_61 (d : Nat) (ls : tm_Lo) (st : List Value) (h : tm_H) (K : Option Value → tm_H → Prop) : tm_A d 22 61 ls st h K ↔ tm_A d 22 62 ls (.int (1 : Int32) :: st) h K := tm_ic o22_61 (by decide)
theorem o22_62 : tm_op 22 62 = some (.iload_n 1, (0, 0, 0, 0)) := rfl
theorem r22_62 (d : Nat) (v : Int32) (l0 l2 : Option Value) (st : List Value) (h : tm_H) (K : Option Value → tm_H → Prop) : tm_A d 22 62 [l0, some (.int v), l2] st h K ↔ tm_A d 22 63 [l0, some (.int v), l2] (.int v :: st) h K := tm_s o22_62 rfl rfl rfl
theorem o22_63 : tm_op 22 63 = some (.ishl, (0, 0, 0, 0)) := rfl
theorem r22_63 (d : Nat) (u v : Int32) (ls : tm_Lo) (st : List Value) (h : tm_H) (K : Option Value → tm_H → Prop) : tm_A d 22 63 ls (.int u :: .int v :: st) h K ↔ tm_A d 22 64 ls (.int (v <<< (u &&& 31)) :: st) h K := tm_s o22_63 rfl rfl rfl
theorem o22_64 : tm_op 22 64 = some (.iload_n 1, (0, 0, 0, 0)) := rfl
theorem r22_64 (d : Nat) (v : Int32) (l0 l2 : Option Value) (st : List Value) (h : tm_H) (K : Option Value → tm_H → Prop) : tm_A d 22 64 [l0, some (.int v), l2] st h K ↔ tm_A d 22 65 [l0, some (.int v), l2] (.int v :: st) h K := tm_s o22_64 rfl rfl rfl
theorem o22_65 : tm_op 22 65 = some (.iastore, (0, 0, 0, 0)) := rfl
theorem r22_65 (d : Nat) (u v : Int32) (a : Nat) (ls : tm_Lo) (st : List Value) (G : tm_G) (I : Nat → Nat → Int32) (J : Nat → Nat → Int64) (R : Nat → Nat → Option Nat) (K : Option Value → tm_H → Prop) : tm_A d 22 65 ls (.int u :: .int v :: .ref a :: st) (G, I, J, R) K ↔ (3 ≤ a ∧ (G.2.2 a).1 = 1 ∧ tm_in v (G.2.2 a).2) ∧ tm_A d 22 66 ls st (G, up2 I a (tm_ix v) u, J, R) K := tm_iast o22_65
theorem o22_66 : tm_op 22 66 = some (.iconst 1, (0, 0, 0, 0)) := rfl
theorem r22_66 (d : Nat) (ls : tm_Lo) (st : List Value) (h : tm_H) (K : Option Value → tm_H → Prop) : tm_A d 22 66 ls st h K ↔ tm_A d 22 67 ls (.int (1 : Int32) :: st) h K := tm_ic o22_66 (by decide)
theorem o22_67 : tm_op 22 67 = some (.istore_n 2, (0, 0, 0, 0)) := rfl
theorem r22_67 (d : Nat) (v : Int32) (l0 l1 l2 : Option Value) (st : List Value) (h : tm_H) (K : Option Value → tm_H → Prop) : tm_A d 22 67 [l0, l1, l2] (.int v :: st) h K ↔ tm_A d 22 68 [l0, l1, some (.int v)] st h K := tm_s o22_67 rfl rfl rfl
theorem o22_68 : tm_op 22 68 = some (.iload_n 2, (0, 0, 0, 0)) := rfl
theorem r22_68 (d : Nat) (v : Int32) (l0 l1 : Option Value) (st : List Value) (h : tm_H) (K : Option Value → tm_H → Prop) : tm_A d 22 68 [l0, l1, some (.int v)] st h K ↔ tm_A d 22 69 [l0, l1, some (.int v)] (.int v :: st) h K := tm_s o22_68 rfl rfl rfl
theorem o22_69 : tm_op 22 69 = some (.iconst 1, (0, 0, 0, 0)) := rfl
theorem r22_69 (d : Nat) (ls : tm_Lo) (st : List Value) (h : tm_H) (K : Option Value → tm_H → Prop) : tm_A d 22 69 ls st h K ↔ tm_A d 22 70 ls (.int (1 : Int32) :: st) h K := tm_ic o22_69 (by decide)
theorem o22_70 : tm_op 22 70 = some (.iload_n 1, (0, 0, 0, 0)) := rfl
theorem r22_70 (d : Nat) (v : Int32) (l0 l2 : Option Value) (st : List Value) (h : tm_H) (K : Option Value → tm_H → Prop) : tm_A d 22 70 [l0, some (.int v), l2] st h K ↔ tm_A d 22 71 [l0, some (.int v), l2] (.int v :: st) h K := tm_s o22_70 rfl rfl rfl
theorem o22_71 : tm_op 22 71 = some (.ishl, (0, 0, 0, 0)) := rfl
theorem r22_71 (d : Nat) (u v : Int32) (ls : tm_Lo) (st : List Value) (h : tm_H) (K : Option Value → tm_H → Prop) : tm_A d 22 71 ls (.int u :: .int v :: st) h K ↔ tm_A d 22 72 ls (.int (v <<< (u &&& 31)) :: st) h K := tm_s o22_71 rfl rfl rfl
theorem o22_72 : tm_op 22 72 = some (.if_icmp .ge 25, (0, 0, 0, 0)) := rfl
theorem r22_72 (d : Nat) (y x : Int32) (ls : tm_Lo) (st : List Value) (h : tm_H) (K : Option Value → tm_H → Prop) : tm_A d 22 72 ls (.int y :: .int x :: st) h K ↔ if y ≤ x then tm_A d 22 97 ls st h K else tm_A d 22 75 ls st h K := tm_b o22_72 rfl rfl rfl rfl
theorem o22_75 : tm_op 22 75 = some (.aload_n 0, (0, 0, 0, 0)) := rfl
theorem r22_75 (d : Nat) (v : Nat) (l1 l2 : Option Value) (st : List Value) (h : tm_H) (K : Option Value → tm_H → Prop) : tm_A d 22 75 [some (.ref v), l1, l2] st h K ↔ tm_A d 22 76 [some (.ref v), l1, l2] (.ref v :: st) h K := tm_s o22_75 rfl rfl rfl
theorem o22_76 : tm_op 22 76 = some (.getfield 18, (2, 2, 2, 0)) := rfl
theorem r22_76 (d : Nat) (a : Nat) (ls : tm_Lo) (st : List Value) (G : tm_G) (I : Nat → Nat → Int32) (J : Nat → Nat → Int64) (R : Nat → Nat → Option Nat) (K : Option Value → tm_H → Prop) : tm_A d 22 76 ls (.ref a :: st) (G, I, J, R) K ↔ G.2.2 a = (0, 2) ∧ tm_A d 22 79 ls (tm_rf (R a 2) :: st) (G, I, J, R) K := tm_getR o22_76
theorem o22_79 : tm_op 22 79 = some (.iconst 1, (0, 0, 0, 0)) := rfl
theorem r22_79 (d : Nat) (ls : tm_Lo) (st : List Value) (h : tm_H) (K : Option Value → tm_H → Prop) : tm_A d 22 79 ls st h K ↔ tm_A d 22 80 ls (.int (1 : Int32) :: st) h K := tm_ic o22_79 (by decide)
theorem o22_80 : tm_op 22 80 = some (.iload_n 1, (0, 0, 0, 0)) := rfl
theorem r22_80 (d : Nat) (v : Int32) (l0 l2 : Option Value) (st : List Value) (h : tm_H) (K : Option Value → tm_H → Prop) : tm_A d 22 80 [l0, some (.int v), l2] st h K ↔ tm_A d 22 81 [l0, some (.int v), l2] (.int v :: st) h K := tm_s o22_80 rfl rfl rfl
theorem o22_81 : tm_op 22 81 = some (.ishl, (0, 0, 0, 0)) := rfl
theorem r22_81 (d : Nat) (u v : Int32) (ls : tm_Lo) (st : List Value) (h : tm_H) (K : Option Value → tm_H → Prop) : tm_A d 22 81 ls (.int u :: .int v :: st) h K ↔ tm_A d 22 82 ls (.int (v <<< (u &&& 31)) :: st) h K := tm_s o22_81 rfl rfl rfl
theorem o22_82 : tm_op 22 82 = some (.iload_n 2, (0, 0, 0, 0)) := rfl
theorem r22_82 (d : Nat) (v : Int32) (l0 l1 : Option Value) (st : List Value) (h : tm_H) (K : Option Value → tm_H → Prop) : tm_A d 22 82 [l0, l1, some (.int v)] st h K ↔ tm_A d 22 83 [l0, l1, some (.int v)] (.int v :: st) h K := tm_s o22_82 rfl rfl rfl
theorem o22_83 : tm_op 22 83 = some (.ior, (0, 0, 0, 0)) := rfl
theorem r22_83 (d : Nat) (u v : Int32) (ls : tm_Lo) (st : List Value) (h : tm_H) (K : Option Value → tm_H → Prop) : tm_A d 22 83 ls (.int u :: .int v :: st) h K ↔ tm_A d 22 84 ls (.int (v ||| u) :: st) h K := tm_s o22_83 rfl rfl rfl
theorem o22_84 : tm_op 22 84 = some (.aload_n 0, (0, 0, 0, 0)) := rfl
theorem r22_84 (d : Nat) (v : Nat) (l1 l2 : Option Value) (st : List Value) (h : tm_H) (K : Option Value → tm_H → Prop) : tm_A d 22 84 [some (.ref v), l1, l2] st h K ↔ tm_A d 22 85 [some (.ref v), l1, l2] (.ref v :: st) h K := tm_s o22_84 rfl rfl rfl
theorem o22_85 : tm_op 22 85 = some (.getfield 18, (2, 2, 2, 0)) := rfl
theorem r22_85 (d : Nat) (a : Nat) (ls : tm_Lo) (st : List Value) (G : tm_G) (I : Nat → Nat → Int32) (J : Nat → Nat → Int64) (R : Nat → Nat → Option Nat) (K : Option Value → tm_H → Prop) : tm_A d 22 85 ls (.ref a :: st) (G, I, J, R) K ↔ G.2.2 a = (0, 2) ∧ tm_A d 22 88 ls (tm_rf (R a 2) :: st) (G, I, J, R) K := tm_getR o22_85
theorem o22_88 : tm_op 22 88 = some (.iload_n 2, (0, 0, 0, 0)) := rfl
theorem r22_88 (d : Nat) (v : Int32) (l0 l1 : Option Value) (st : List Value) (h : tm_H) (K : Option Value → tm_H → Prop) : tm_A d 22 88 [l0, l1, some (.int v)] st h K ↔ tm_A d 22 89 [l0, l1, some (.int v)] (.int v :: st) h K := tm_s o22_88 rfl rfl rfl
theorem o22_89 : tm_op 22 89 = some (.iaload, (0, 0, 0, 0)) := rfl
theorem r22_89 (d : Nat) (v : Int32) (a : Nat) (ls : tm_Lo) (st : List Value) (G : tm_G) (I : Nat → Nat → Int32) (J : Nat → Nat → Int64) (R : Nat → Nat → Option Nat) (K : Option Value → tm_H → Prop) : tm_A d 22 89 ls (.int v :: .ref a :: st) (G, I, J, R) K ↔ ((G.2.2 a).1 = 1 ∧ tm_in v (G.2.2 a).2) ∧ tm_A d 22 90 ls (.int (I a (tm_ix v)) :: st) (G, I, J, R) K := tm_iald o22_89
theorem o22_90 : tm_op 22 90 = some (.iastore, (0, 0, 0, 0)) := rfl
theorem r22_90 (d : Nat) (u v : Int32) (a : Nat) (ls : tm_Lo) (st : List Value) (G : tm_G) (I : Nat → Nat → Int32) (J : Nat → Nat → Int64) (R : Nat → Nat → Option Nat) (K : Option Value → tm_H → Prop) : tm_A d 22 90 ls (.int u :: .int v :: .ref a :: st) (G, I, J, R) K ↔ (3 ≤ a ∧ (G.2.2 a).1 = 1 ∧ tm_in v (G.2.2 a).2) ∧ tm_A d 22 91 ls st (G, up2 I a (tm_ix v) u, J, R) K := tm_iast o22_90
theorem o22_91 : tm_op 22 91 = some (.iinc 2 1, (0, 0, 0, 0)) := rfl
theorem r22_91 (d : Nat) (v : Int32) (l0 l1 : Option Value) (st : List Value) (h : tm_H) (K : Option Value → tm_H → Prop) : tm_A d 22 91 [l0, l1, some (.int v)] st h K ↔ tm_A d 22 94 [l0, l1, some (.int (v + (1 : Int32)))] st h K := tm_s o22_91 rfl rfl rfl
theorem o22_94 : tm_op 22 94 = some (.goto (-26), (0, 0, 0, 0)) := rfl
theorem r22_94 (d : Nat) (ls : tm_Lo) (st : List Value) (h : tm_H) (K : Option Value → tm_H → Prop) : tm_A d 22 94 ls st h K ↔ tm_A d 22 68 ls st h K := tm_s o22_94 rfl rfl rfl
theorem o22_97 : tm_op 22 97 = some (.iinc 1 1, (0, 0, 0, 0)) := rfl
theorem r22_97 (d : Nat) (v : Int32) (l0 l2 : Option Value) (st : List Value) (h : tm_H) (K : Option Value → tm_H → Prop) : tm_A d 22 97 [l0, some (.int v), l2] st h K ↔ tm_A d 22 100 [l0, some (.int (v + (1 : Int32))), l2] st h K := tm_s o22_97 rfl rfl rfl
theorem o22_100 : tm_op 22 100 = some (.goto (-49), (0, 0, 0, 0)) := rfl
theorem r22_100 (d : Nat) (ls : tm_Lo) (st : List Value) (h : tm_H) (K : Option Value → tm_H → Prop) : tm_A d 22 100 ls st h K ↔ tm_A d 22 51 ls st h K := tm_s o22_100 rfl rfl rfl
theorem o22_103 : tm_op 22 103 = some (.return_, (0, 0, 0, 0)) := rfl
theorem r22_103 (d : Nat) (ls : tm_Lo) (h : tm_H) (K : Option Value → tm_H → Prop) : tm_A d 22 103 ls [] h K ↔ K none h := tm_retv o22_103 rfl
theorem o23_0 : tm_op 23 0 = some (.aload_n 0, (0, 0, 0, 0)) := rfl
theorem r23_0 (d : Nat) (v : Nat) (l1 l2 l3 l4 : Option Value) (st : List Value) (h : tm_H) (K : Option Value → tm_H → Prop) : tm_A d 23 0 [some (.ref v), l1, l2, l3, l4] st h K ↔ tm_A d 23 1 [some (.ref v), l1, l2, l3, l4] (.ref v :: st) h K := tm_s o23_0 rfl rfl rfl
theorem o23_1 : tm_op 23 1 = some (.iconst 0, (0, 0, 0, 0)) := rfl
theorem r23_1 (d : Nat) (ls : tm_Lo) (st : List Value) (h : tm_H) (K : Option Value → tm_H → Prop) : tm_A d 23 1 ls st h K ↔ tm_A d 23 2 ls (.int (0 : Int32) :: st) h K := tm_ic o23_1 (by decide)
theorem o23_2 : tm_op 23 2 = some (.iload_n 2, (0, 0, 0, 0)) := rfl
theorem r23_2 (d : Nat) (v : Int32) (l0 l1 l3 l4 : Option Value) (st : List Value) (h : tm_H) (K : Option Value → tm_H → Prop) : tm_A d 23 2 [l0, l1, some (.int v), l3, l4] st h K ↔ tm_A d 23 3 [l0, l1, some (.int v), l3, l4] (.int v :: st) h K := tm_s o23_2 rfl rfl rfl
theorem o23_3 : tm_op 23 3 = some (.invokestatic 33, (7, 0, 0, 0)) := rfl
theorem r23_3 (d : Nat) (v0 v1 : Int32) (ls : tm_Lo) (st : List Value) (h : tm_H) (K : Option Value → tm_H → Prop) : tm_A (d + 1) 23 3 ls (.int v1 :: .int v0 :: st) h K ↔ tm_cs st ∧ tm_A (d + 1) 23 6 ls (.int (if v0 < v1 then v1 else v0) :: st) h K := tm_max o23_3 rfl rfl
theorem o23_6 : tm_op 23 6 = some (.bipush 10, (0, 0, 0, 0)) := rfl
theorem r23_6 (d : Nat) (ls : tm_Lo) (st : List Value) (h : tm_H) (K : Option Value → tm_H → Prop) : tm_A d 23 6 ls st h K ↔ tm_A d 23 8 ls (.int (10 : Int32) :: st) h K := tm_bp o23_6 (by decide)
theorem o23_8 : tm_op 23 8 = some (.invokestatic 39, (8, 0, 0, 0)) := rfl
theorem r23_8 (d : Nat) (v0 v1 : Int32) (ls : tm_Lo) (st : List Value) (h : tm_H) (K : Option Value → tm_H → Prop) : tm_A (d + 1) 23 8 ls (.int v1 :: .int v0 :: st) h K ↔ tm_cs st ∧ tm_A (d + 1) 23 11 ls (.int (if v1 < v0 then v1 else v0) :: st) h K := tm_min o23_8 rfl rfl
theorem o23_11 : tm_op 23 11 = some (.putfield 29, (0, 2, 5, 0)) := rfl
theorem r23_11 (d : Nat) (v : Int32) (a : Nat) (ls : tm_Lo) (st : List Value) (G : tm_G) (I : Nat → Nat → Int32) (J : Nat → Nat → Int64) (R : Nat → Nat → Option Nat) (K : Option Value → tm_H → Prop) : tm_A d 23 11 ls (.int v :: .ref a :: st) (G, I, J, R) K ↔ G.2.2 a = (0, 2) ∧ tm_A d 23 14 ls st (G, up2 I a 5 v, J, R) K := tm_putI o23_11
theorem o23_14 : tm_op 23 14 = some (.iconst 0, (0, 0, 0, 0)) := rfl
theorem r23_14 (d : Nat) (ls : tm_Lo) (st : List Value) (h : tm_H) (K : Option Value → tm_H → Prop) : tm_A d 23 14 ls st h K ↔ tm_A d 23 15 ls (.int (0 : Int32) :: st) h K := tm_ic o23_14 (by decide)
theorem o23_15 : tm_op 23 15 = some (.istore 4, (0, 0, 0, 0)) := rfl
theorem r23_15 (d : Nat) (v : Int32) (l0 l1 l2 l3 l4 : Option Value) (st : List Value) (h : tm_H) (K : Option Value → tm_H → Prop) : tm_A d 23 15 [l0, l1, l2, l3, l4] (.int v :: st) h K ↔ tm_A d 23 17 [l0, l1, l2, l3, some (.int v)] st h K := tm_s o23_15 rfl rfl rfl
theorem o23_17 : tm_op 23 17 = some (.iload 4, (0, 0, 0, 0)) := rfl
theorem r23_17 (d : Nat) (v : Int32) (l0 l1 l2 l3 : Option Value) (st : List Value) (h : tm_H) (K : Option Value → tm_H → Prop) : tm_A d 23 17 [l0, l1, l2, l3, some (.int v)] st h K ↔ tm_A d 23 19 [l0, l1, l2, l3, some (.int v)] (.int v :: st) h K := tm_s o23_17 rfl rfl rfl
theorem o23_19 : tm_op 23 19 = some (.aload_n 0, (0, 0, 0, 0)) := rfl
theorem r23_19 (d : Nat) (v : Nat) (l1 l2 l3 l4 : Option Value) (st : List Value) (h : tm_H) (K : Option Value → tm_H → Prop) : tm_A d 23 19 [some (.ref v), l1, l2, l3, l4] st h K ↔ tm_A d 23 20 [some (.ref v), l1, l2, l3, l4] (.ref v :: st) h K := tm_s o23_19 rfl rfl rfl
theorem o23_20 : tm_op 23 20 = some (.getfield 29, (0, 2, 5, 0)) := rfl
theorem r23_20 (d : Nat) (a : Nat) (ls : tm_Lo) (st : List Value) (G : tm_G) (I : Nat → Nat → Int32) (J : Nat → Nat → Int64) (R : Nat → Nat → Option Nat) (K : Option Value → tm_H → Prop) : tm_A d 23 20 ls (.ref a :: st) (G, I, J, R) K ↔ G.2.2 a = (0, 2) ∧ tm_A d 23 23 ls (.int (I a 5) :: st) (G, I, J, R) K := tm_getI o23_20
theorem o23_23 : tm_op 23 23 = some (.if_icmp .ge 17, (0, 0, 0, 0)) := rfl
theorem r23_23 (d : Nat) (y x : Int32) (ls : tm_Lo) (st : List Value) (h : tm_H) (K : Option Value → tm_H → Prop) : tm_A d 23 23 ls (.int y :: .int x :: st) h K ↔ if y ≤ x then tm_A d 23 40 ls st h K else tm_A d 23 26 ls st h K := tm_b o23_23 rfl rfl rfl rfl
theorem o23_26 : tm_op 23 26 = some (.aload_n 0, (0, 0, 0, 0)) := rfl
theorem r23_26 (d : Nat) (v : Nat) (l1 l2 l3 l4 : Option Value) (st : List Value) (h : tm_H) (K : Option Value → tm_H → Prop) : tm_A d 23 26 [some (.ref v), l1, l2, l3, l4] st h K ↔ tm_A d 23 27 [some (.ref v), l1, l2, l3, l4] (.ref v :: st) h K := tm_s o23_26 rfl rfl rfl
theorem o23_27 : tm_op 23 27 = some (.iload 4, (0, 0, 0, 0)) := rfl
theorem r23_27 (d : Nat) (v : Int32) (l0 l1 l2 l3 : Option Value) (st : List Value) (h : tm_H) (K : Option Value → tm_H → Prop) : tm_A d 23 27 [l0, l1, l2, l3, some (.int v)] st h K ↔ tm_A d 23 29 [l0, l1, l2, l3, some (.int v)] (.int v :: st) h K := tm_s o23_27 rfl rfl rfl
theorem o23_29 : tm_op 23 29 = some (.aload_n 1, (0, 0, 0, 0)) := rfl
theorem r23_29 (d : Nat) (v : Nat) (l0 l2 l3 l4 : Option Value) (st : List Value) (h : tm_H) (K : Option Value → tm_H → Prop) : tm_A d 23 29 [l0, some (.ref v), l2, l3, l4] st h K ↔ tm_A d 23 30 [l0, some (.ref v), l2, l3, l4] (.ref v :: st) h K := tm_s o23_29 rfl rfl rfl
theorem r23_29n (d : Nat)  (l0 l2 l3 l4 : Option Value) (st : List Value) (h : tm_H) (K : Option Value → tm_H → Prop) : tm_A d 23 29 [l0, some .null, l2, l3, l4] st h K ↔ tm_A d 23 30 [l0, some .null, l2, l3, l4] (.null :: st) h K := tm_s o23_29 rfl rfl rfl
theorem o23_30 : tm_op 23 30 = some (.iload_n 3, (0, 0, 0, 0)) := rfl
theorem r23_30 (d : Nat) (v : Int32) (l0 l1 l2 l4 : Option Value) (st : List Value) (h : tm_H) (K : Option Value → tm_H → Prop) : tm_A d 23 30 [l0, l1, l2, some (.int v), l4] st h K ↔ tm_A d 23 31 [l0, l1, l2, some (.int v), l4] (.int v :: st) h K := tm_s o23_30 rfl rfl rfl
theorem o23_31 : tm_op 23 31 = some (.invokevirtual 42, (2, 25, 4, 2)) := rfl
theorem r23_31 (d : Nat) (v1 : Int32) (v2 : Nat) (v3 : Int32) (a : Nat) (ls : tm_Lo) (st : List Value) (h : tm_H) (K : Option Value → tm_H → Prop) : tm_A (d + 1) 23 31 ls (.int v3 :: .ref v2 :: .int v1 :: .ref a :: st) h K ↔ (h.1.2.2 a = (0, 2) ∧ tm_cs st) ∧ tm_R d 25 [.ref a, .int v1, .ref v2, .int v3] h (fun r h' => tm_A (d + 1) 23 34 ls (r.toList ++ st) h' K) := tm_callV (as := [.int v1, .ref v2, .int v3]) o23_31 rfl rfl rfl rfl
theorem o23_34 : tm_op 23 34 = some (.iinc 4 1, (0, 0, 0, 0)) := rfl
theorem r23_34 (d : Nat) (v : Int32) (l0 l1 l2 l3 : Option Value) (st : List Value) (h : tm_H) (K : Option Value → tm_H → Prop) : tm_A d 23 34 [l0, l1, l2, l3, some (.int v)] st h K ↔ tm_A d 23 37 [l0, l1, l2, l3, some (.int (v + (1 : Int32)))] st h K := tm_s o23_34 rfl rfl rfl
theorem o23_37 : tm_op 23 37 = some (.goto (-20), (0, 0, 0, 0)) := rfl
theorem r23_37 (d : Nat) (ls : tm_Lo) (st : List Value) (h : tm_H) (K : Option Value → tm_H → Prop) : tm_A d 23 37 ls st h K ↔ tm_A d 23 17 ls st h K := tm_s o23_37 rfl rfl rfl
theorem o23_40 : tm_op 23 40 = some (.aload_n 0, (0, 0, 0, 0)) := rfl
theorem r23_40 (d : Nat) (v : Nat) (l1 l2 l3 l4 : Option Value) (st : List Value) (h : tm_H) (K : Option Value → tm_H → Prop) : tm_A d 23 40 [some (.ref v), l1, l2, l3, l4] st h K ↔ tm_A d 23 41 [some (.ref v), l1, l2, l3, l4] (.ref v :: st) h K := tm_s o23_40 rfl rfl rfl
theorem o23_41 : tm_op 23 41 = some (.aload_n 1, (0, 0, 0, 0)) := rfl
theorem r23_41 (d : Nat) (v : Nat) (l0 l2 l3 l4 : Option Value) (st : List Value) (h : tm_H) (K : Option Value → tm_H → Prop) : tm_A d 23 41 [l0, some (.ref v), l2, l3, l4] st h K ↔ tm_A d 23 42 [l0, some (.ref v), l2, l3, l4] (.ref v :: st) h K := tm_s o23_41 rfl rfl rfl
theorem r23_41n (d : Nat)  (l0 l2 l3 l4 : Option Value) (st : List Value) (h : tm_H) (K : Option Value → tm_H → Prop) : tm_A d 23 41 [l0, some .null, l2, l3, l4] st h K ↔ tm_A d 23 42 [l0, some .null, l2, l3, l4] (.null :: st) h K := tm_s o23_41 rfl rfl rfl
theorem o23_42 : tm_op 23 42 = some (.invokevirtual 46, (2, 27, 2, 2)) := rfl
theorem r23_42 (d : Nat) (v1 : Nat) (a : Nat) (ls : tm_Lo) (st : List Value) (h : tm_H) (K : Option Value → tm_H → Prop) : tm_A (d + 1) 23 42 ls (.ref v1 :: .ref a :: st) h K ↔ (h.1.2.2 a = (0, 2) ∧ tm_cs st) ∧ tm_R d 27 [.ref a, .ref v1] h (fun r h' => tm_A (d + 1) 23 45 ls (r.toList ++ st) h' K) := tm_callV (as := [.ref v1]) o23_42 rfl rfl rfl rfl
theorem o23_45 : tm_op 23 45 = some (.aload_n 0, (0, 0, 0, 0)) := rfl
theorem r23_45 (d : Nat) (v : Nat) (l1 l2 l3 l4 : Option Value) (st : List Value) (h : tm_H) (K : Option Value → tm_H → Prop) : tm_A d 23 45 [some (.ref v), l1, l2, l3, l4] st h K ↔ tm_A d 23 46 [some (.ref v), l1, l2, l3, l4] (.ref v :: st) h K := tm_s o23_45 rfl rfl rfl
theorem o23_46 : tm_op 23 46 = some (.getfield 15, (2, 2, 1, 0)) := rfl
theorem r23_46 (d : Nat) (a : Nat) (ls : tm_Lo) (st : List Value) (G : tm_G) (I : Nat → Nat → Int32) (J : Nat → Nat → Int64) (R : Nat → Nat → Option Nat) (K : Option Value → tm_H → Prop) : tm_A d 23 46 ls (.ref a :: st) (G, I, J, R) K ↔ G.2.2 a = (0, 2) ∧ tm_A d 23 49 ls (tm_rf (R a 1) :: st) (G, I, J, R) K := tm_getR o23_46
theorem o23_49 : tm_op 23 49 = some (.iconst 0, (0, 0, 0, 0)) := rfl
theorem r23_49 (d : Nat) (ls : tm_Lo) (st : List Value) (h : tm_H) (K : Option Value → tm_H → Prop) : tm_A d 23 49 ls st h K ↔ tm_A d 23 50 ls (.int (0 : Int32) :: st) h K := tm_ic o23_49 (by decide)
theorem o23_50 : tm_op 23 50 = some (.lconst 0, (0, 0, 0, 0)) := rfl
theorem r23_50 (d : Nat) (ls : tm_Lo) (st : List Value) (h : tm_H) (K : Option Value → tm_H → Prop) : tm_A d 23 50 ls st h K ↔ tm_A d 23 51 ls (.long (0 : Int64) :: st) h K := tm_s o23_50 rfl rfl rfl
theorem o23_51 : tm_op 23 51 = some (.lastore, (0, 0, 0, 0)) := rfl
theorem r23_51 (d : Nat) (u : Int64) (v : Int32) (a : Nat) (ls : tm_Lo) (st : List Value) (G : tm_G) (I : Nat → Nat → Int32) (J : Nat → Nat → Int64) (R : Nat → Nat → Option Nat) (K : Option Value → tm_H → Prop) : tm_A d 23 51 ls (.long u :: .int v :: .ref a :: st) (G, I, J, R) K ↔ (3 ≤ a ∧ (G.2.2 a).1 = 2 ∧ tm_in v (G.2.2 a).2) ∧ tm_A d 23 52 ls st (G, I, up2 J a (tm_ix v) u, R) K := tm_last o23_51
theorem o23_52 : tm_op 23 52 = some (.iconst 1, (0, 0, 0, 0)) := rfl
theorem r23_52 (d : Nat) (ls : tm_Lo) (st : List Value) (h : tm_H) (K : Option Value → tm_H → Prop) : tm_A d 23 52 ls st h K ↔ tm_A d 23 53 ls (.int (1 : Int32) :: st) h K := tm_ic o23_52 (by decide)
theorem o23_53 : tm_op 23 53 = some (.istore 4, (0, 0, 0, 0)) := rfl
theorem r23_53 (d : Nat) (v : Int32) (l0 l1 l2 l3 l4 : Option Value) (st : List Value) (h : tm_H) (K : Option Value → tm_H → Prop) : tm_A d 23 53 [l0, l1, l2, l3, l4] (.int v :: st) h K ↔ tm_A d 23 55 [l0, l1, l2, l3, some (.int v)] st h K := tm_s o23_53 rfl rfl rfl
theorem o23_55 : tm_op 23 55 = some (.iload 4, (0, 0, 0, 0)) := rfl
theorem r23_55 (d : Nat) (v : Int32) (l0 l1 l2 l3 : Option Value) (st : List Value) (h : tm_H) (K : Option Value → tm_H → Prop) : tm_A d 23 55 [l0, l1, l2, l3, some (.int v)] st h K ↔ tm_A d 23 57 [l0, l1, l2, l3, some (.int v)] (.int v :: st) h K := tm_s o23_55 rfl rfl rfl
theorem o23_57 : tm_op 23 57 = some (.iconst 1, (0, 0, 0, 0)) := rfl
theorem r23_57 (d : Nat) (ls : tm_Lo) (st : List Value) (h : tm_H) (K : Option Value → tm_H → Prop) : tm_A d 23 57 ls st h K ↔ tm_A d 23 58 ls (.int (1 : Int32) :: st) h K := tm_ic o23_57 (by decide)
theorem o23_58 : tm_op 23 58 = some (.aload_n 0, (0, 0, 0, 0)) := rfl
theorem r23_58 (d : Nat) (v : Nat) (l1 l2 l3 l4 : Option Value) (st : List Value) (h : tm_H) (K : Option Value → tm_H → Prop) : tm_A d 23 58 [some (.ref v), l1, l2, l3, l4] st h K ↔ tm_A d 23 59 [some (.ref v), l1, l2, l3, l4] (.ref v :: st) h K := tm_s o23_58 rfl rfl rfl
theorem o23_59 : tm_op 23 59 = some (.getfield 29, (0, 2, 5, 0)) := rfl
theorem r23_59 (d : Nat) (a : Nat) (ls : tm_Lo) (st : List Value) (G : tm_G) (I : Nat → Nat → Int32) (J : Nat → Nat → Int64) (R : Nat → Nat → Option Nat) (K : Option Value → tm_H → Prop) : tm_A d 23 59 ls (.ref a :: st) (G, I, J, R) K ↔ G.2.2 a = (0, 2) ∧ tm_A d 23 62 ls (.int (I a 5) :: st) (G, I, J, R) K := tm_getI o23_59
theorem o23_62 : tm_op 23 62 = some (.ishl, (0, 0, 0, 0)) := rfl
theorem r23_62 (d : Nat) (u v : Int32) (ls : tm_Lo) (st : List Value) (h : tm_H) (K : Option Value → tm_H → Prop) : tm_A d 23 62 ls (.int u :: .int v :: st) h K ↔ tm_A d 23 63 ls (.int (v <<< (u &&& 31)) :: st) h K := tm_s o23_62 rfl rfl rfl
theorem o23_63 : tm_op 23 63 = some (.if_icmp .ge 22, (0, 0, 0, 0)) := rfl
theorem r23_63 (d : Nat) (y x : Int32) (ls : tm_Lo) (st : List Value) (h : tm_H) (K : Option Value → tm_H → Prop) : tm_A d 23 63 ls (.int y :: .int x :: st) h K ↔ if y ≤ x then tm_A d 23 85 ls st h K else tm_A d 23 66 ls st h K := tm_b o23_63 rfl rfl rfl rfl
theorem o23_66 : tm_op 23 66 = some (.aload_n 0, (0, 0, 0, 0)) := rfl
theorem r23_66 (d : Nat) (v : Nat) (l1 l2 l3 l4 : Option Value) (st : List Value) (h : tm_H) (K : Option Value → tm_H → Prop) : tm_A d 23 66 [some (.ref v), l1, l2, l3, l4] st h K ↔ tm_A d 23 67 [some (.ref v), l1, l2, l3, l4] (.ref v :: st) h K := tm_s o23_66 rfl rfl rfl
theorem o23_67 : tm_op 23 67 = some (.getfield 15, (2, 2, 1, 0)) := rfl
theorem r23_67 (d : Nat) (a : Nat) (ls : tm_Lo) (st : List Value) (G : tm_G) (I : Nat → Nat → Int32) (J : Nat → Nat → Int64) (R : Nat → Nat → Option Nat) (K : Option Value → tm_H → Prop) : tm_A d 23 67 ls (.ref a :: st) (G, I, J, R) K ↔ G.2.2 a = (0, 2) ∧ tm_A d 23 70 ls (tm_rf (R a 1) :: st) (G, I, J, R) K := tm_getR o23_67
theorem o23_70 : tm_op 23 70 = some (.iload 4, (0, 0, 0, 0)) := rfl
theorem r23_70 (d : Nat) (v : Int32) (l0 l1 l2 l3 : Option Value) (st : List Value) (h : tm_H) (K : Option Value → tm_H → Prop) : tm_A d 23 70 [l0, l1, l2, l3, some (.int v)] st h K ↔ tm_A d 23 72 [l0, l1, l2, l3, some (.int v)] (.int v :: st) h K := tm_s o23_70 rfl rfl rfl
theorem o23_72 : tm_op 23 72 = some (.aload_n 0, (0, 0, 0, 0)) := rfl
theorem r23_72 (d : Nat) (v : Nat) (l1 l2 l3 l4 : Option Value) (st : List Value) (h : tm_H) (K : Option Value → tm_H → Prop) : tm_A d 23 72 [some (.ref v), l1, l2, l3, l4] st h K ↔ tm_A d 23 73 [some (.ref v), l1, l2, l3, l4] (.ref v :: st) h K := tm_s o23_72 rfl rfl rfl
theorem o23_73 : tm_op 23 73 = some (.iload 4, (0, 0, 0, 0)) := rfl
theorem r23_73 (d : Nat) (v : Int32) (l0 l1 l2 l3 : Option Value) (st : List Value) (h : tm_H) (K : Option Value → tm_H → Prop) : tm_A d 23 73 [l0, l1, l2, l3, some (.int v)] st h K ↔ tm_A d 23 75 [l0, l1, l2, l3, some (.int v)] (.int v :: st) h K := tm_s o23_73 rfl rfl rfl
theorem o23_75 : tm_op 23 75 = some (.invokevirtual 50, (2, 28, 2, 2)) := rfl
theorem r23_75 (d : Nat) (v1 : Int32) (a : Nat) (ls : tm_Lo) (st : List Value) (h : tm_H) (K : Option Value → tm_H → Prop) : tm_A (d + 1) 23 75 ls (.int v1 :: .ref a :: st) h K ↔ (h.1.2.2 a = (0, 2) ∧ tm_cs st) ∧ tm_R d 28 [.ref a, .int v1] h (fun r h' => tm_A (d + 1) 23 78 ls (r.toList ++ st) h' K) := tm_callV (as := [.int v1]) o23_75 rfl rfl rfl rfl
theorem o23_78 : tm_op 23 78 = some (.lastore, (0, 0, 0, 0)) := rfl
theorem r23_78 (d : Nat) (u : Int64) (v : Int32) (a : Nat) (ls : tm_Lo) (st : List Value) (G : tm_G) (I : Nat → Nat → Int32) (J : Nat → Nat → Int64) (R : Nat → Nat → Option Nat) (K : Option Value → tm_H → Prop) : tm_A d 23 78 ls (.long u :: .int v :: .ref a :: st) (G, I, J, R) K ↔ (3 ≤ a ∧ (G.2.2 a).1 = 2 ∧ tm_in v (G.2.2 a).2) ∧ tm_A d 23 79 ls st (G, I, up2 J a (tm_ix v) u, R) K := tm_last o23_78
theorem o23_79 : tm_op 23 79 = some (.iinc 4 1, (0, 0, 0, 0)) := rfl
theorem r23_79 (d : Nat) (v : Int32) (l0 l1 l2 l3 : Option Value) (st : List Value) (h : tm_H) (K : Option Value → tm_H → Prop) : tm_A d 23 79 [l0, l1, l2, l3, some (.int v)] st h K ↔ tm_A d 23 82 [l0, l1, l2, l3, some (.int (v + (1 : Int32)))] st h K := tm_s o23_79 rfl rfl rfl
theorem o23_82 : tm_op 23 82 = some (.goto (-27), (0, 0, 0, 0)) := rfl
theorem r23_82 (d : Nat) (ls : tm_Lo) (st : List Value) (h : tm_H) (K : Option Value → tm_H → Prop) : tm_A d 23 82 ls st h K ↔ tm_A d 23 55 ls st h K := tm_s o23_82 rfl rfl rfl
theorem o23_85 : tm_op 23 85 = some (.aload_n 0, (0, 0, 0, 0)) := rfl
theorem r23_85 (d : Nat) (v : Nat) (l1 l2 l3 l4 : Option Value) (st : List Value) (h : tm_H) (K : Option Value → tm_H → Prop) : tm_A d 23 85 [some (.ref v), l1, l2, l3, l4] st h K ↔ tm_A d 23 86 [some (.ref v), l1, l2, l3, l4] (.ref v :: st) h K := tm_s o23_85 rfl rfl rfl
theorem o23_86 : tm_op 23 86 = some (.aload_n 0, (0, 0, 0, 0)) := rfl
theorem r23_86 (d : Nat) (v : Nat) (l1 l2 l3 l4 : Option Value) (st : List Value) (h : tm_H) (K : Option Value → tm_H → Prop) : tm_A d 23 86 [some (.ref v), l1, l2, l3, l4] st h K ↔ tm_A d 23 87 [some (.ref v), l1, l2, l3, l4] (.ref v :: st) h K := tm_s o23_86 rfl rfl rfl
theorem o23_87 : tm_op 23 87 = some (.getfield 15, (2, 2, 1, 0)) := rfl
theorem r23_87 (d : Nat) (a : Nat) (ls : tm_Lo) (st : List Value) (G : tm_G) (I : Nat → Nat → Int32) (J : Nat → Nat → Int64) (R : Nat → Nat → Option Nat) (K : Option Value → tm_H → Prop) : tm_A d 23 87 ls (.ref a :: st) (G, I, J, R) K ↔ G.2.2 a = (0, 2) ∧ tm_A d 23 90 ls (tm_rf (R a 1) :: st) (G, I, J, R) K := tm_getR o23_87
theorem o23_90 : tm_op 23 90 = some (.iconst 1, (0, 0, 0, 0)) := rfl
theorem r23_90 (d : Nat) (ls : tm_Lo) (st : List Value) (h : tm_H) (K : Option Value → tm_H → Prop) : tm_A d 23 90 ls st h K ↔ tm_A d 23 91 ls (.int (1 : Int32) :: st) h K := tm_ic o23_90 (by decide)
theorem o23_91 : tm_op 23 91 = some (.aload_n 0, (0, 0, 0, 0)) := rfl
theorem r23_91 (d : Nat) (v : Nat) (l1 l2 l3 l4 : Option Value) (st : List Value) (h : tm_H) (K : Option Value → tm_H → Prop) : tm_A d 23 91 [some (.ref v), l1, l2, l3, l4] st h K ↔ tm_A d 23 92 [some (.ref v), l1, l2, l3, l4] (.ref v :: st) h K := tm_s o23_91 rfl rfl rfl
theorem o23_92 : tm_op 23 92 = some (.getfield 29, (0, 2, 5, 0)) := rfl
theorem r23_92 (d : Nat) (a : Nat) (ls : tm_Lo) (st : List Value) (G : tm_G) (I : Nat → Nat → Int32) (J : Nat → Nat → Int64) (R : Nat → Nat → Option Nat) (K : Option Value → tm_H → Prop) : tm_A d 23 92 ls (.ref a :: st) (G, I, J, R) K ↔ G.2.2 a = (0, 2) ∧ tm_A d 23 95 ls (.int (I a 5) :: st) (G, I, J, R) K := tm_getI o23_92
theorem o23_95 : tm_op 23 95 = some (.ishl, (0, 0, 0, 0)) := rfl
theorem r23_95 (d : Nat) (u v : Int32) (ls : tm_Lo) (st : List Value) (h : tm_H) (K : Option Value → tm_H → Prop) : tm_A d 23 95 ls (.int u :: .int v :: st) h K ↔ tm_A d 23 96 ls (.int (v <<< (u &&& 31)) :: st) h K := tm_s o23_95 rfl rfl rfl
theorem o23_96 : tm_op 23 96 = some (.iconst 1, (0, 0, 0, 0)) := rfl
theorem r23_96 (d : Nat) (ls : tm_Lo) (st : List Value) (h : tm_H) (K : Option Value → tm_H → Prop) : tm_A d 23 96 ls st h K ↔ tm_A d 23 97 ls (.int (1 : Int32) :: st) h K := tm_ic o23_96 (by decide)
theorem o23_97 : tm_op 23 97 = some (.isub, (0, 0, 0, 0)) := rfl
theorem r23_97 (d : Nat) (u v : Int32) (ls : tm_Lo) (st : List Value) (h : tm_H) (K : Option Value → tm_H → Prop) : tm_A d 23 97 ls (.int u :: .int v :: st) h K ↔ tm_A d 23 98 ls (.int (v - u) :: st) h K := tm_s o23_97 rfl rfl rfl
theorem o23_98 : tm_op 23 98 = some (.laload, (0, 0, 0, 0)) := rfl
theorem r23_98 (d : Nat) (v : Int32) (a : Nat) (ls : tm_Lo) (st : List Value) (G : tm_G) (I : Nat → Nat → Int32) (J : Nat → Nat → Int64) (R : Nat → Nat → Option Nat) (K : Option Value → tm_H → Prop) : tm_A d 23 98 ls (.int v :: .ref a :: st) (G, I, J, R) K ↔ ((G.2.2 a).1 = 2 ∧ tm_in v (G.2.2 a).2) ∧ tm_A d 23 99 ls (.long (J a (tm_ix v)) :: st) (G, I, J, R) K := tm_lald o23_98
theorem o23_99 : tm_op 23 99 = some (.putfield 25, (1, 2, 4, 0)) := rfl
theorem r23_99 (d : Nat) (v : Int64) (a : Nat) (ls : tm_Lo) (st : List Value) (G : tm_G) (I : Nat → Nat → Int32) (J : Nat → Nat → Int64) (R : Nat → Nat → Option Nat) (K : Option Value → tm_H → Prop) : tm_A d 23 99 ls (.long v :: .ref a :: st) (G, I, J, R) K ↔ G.2.2 a = (0, 2) ∧ tm_A d 23 102 ls st (G, I, up2 J a 4 v, R) K := tm_putJ o23_99
theorem o23_102 : tm_op 23 102 = some (.iconst 0, (0, 0, 0, 0)) := rfl
theorem r23_102 (d : Nat) (ls : tm_Lo) (st : List Value) (h : tm_H) (K : Option Value → tm_H → Prop) : tm_A d 23 102 ls st h K ↔ tm_A d 23 103 ls (.int (0 : Int32) :: st) h K := tm_ic o23_102 (by decide)
theorem o23_103 : tm_op 23 103 = some (.istore 4, (0, 0, 0, 0)) := rfl
theorem r23_103 (d : Nat) (v : Int32) (l0 l1 l2 l3 l4 : Option Value) (st : List Value) (h : tm_H) (K : Option Value → tm_H → Prop) : tm_A d 23 103 [l0, l1, l2, l3, l4] (.int v :: st) h K ↔ tm_A d 23 105 [l0, l1, l2, l3, some (.int v)] st h K := tm_s o23_103 rfl rfl rfl
theorem o23_105 : tm_op 23 105 = some (.iload 4, (0, 0, 0, 0)) := rfl
theorem r23_105 (d : Nat) (v : Int32) (l0 l1 l2 l3 : Option Value) (st : List Value) (h : tm_H) (K : Option Value → tm_H → Prop) : tm_A d 23 105 [l0, l1, l2, l3, some (.int v)] st h K ↔ tm_A d 23 107 [l0, l1, l2, l3, some (.int v)] (.int v :: st) h K := tm_s o23_105 rfl rfl rfl
theorem o23_107 : tm_op 23 107 = some (.aload_n 0, (0, 0, 0, 0)) := rfl
theorem r23_107 (d : Nat) (v : Nat) (l1 l2 l3 l4 : Option Value) (st : List Value) (h : tm_H) (K : Option Value → tm_H → Prop) : tm_A d 23 107 [some (.ref v), l1, l2, l3, l4] st h K ↔ tm_A d 23 108 [some (.ref v), l1, l2, l3, l4] (.ref v :: st) h K := tm_s o23_107 rfl rfl rfl
theorem o23_108 : tm_op 23 108 = some (.getfield 29, (0, 2, 5, 0)) := rfl
theorem r23_108 (d : Nat) (a : Nat) (ls : tm_Lo) (st : List Value) (G : tm_G) (I : Nat → Nat → Int32) (J : Nat → Nat → Int64) (R : Nat → Nat → Option Nat) (K : Option Value → tm_H → Prop) : tm_A d 23 108 ls (.ref a :: st) (G, I, J, R) K ↔ G.2.2 a = (0, 2) ∧ tm_A d 23 111 ls (.int (I a 5) :: st) (G, I, J, R) K := tm_getI o23_108
theorem o23_111 : tm_op 23 111 = some (.if_icmp .ge 30, (0, 0, 0, 0)) := rfl
theorem r23_111 (d : Nat) (y x : Int32) (ls : tm_Lo) (st : List Value) (h : tm_H) (K : Option Value → tm_H → Prop) : tm_A d 23 111 ls (.int y :: .int x :: st) h K ↔ if y ≤ x then tm_A d 23 141 ls st h K else tm_A d 23 114 ls st h K := tm_b o23_111 rfl rfl rfl rfl
theorem o23_114 : tm_op 23 114 = some (.aload_n 0, (0, 0, 0, 0)) := rfl
theorem r23_114 (d : Nat) (v : Nat) (l1 l2 l3 l4 : Option Value) (st : List Value) (h : tm_H) (K : Option Value → tm_H → Prop) : tm_A d 23 114 [some (.ref v), l1, l2, l3, l4] st h K ↔ tm_A d 23 115 [some (.ref v), l1, l2, l3, l4] (.ref v :: st) h K := tm_s o23_114 rfl rfl rfl
theorem o23_115 : tm_op 23 115 = some (.getfield 22, (2, 2, 3, 0)) := rfl
theorem r23_115 (d : Nat) (a : Nat) (ls : tm_Lo) (st : List Value) (G : tm_G) (I : Nat → Nat → Int32) (J : Nat → Nat → Int64) (R : Nat → Nat → Option Nat) (K : Option Value → tm_H → Prop) : tm_A d 23 115 ls (.ref a :: st) (G, I, J, R) K ↔ G.2.2 a = (0, 2) ∧ tm_A d 23 118 ls (tm_rf (R a 3) :: st) (G, I, J, R) K := tm_getR o23_115
theorem o23_118 : tm_op 23 118 = some (.iload 4, (0, 0, 0, 0)) := rfl
theorem r23_118 (d : Nat) (v : Int32) (l0 l1 l2 l3 : Option Value) (st : List Value) (h : tm_H) (K : Option Value → tm_H → Prop) : tm_A d 23 118 [l0, l1, l2, l3, some (.int v)] st h K ↔ tm_A d 23 120 [l0, l1, l2, l3, some (.int v)] (.int v :: st) h K := tm_s o23_118 rfl rfl rfl
theorem o23_120 : tm_op 23 120 = some (.aload_n 0, (0, 0, 0, 0)) := rfl
theorem r23_120 (d : Nat) (v : Nat) (l1 l2 l3 l4 : Option Value) (st : List Value) (h : tm_H) (K : Option Value → tm_H → Prop) : tm_A d 23 120 [some (.ref v), l1, l2, l3, l4] st h K ↔ tm_A d 23 121 [some (.ref v), l1, l2, l3, l4] (.ref v :: st) h K := tm_s o23_120 rfl rfl rfl
theorem o23_121 : tm_op 23 121 = some (.getfield 25, (1, 2, 4, 0)) := rfl
theorem r23_121 (d : Nat) (a : Nat) (ls : tm_Lo) (st : List Value) (G : tm_G) (I : Nat → Nat → Int32) (J : Nat → Nat → Int64) (R : Nat → Nat → Option Nat) (K : Option Value → tm_H → Prop) : tm_A d 23 121 ls (.ref a :: st) (G, I, J, R) K ↔ G.2.2 a = (0, 2) ∧ tm_A d 23 124 ls (.long (J a 4) :: st) (G, I, J, R) K := tm_getJ o23_121
theorem o23_124 : tm_op 23 124 = some (.iload 4, (0, 0, 0, 0)) := rfl
theorem r23_124 (d : Nat) (v : Int32) (l0 l1 l2 l3 : Option Value) (st : List Value) (h : tm_H) (K : Option Value → tm_H → Prop) : tm_A d 23 124 [l0, l1, l2, l3, some (.int v)] st h K ↔ tm_A d 23 126 [l0, l1, l2, l3, some (.int v)] (.int v :: st) h K := tm_s o23_124 rfl rfl rfl
theorem o23_126 : tm_op 23 126 = some (.invokestatic 54, (1, 24, 1, 0)) := rfl
theorem r23_126 (d : Nat) (v0 : Int32) (ls : tm_Lo) (st : List Value) (h : tm_H) (K : Option Value → tm_H → Prop) : tm_A (d + 1) 23 126 ls (.int v0 :: st) h K ↔ tm_cs st ∧ tm_R d 24 [.int v0] h (fun r h' => tm_A (d + 1) 23 129 ls (r.toList ++ st) h' K) := tm_callS (as := [.int v0]) o23_126 rfl rfl rfl rfl
theorem o23_129 : tm_op 23 129 = some (.lshr, (0, 0, 0, 0)) := rfl
theorem r23_129 (d : Nat) (u : Int32) (v : Int64) (ls : tm_Lo) (st : List Value) (h : tm_H) (K : Option Value → tm_H → Prop) : tm_A d 23 129 ls (.int u :: .long v :: st) h K ↔ tm_A d 23 130 ls (.long (v >>> (u.toInt64 &&& 63)) :: st) h K := tm_s o23_129 rfl rfl rfl
theorem o23_130 : tm_op 23 130 = some (.l2i, (0, 0, 0, 0)) := rfl
theorem r23_130 (d : Nat) (v : Int64) (ls : tm_Lo) (st : List Value) (h : tm_H) (K : Option Value → tm_H → Prop) : tm_A d 23 130 ls (.long v :: st) h K ↔ tm_A d 23 131 ls (.int v.toInt32 :: st) h K := tm_s o23_130 rfl rfl rfl
theorem o23_131 : tm_op 23 131 = some (.bipush 15, (0, 0, 0, 0)) := rfl
theorem r23_131 (d : Nat) (ls : tm_Lo) (st : List Value) (h : tm_H) (K : Option Value → tm_H → Prop) : tm_A d 23 131 ls st h K ↔ tm_A d 23 133 ls (.int (15 : Int32) :: st) h K := tm_bp o23_131 (by decide)
theorem o23_133 : tm_op 23 133 = some (.iand, (0, 0, 0, 0)) := rfl
theorem r23_133 (d : Nat) (u v : Int32) (ls : tm_Lo) (st : List Value) (h : tm_H) (K : Option Value → tm_H → Prop) : tm_A d 23 133 ls (.int u :: .int v :: st) h K ↔ tm_A d 23 134 ls (.int (v &&& u) :: st) h K := tm_s o23_133 rfl rfl rfl
theorem o23_134 : tm_op 23 134 = some (.iastore, (0, 0, 0, 0)) := rfl
theorem r23_134 (d : Nat) (u v : Int32) (a : Nat) (ls : tm_Lo) (st : List Value) (G : tm_G) (I : Nat → Nat → Int32) (J : Nat → Nat → Int64) (R : Nat → Nat → Option Nat) (K : Option Value → tm_H → Prop) : tm_A d 23 134 ls (.int u :: .int v :: .ref a :: st) (G, I, J, R) K ↔ (3 ≤ a ∧ (G.2.2 a).1 = 1 ∧ tm_in v (G.2.2 a).2) ∧ tm_A d 23 135 ls st (G, up2 I a (tm_ix v) u, J, R) K := tm_iast o23_134
theorem o23_135 : tm_op 23 135 = some (.iinc 4 1, (0, 0, 0, 0)) := rfl
theorem r23_135 (d : Nat) (v : Int32) (l0 l1 l2 l3 : Option Value) (st : List Value) (h : tm_H) (K : Option Value → tm_H → Prop) : tm_A d 23 135 [l0, l1, l2, l3, some (.int v)] st h K ↔ tm_A d 23 138 [l0, l1, l2, l3, some (.int (v + (1 : Int32)))] st h K := tm_s o23_135 rfl rfl rfl
theorem o23_138 : tm_op 23 138 = some (.goto (-33), (0, 0, 0, 0)) := rfl
theorem r23_138 (d : Nat) (ls : tm_Lo) (st : List Value) (h : tm_H) (K : Option Value → tm_H → Prop) : tm_A d 23 138 ls st h K ↔ tm_A d 23 105 ls st h K := tm_s o23_138 rfl rfl rfl
theorem o23_141 : tm_op 23 141 = some (.return_, (0, 0, 0, 0)) := rfl
theorem r23_141 (d : Nat) (ls : tm_Lo) (h : tm_H) (K : Option Value → tm_H → Prop) : tm_A d 23 141 ls [] h K ↔ K none h := tm_retv o23_141 rfl
theorem o24_0 : tm_op 24 0 = some (.iconst 4, (0, 0, 0, 0)) := rfl
theorem r24_0 (d : Nat) (ls : tm_Lo) (st : List Value) (h : tm_H) (K : Option Value → tm_H → Prop) : tm_A d 24 0 ls st h K ↔ tm_A d 24 1 ls (.int (4 : Int32) :: st) h K := tm_ic o24_0 (by decide)
theorem o24_1 : tm_op 24 1 = some (.bipush 9, (0, 0, 0, 0)) := rfl
theorem r24_1 (d : Nat) (ls : tm_Lo) (st : List Value) (h : tm_H) (K : Option Value → tm_H → Prop) : tm_A d 24 1 ls st h K ↔ tm_A d 24 3 ls (.int (9 : Int32) :: st) h K := tm_bp o24_1 (by decide)
theorem o24_3 : tm_op 24 3 = some (.iload_n 0, (0, 0, 0, 0)) := rfl
theorem r24_3 (d : Nat) (v : Int32) (st : List Value) (h : tm_H) (K : Option Value → tm_H → Prop) : tm_A d 24 3 [some (.int v)] st h K ↔ tm_A d 24 4 [some (.int v)] (.int v :: st) h K := tm_s o24_3 rfl rfl rfl
theorem o24_4 : tm_op 24 4 = some (.isub, (0, 0, 0, 0)) := rfl
theorem r24_4 (d : Nat) (u v : Int32) (ls : tm_Lo) (st : List Value) (h : tm_H) (K : Option Value → tm_H → Prop) : tm_A d 24 4 ls (.int u :: .int v :: st) h K ↔ tm_A d 24 5 ls (.int (v - u) :: st) h K := tm_s o24_4 rfl rfl rfl
theorem o24_5 : tm_op 24 5 = some (.imul, (0, 0, 0, 0)) := rfl
theorem r24_5 (d : Nat) (u v : Int32) (ls : tm_Lo) (st : List Value) (h : tm_H) (K : Option Value → tm_H → Prop) : tm_A d 24 5 ls (.int u :: .int v :: st) h K ↔ tm_A d 24 6 ls (.int (v * u) :: st) h K := tm_s o24_5 rfl rfl rfl
theorem o24_6 : tm_op 24 6 = some (.ireturn, (0, 0, 0, 0)) := rfl
theorem r24_6 (d : Nat) (v : Int32) (ls : tm_Lo) (h : tm_H) (K : Option Value → tm_H → Prop) : tm_A d 24 6 ls [.int v] h K ↔ K (some (.int v)) h := tm_reti o24_6 rfl
theorem o25_0 : tm_op 25 0 = some (.iconst 1, (0, 0, 0, 0)) := rfl
theorem r25_0 (d : Nat) (ls : tm_Lo) (st : List Value) (h : tm_H) (K : Option Value → tm_H → Prop) : tm_A d 25 0 ls st h K ↔ tm_A d 25 1 ls (.int (1 : Int32) :: st) h K := tm_ic o25_0 (by decide)
theorem o25_1 : tm_op 25 1 = some (.iload_n 1, (0, 0, 0, 0)) := rfl
theorem r25_1 (d : Nat) (v : Int32) (l0 l2 l3 l4 l5 l6 l7 l8 l9 : Option Value) (st : List Value) (h : tm_H) (K : Option Value → tm_H → Prop) : tm_A d 25 1 [l0, some (.int v), l2, l3, l4, l5, l6, l7, l8, l9] st h K ↔ tm_A d 25 2 [l0, some (.int v), l2, l3, l4, l5, l6, l7, l8, l9] (.int v :: st) h K := tm_s o25_1 rfl rfl rfl
theorem o25_2 : tm_op 25 2 = some (.ishl, (0, 0, 0, 0)) := rfl
theorem r25_2 (d : Nat) (u v : Int32) (ls : tm_Lo) (st : List Value) (h : tm_H) (K : Option Value → tm_H → Prop) : tm_A d 25 2 ls (.int u :: .int v :: st) h K ↔ tm_A d 25 3 ls (.int (v <<< (u &&& 31)) :: st) h K := tm_s o25_2 rfl rfl rfl
theorem o25_3 : tm_op 25 3 = some (.istore 4, (0, 0, 0, 0)) := rfl
theorem r25_3 (d : Nat) (v : Int32) (l0 l1 l2 l3 l4 l5 l6 l7 l8 l9 : Option Value) (st : List Value) (h : tm_H) (K : Option Value → tm_H → Prop) : tm_A d 25 3 [l0, l1, l2, l3, l4, l5, l6, l7, l8, l9] (.int v :: st) h K ↔ tm_A d 25 5 [l0, l1, l2, l3, some (.int v), l5, l6, l7, l8, l9] st h K := tm_s o25_3 rfl rfl rfl
theorem o25_5 : tm_op 25 5 = some (.aload_n 0, (0, 0, 0, 0)) := rfl
theorem r25_5 (d : Nat) (v : Nat) (l1 l2 l3 l4 l5 l6 l7 l8 l9 : Option Value) (st : List Value) (h : tm_H) (K : Option Value → tm_H → Prop) : tm_A d 25 5 [some (.ref v), l1, l2, l3, l4, l5, l6, l7, l8, l9] st h K ↔ tm_A d 25 6 [some (.ref v), l1, l2, l3, l4, l5, l6, l7, l8, l9] (.ref v :: st) h K := tm_s o25_5 rfl rfl rfl
theorem o25_6 : tm_op 25 6 = some (.getfield 11, (2, 2, 0, 0)) := rfl
theorem r25_6 (d : Nat) (a : Nat) (ls : tm_Lo) (st : List Value) (G : tm_G) (I : Nat → Nat → Int32) (J : Nat → Nat → Int64) (R : Nat → Nat → Option Nat) (K : Option Value → tm_H → Prop) : tm_A d 25 6 ls (.ref a :: st) (G, I, J, R) K ↔ G.2.2 a = (0, 2) ∧ tm_A d 25 9 ls (tm_rf (R a 0) :: st) (G, I, J, R) K := tm_getR o25_6
theorem o25_9 : tm_op 25 9 = some (.iload 4, (0, 0, 0, 0)) := rfl
theorem r25_9 (d : Nat) (v : Int32) (l0 l1 l2 l3 l5 l6 l7 l8 l9 : Option Value) (st : List Value) (h : tm_H) (K : Option Value → tm_H → Prop) : tm_A d 25 9 [l0, l1, l2, l3, some (.int v), l5, l6, l7, l8, l9] st h K ↔ tm_A d 25 11 [l0, l1, l2, l3, some (.int v), l5, l6, l7, l8, l9] (.int v :: st) h K := tm_s o25_9 rfl rfl rfl
theorem o25_11 : tm_op 25 11 = some (.iload_n 3, (0, 0, 0, 0)) := rfl
theorem r25_11 (d : Nat) (v : Int32) (l0 l1 l2 l4 l5 l6 l7 l8 l9 : Option Value) (st : List Value) (h : tm_H) (K : Option Value → tm_H → Prop) : tm_A d 25 11 [l0, l1, l2, some (.int v), l4, l5, l6, l7, l8, l9] st h K ↔ tm_A d 25 12 [l0, l1, l2, some (.int v), l4, l5, l6, l7, l8, l9] (.int v :: st) h K := tm_s o25_11 rfl rfl rfl
theorem o25_12 : tm_op 25 12 = some (.i2l, (0, 0, 0, 0)) := rfl
theorem r25_12 (d : Nat) (v : Int32) (ls : tm_Lo) (st : List Value) (h : tm_H) (K : Option Value → tm_H → Prop) : tm_A d 25 12 ls (.int v :: st) h K ↔ tm_A d 25 13 ls (.long v.toInt64 :: st) h K := tm_s o25_12 rfl rfl rfl
theorem o25_13 : tm_op 25 13 = some (.bipush 40, (0, 0, 0, 0)) := rfl
theorem r25_13 (d : Nat) (ls : tm_Lo) (st : List Value) (h : tm_H) (K : Option Value → tm_H → Prop) : tm_A d 25 13 ls st h K ↔ tm_A d 25 15 ls (.int (40 : Int32) :: st) h K := tm_bp o25_13 (by decide)
theorem o25_15 : tm_op 25 15 = some (.lshl, (0, 0, 0, 0)) := rfl
theorem r25_15 (d : Nat) (u : Int32) (v : Int64) (ls : tm_Lo) (st : List Value) (h : tm_H) (K : Option Value → tm_H → Prop) : tm_A d 25 15 ls (.int u :: .long v :: st) h K ↔ tm_A d 25 16 ls (.long (v <<< (u.toInt64 &&& 63)) :: st) h K := tm_s o25_15 rfl rfl rfl
theorem o25_16 : tm_op 25 16 = some (.iload_n 1, (0, 0, 0, 0)) := rfl
theorem r25_16 (d : Nat) (v : Int32) (l0 l2 l3 l4 l5 l6 l7 l8 l9 : Option Value) (st : List Value) (h : tm_H) (K : Option Value → tm_H → Prop) : tm_A d 25 16 [l0, some (.int v), l2, l3, l4, l5, l6, l7, l8, l9] st h K ↔ tm_A d 25 17 [l0, some (.int v), l2, l3, l4, l5, l6, l7, l8, l9] (.int v :: st) h K := tm_s o25_16 rfl rfl rfl
theorem o25_17 : tm_op 25 17 = some (.i2l, (0, 0, 0, 0)) := rfl
theorem r25_17 (d : Nat) (v : Int32) (ls : tm_Lo) (st : List Value) (h : tm_H) (K : Option Value → tm_H → Prop) : tm_A d 25 17 ls (.int v :: st) h K ↔ tm_A d 25 18 ls (.long v.toInt64 :: st) h K := tm_s o25_17 rfl rfl rfl
theorem o25_18 : tm_op 25 18 = some (.iload_n 1, (0, 0, 0, 0)) := rfl
theorem r25_18 (d : Nat) (v : Int32) (l0 l2 l3 l4 l5 l6 l7 l8 l9 : Option Value) (st : List Value) (h : tm_H) (K : Option Value → tm_H → Prop) : tm_A d 25 18 [l0, some (.int v), l2, l3, l4, l5, l6, l7, l8, l9] st h K ↔ tm_A d 25 19 [l0, some (.int v), l2, l3, l4, l5, l6, l7, l8, l9] (.int v :: st) h K := tm_s o25_18 rfl rfl rfl
theorem o25_19 : tm_op 25 19 = some (.invokestatic 54, (1, 24, 1, 0)) := rfl
theorem r25_19 (d : Nat) (v0 : Int32) (ls : tm_Lo) (st : List Value) (h : tm_H) (K : Option Value → tm_H → Prop) : tm_A (d + 1) 25 19 ls (.int v0 :: st) h K ↔ tm_cs st ∧ tm_R d 24 [.int v0] h (fun r h' => tm_A (d + 1) 25 22 ls (r.toList ++ st) h' K) := tm_callS (as := [.int v0]) o25_19 rfl rfl rfl rfl
theorem o25_22 : tm_op 25 22 = some (.lshl, (0, 0, 0, 0)) := rfl
theorem r25_22 (d : Nat) (u : Int32) (v : Int64) (ls : tm_Lo) (st : List Value) (h : tm_H) (K : Option Value → tm_H → Prop) : tm_A d 25 22 ls (.int u :: .long v :: st) h K ↔ tm_A d 25 23 ls (.long (v <<< (u.toInt64 &&& 63)) :: st) h K := tm_s o25_22 rfl rfl rfl
theorem o25_23 : tm_op 25 23 = some (.ladd, (0, 0, 0, 0)) := rfl
theorem r25_23 (d : Nat) (u v : Int64) (ls : tm_Lo) (st : List Value) (h : tm_H) (K : Option Value → tm_H → Prop) : tm_A d 25 23 ls (.long u :: .long v :: st) h K ↔ tm_A d 25 24 ls (.long (v + u) :: st) h K := tm_s o25_23 rfl rfl rfl
theorem o25_24 : tm_op 25 24 = some (.lastore, (0, 0, 0, 0)) := rfl
theorem r25_24 (d : Nat) (u : Int64) (v : Int32) (a : Nat) (ls : tm_Lo) (st : List Value) (G : tm_G) (I : Nat → Nat → Int32) (J : Nat → Nat → Int64) (R : Nat → Nat → Option Nat) (K : Option Value → tm_H → Prop) : tm_A d 25 24 ls (.long u :: .int v :: .ref a :: st) (G, I, J, R) K ↔ (3 ≤ a ∧ (G.2.2 a).1 = 2 ∧ tm_in v (G.2.2 a).2) ∧ tm_A d 25 25 ls st (G, I, up2 J a (tm_ix v) u, R) K := tm_last o25_24
theorem o25_25 : tm_op 25 25 = some (.iconst 1, (0, 0, 0, 0)) := rfl
theorem r25_25 (d : Nat) (ls : tm_Lo) (st : List Value) (h : tm_H) (K : Option Value → tm_H → Prop) : tm_A d 25 25 ls st h K ↔ tm_A d 25 26 ls (.int (1 : Int32) :: st) h K := tm_ic o25_25 (by decide)
theorem o25_26 : tm_op 25 26 = some (.istore 5, (0, 0, 0, 0)) := rfl
theorem r25_26 (d : Nat) (v : Int32) (l0 l1 l2 l3 l4 l5 l6 l7 l8 l9 : Option Value) (st : List Value) (h : tm_H) (K : Option Value → tm_H → Prop) : tm_A d 25 26 [l0, l1, l2, l3, l4, l5, l6, l7, l8, l9] (.int v :: st) h K ↔ tm_A d 25 28 [l0, l1, l2, l3, l4, some (.int v), l6, l7, l8, l9] st h K := tm_s o25_26 rfl rfl rfl
theorem o25_28 : tm_op 25 28 = some (.iload 5, (0, 0, 0, 0)) := rfl
theorem r25_28 (d : Nat) (v : Int32) (l0 l1 l2 l3 l4 l6 l7 l8 l9 : Option Value) (st : List Value) (h : tm_H) (K : Option Value → tm_H → Prop) : tm_A d 25 28 [l0, l1, l2, l3, l4, some (.int v), l6, l7, l8, l9] st h K ↔ tm_A d 25 30 [l0, l1, l2, l3, l4, some (.int v), l6, l7, l8, l9] (.int v :: st) h K := tm_s o25_28 rfl rfl rfl
theorem o25_30 : tm_op 25 30 = some (.iload 4, (0, 0, 0, 0)) := rfl
theorem r25_30 (d : Nat) (v : Int32) (l0 l1 l2 l3 l5 l6 l7 l8 l9 : Option Value) (st : List Value) (h : tm_H) (K : Option Value → tm_H → Prop) : tm_A d 25 30 [l0, l1, l2, l3, some (.int v), l5, l6, l7, l8, l9] st h K ↔ tm_A d 25 32 [l0, l1, l2, l3, some (.int v), l5, l6, l7, l8, l9] (.int v :: st) h K := tm_s o25_30 rfl rfl rfl
theorem o25_32 : tm_op 25 32 = some (.if_icmp .ge 100, (0, 0, 0, 0)) := rfl
theorem r25_32 (d : Nat) (y x : Int32) (ls : tm_Lo) (st : List Value) (h : tm_H) (K : Option Value → tm_H → Prop) : tm_A d 25 32 ls (.int y :: .int x :: st) h K ↔ if y ≤ x then tm_A d 25 132 ls st h K else tm_A d 25 35 ls st h K := tm_b o25_32 rfl rfl rfl rfl
theorem o25_35 : tm_op 25 35 = some (.iload_n 1, (0, 0, 0, 0)) := rfl
theorem r25_35 (d : Nat) (v : Int32) (l0 l2 l3 l4 l5 l6 l7 l8 l9 : Option Value) (st : List Value) (h : tm_H) (K : Option Value → tm_H → Prop) : tm_A d 25 35 [l0, some (.int v), l2, l3, l4, l5, l6, l7, l8, l9] st h K ↔ tm_A d 25 36 [l0, some (.int v), l2, l3, l4, l5, l6, l7, l8, l9] (.int v :: st) h K := tm_s o25_35 rfl rfl rfl
theorem o25_36 : tm_op 25 36 = some (.iload 5, (0, 0, 0, 0)) := rfl
theorem r25_36 (d : Nat) (v : Int32) (l0 l1 l2 l3 l4 l6 l7 l8 l9 : Option Value) (st : List Value) (h : tm_H) (K : Option Value → tm_H → Prop) : tm_A d 25 36 [l0, l1, l2, l3, l4, some (.int v), l6, l7, l8, l9] st h K ↔ tm_A d 25 38 [l0, l1, l2, l3, l4, some (.int v), l6, l7, l8, l9] (.int v :: st) h K := tm_s o25_36 rfl rfl rfl
theorem o25_38 : tm_op 25 38 = some (.aload_n 2, (0, 0, 0, 0)) := rfl
theorem r25_38 (d : Nat) (v : Nat) (l0 l1 l3 l4 l5 l6 l7 l8 l9 : Option Value) (st : List Value) (h : tm_H) (K : Option Value → tm_H → Prop) : tm_A d 25 38 [l0, l1, some (.ref v), l3, l4, l5, l6, l7, l8, l9] st h K ↔ tm_A d 25 39 [l0, l1, some (.ref v), l3, l4, l5, l6, l7, l8, l9] (.ref v :: st) h K := tm_s o25_38 rfl rfl rfl
theorem r25_38n (d : Nat)  (l0 l1 l3 l4 l5 l6 l7 l8 l9 : Option Value) (st : List Value) (h : tm_H) (K : Option Value → tm_H → Prop) : tm_A d 25 38 [l0, l1, some .null, l3, l4, l5, l6, l7, l8, l9] st h K ↔ tm_A d 25 39 [l0, l1, some .null, l3, l4, l5, l6, l7, l8, l9] (.null :: st) h K := tm_s o25_38 rfl rfl rfl
theorem o25_39 : tm_op 25 39 = some (.invokestatic 58, (1, 26, 3, 0)) := rfl
theorem r25_39 (d : Nat) (v0 : Int32) (v1 : Int32) (v2 : Nat) (ls : tm_Lo) (st : List Value) (h : tm_H) (K : Option Value → tm_H → Prop) : tm_A (d + 1) 25 39 ls (.ref v2 :: .int v1 :: .int v0 :: st) h K ↔ tm_cs st ∧ tm_R d 26 [.int v0, .int v1, .ref v2] h (fun r h' => tm_A (d + 1) 25 42 ls (r.toList ++ st) h' K) := tm_callS (as := [.int v0, .int v1, .ref v2]) o25_39 rfl rfl rfl rfl
theorem o25_42 : tm_op 25 42 = some (.istore 6, (0, 0, 0, 0)) := rfl
theorem r25_42 (d : Nat) (v : Int32) (l0 l1 l2 l3 l4 l5 l6 l7 l8 l9 : Option Value) (st : List Value) (h : tm_H) (K : Option Value → tm_H → Prop) : tm_A d 25 42 [l0, l1, l2, l3, l4, l5, l6, l7, l8, l9] (.int v :: st) h K ↔ tm_A d 25 44 [l0, l1, l2, l3, l4, l5, some (.int v), l7, l8, l9] st h K := tm_s o25_42 rfl rfl rfl
theorem o25_44 : tm_op 25 44 = some (.iload 6, (0, 0, 0, 0)) := rfl
theorem r25_44 (d : Nat) (v : Int32) (l0 l1 l2 l3 l4 l5 l7 l8 l9 : Option Value) (st : List Value) (h : tm_H) (K : Option Value → tm_H → Prop) : tm_A d 25 44 [l0, l1, l2, l3, l4, l5, some (.int v), l7, l8, l9] st h K ↔ tm_A d 25 46 [l0, l1, l2, l3, l4, l5, some (.int v), l7, l8, l9] (.int v :: st) h K := tm_s o25_44 rfl rfl rfl
theorem o25_46 : tm_op 25 46 = some (.sipush 1000, (0, 0, 0, 0)) := rfl
theorem r25_46 (d : Nat) (ls : tm_Lo) (st : List Value) (h : tm_H) (K : Option Value → tm_H → Prop) : tm_A d 25 46 ls st h K ↔ tm_A d 25 49 ls (.int (1000 : Int32) :: st) h K := tm_sp o25_46 (by decide)
theorem o25_49 : tm_op 25 49 = some (.if_icmp .eq 17, (0, 0, 0, 0)) := rfl
theorem r25_49 (d : Nat) (y x : Int32) (ls : tm_Lo) (st : List Value) (h : tm_H) (K : Option Value → tm_H → Prop) : tm_A d 25 49 ls (.int y :: .int x :: st) h K ↔ if x = y then tm_A d 25 66 ls st h K else tm_A d 25 52 ls st h K := tm_b o25_49 rfl rfl rfl rfl
theorem o25_52 : tm_op 25 52 = some (.aload_n 0, (0, 0, 0, 0)) := rfl
theorem r25_52 (d : Nat) (v : Nat) (l1 l2 l3 l4 l5 l6 l7 l8 l9 : Option Value) (st : List Value) (h : tm_H) (K : Option Value → tm_H → Prop) : tm_A d 25 52 [some (.ref v), l1, l2, l3, l4, l5, l6, l7, l8, l9] st h K ↔ tm_A d 25 53 [some (.ref v), l1, l2, l3, l4, l5, l6, l7, l8, l9] (.ref v :: st) h K := tm_s o25_52 rfl rfl rfl
theorem o25_53 : tm_op 25 53 = some (.getfield 11, (2, 2, 0, 0)) := rfl
theorem r25_53 (d : Nat) (a : Nat) (ls : tm_Lo) (st : List Value) (G : tm_G) (I : Nat → Nat → Int32) (J : Nat → Nat → Int64) (R : Nat → Nat → Option Nat) (K : Option Value → tm_H → Prop) : tm_A d 25 53 ls (.ref a :: st) (G, I, J, R) K ↔ G.2.2 a = (0, 2) ∧ tm_A d 25 56 ls (tm_rf (R a 0) :: st) (G, I, J, R) K := tm_getR o25_53
theorem o25_56 : tm_op 25 56 = some (.iload 5, (0, 0, 0, 0)) := rfl
theorem r25_56 (d : Nat) (v : Int32) (l0 l1 l2 l3 l4 l6 l7 l8 l9 : Option Value) (st : List Value) (h : tm_H) (K : Option Value → tm_H → Prop) : tm_A d 25 56 [l0, l1, l2, l3, l4, some (.int v), l6, l7, l8, l9] st h K ↔ tm_A d 25 58 [l0, l1, l2, l3, l4, some (.int v), l6, l7, l8, l9] (.int v :: st) h K := tm_s o25_56 rfl rfl rfl
theorem o25_58 : tm_op 25 58 = some (.laload, (0, 0, 0, 0)) := rfl
theorem r25_58 (d : Nat) (v : Int32) (a : Nat) (ls : tm_Lo) (st : List Value) (G : tm_G) (I : Nat → Nat → Int32) (J : Nat → Nat → Int64) (R : Nat → Nat → Option Nat) (K : Option Value → tm_H → Prop) : tm_A d 25 58 ls (.int v :: .ref a :: st) (G, I, J, R) K ↔ ((G.2.2 a).1 = 2 ∧ tm_in v (G.2.2 a).2) ∧ tm_A d 25 59 ls (.long (J a (tm_ix v)) :: st) (G, I, J, R) K := tm_lald o25_58
theorem o25_59 : tm_op 25 59 = some (.ldc2_w 62, (0, 1152921504606846976, 0, 0)) := rfl
theorem r25_59 (d : Nat) (ls : tm_Lo) (st : List Value) (h : tm_H) (K : Option Value → tm_H → Prop) : tm_A d 25 59 ls st h K ↔ tm_A d 25 62 ls (.long (1152921504606846976 : Int64) :: st) h K := tm_s o25_59 rfl rfl rfl
theorem o25_62 : tm_op 25 62 = some (.lcmp, (0, 0, 0, 0)) := rfl
theorem r25_62 (d : Nat) (u v : Int64) (ls : tm_Lo) (st : List Value) (h : tm_H) (K : Option Value → tm_H → Prop) : tm_A d 25 62 ls (.long u :: .long v :: st) h K ↔ tm_A d 25 63 ls (.int (lg_cmp v u) :: st) h K := tm_s o25_62 rfl rfl rfl
theorem o25_63 : tm_op 25 63 = some (.ifCond .ne 7, (0, 0, 0, 0)) := rfl
theorem r25_63 (d : Nat) (x : Int32) (ls : tm_Lo) (st : List Value) (h : tm_H) (K : Option Value → tm_H → Prop) : tm_A d 25 63 ls (.int x :: st) h K ↔ if ¬ x = 0 then tm_A d 25 70 ls st h K else tm_A d 25 66 ls st h K := tm_b o25_63 rfl rfl rfl rfl
theorem o25_66 : tm_op 25 66 = some (.iconst 1, (0, 0, 0, 0)) := rfl
theorem r25_66 (d : Nat) (ls : tm_Lo) (st : List Value) (h : tm_H) (K : Option Value → tm_H → Prop) : tm_A d 25 66 ls st h K ↔ tm_A d 25 67 ls (.int (1 : Int32) :: st) h K := tm_ic o25_66 (by decide)
theorem o25_67 : tm_op 25 67 = some (.goto 4, (0, 0, 0, 0)) := rfl
theorem r25_67 (d : Nat) (ls : tm_Lo) (st : List Value) (h : tm_H) (K : Option Value → tm_H → Prop) : tm_A d 25 67 ls st h K ↔ tm_A d 25 71 ls st h K := tm_s o25_67 rfl rfl rfl
theorem o25_70 : tm_op 25 70 = some (.iconst 0, (0, 0, 0, 0)) := rfl
theorem r25_70 (d : Nat) (ls : tm_Lo) (st : List Value) (h : tm_H) (K : Option Value → tm_H → Prop) : tm_A d 25 70 ls st h K ↔ tm_A d 25 71 ls (.int (0 : Int32) :: st) h K := tm_ic o25_70 (by decide)
theorem o25_71 : tm_op 25 71 = some (.istore 7, (0, 0, 0, 0)) := rfl
theorem r25_71 (d : Nat) (v : Int32) (l0 l1 l2 l3 l4 l5 l6 l7 l8 l9 : Option Value) (st : List Value) (h : tm_H) (K : Option Value → tm_H → Prop) : tm_A d 25 71 [l0, l1, l2, l3, l4, l5, l6, l7, l8, l9] (.int v :: st) h K ↔ tm_A d 25 73 [l0, l1, l2, l3, l4, l5, l6, some (.int v), l8, l9] st h K := tm_s o25_71 rfl rfl rfl
theorem o25_73 : tm_op 25 73 = some (.aload_n 0, (0, 0, 0, 0)) := rfl
theorem r25_73 (d : Nat) (v : Nat) (l1 l2 l3 l4 l5 l6 l7 l8 l9 : Option Value) (st : List Value) (h : tm_H) (K : Option Value → tm_H → Prop) : tm_A d 25 73 [some (.ref v), l1, l2, l3, l4, l5, l6, l7, l8, l9] st h K ↔ tm_A d 25 74 [some (.ref v), l1, l2, l3, l4, l5, l6, l7, l8, l9] (.ref v :: st) h K := tm_s o25_73 rfl rfl rfl
theorem o25_74 : tm_op 25 74 = some (.getfield 18, (2, 2, 2, 0)) := rfl
theorem r25_74 (d : Nat) (a : Nat) (ls : tm_Lo) (st : List Value) (G : tm_G) (I : Nat → Nat → Int32) (J : Nat → Nat → Int64) (R : Nat → Nat → Option Nat) (K : Option Value → tm_H → Prop) : tm_A d 25 74 ls (.ref a :: st) (G, I, J, R) K ↔ G.2.2 a = (0, 2) ∧ tm_A d 25 77 ls (tm_rf (R a 2) :: st) (G, I, J, R) K := tm_getR o25_74
theorem o25_77 : tm_op 25 77 = some (.iload 5, (0, 0, 0, 0)) := rfl
theorem r25_77 (d : Nat) (v : Int32) (l0 l1 l2 l3 l4 l6 l7 l8 l9 : Option Value) (st : List Value) (h : tm_H) (K : Option Value → tm_H → Prop) : tm_A d 25 77 [l0, l1, l2, l3, l4, some (.int v), l6, l7, l8, l9] st h K ↔ tm_A d 25 79 [l0, l1, l2, l3, l4, some (.int v), l6, l7, l8, l9] (.int v :: st) h K := tm_s o25_77 rfl rfl rfl
theorem o25_79 : tm_op 25 79 = some (.iaload, (0, 0, 0, 0)) := rfl
theorem r25_79 (d : Nat) (v : Int32) (a : Nat) (ls : tm_Lo) (st : List Value) (G : tm_G) (I : Nat → Nat → Int32) (J : Nat → Nat → Int64) (R : Nat → Nat → Option Nat) (K : Option Value → tm_H → Prop) : tm_A d 25 79 ls (.int v :: .ref a :: st) (G, I, J, R) K ↔ ((G.2.2 a).1 = 1 ∧ tm_in v (G.2.2 a).2) ∧ tm_A d 25 80 ls (.int (I a (tm_ix v)) :: st) (G, I, J, R) K := tm_iald o25_79
theorem o25_80 : tm_op 25 80 = some (.i2l, (0, 0, 0, 0)) := rfl
theorem r25_80 (d : Nat) (v : Int32) (ls : tm_Lo) (st : List Value) (h : tm_H) (K : Option Value → tm_H → Prop) : tm_A d 25 80 ls (.int v :: st) h K ↔ tm_A d 25 81 ls (.long v.toInt64 :: st) h K := tm_s o25_80 rfl rfl rfl
theorem o25_81 : tm_op 25 81 = some (.iload_n 1, (0, 0, 0, 0)) := rfl
theorem r25_81 (d : Nat) (v : Int32) (l0 l2 l3 l4 l5 l6 l7 l8 l9 : Option Value) (st : List Value) (h : tm_H) (K : Option Value → tm_H → Prop) : tm_A d 25 81 [l0, some (.int v), l2, l3, l4, l5, l6, l7, l8, l9] st h K ↔ tm_A d 25 82 [l0, some (.int v), l2, l3, l4, l5, l6, l7, l8, l9] (.int v :: st) h K := tm_s o25_81 rfl rfl rfl
theorem o25_82 : tm_op 25 82 = some (.invokestatic 54, (1, 24, 1, 0)) := rfl
theorem r25_82 (d : Nat) (v0 : Int32) (ls : tm_Lo) (st : List Value) (h : tm_H) (K : Option Value → tm_H → Prop) : tm_A (d + 1) 25 82 ls (.int v0 :: st) h K ↔ tm_cs st ∧ tm_R d 24 [.int v0] h (fun r h' => tm_A (d + 1) 25 85 ls (r.toList ++ st) h' K) := tm_callS (as := [.int v0]) o25_82 rfl rfl rfl rfl
theorem o25_85 : tm_op 25 85 = some (.lshl, (0, 0, 0, 0)) := rfl
theorem r25_85 (d : Nat) (u : Int32) (v : Int64) (ls : tm_Lo) (st : List Value) (h : tm_H) (K : Option Value → tm_H → Prop) : tm_A d 25 85 ls (.int u :: .long v :: st) h K ↔ tm_A d 25 86 ls (.long (v <<< (u.toInt64 &&& 63)) :: st) h K := tm_s o25_85 rfl rfl rfl
theorem o25_86 : tm_op 25 86 = some (.lstore 8, (0, 0, 0, 0)) := rfl
theorem r25_86 (d : Nat) (v : Int64) (l0 l1 l2 l3 l4 l5 l6 l7 l8 l9 : Option Value) (st : List Value) (h : tm_H) (K : Option Value → tm_H → Prop) : tm_A d 25 86 [l0, l1, l2, l3, l4, l5, l6, l7, l8, l9] (.long v :: st) h K ↔ tm_A d 25 88 [l0, l1, l2, l3, l4, l5, l6, l7, some (.long v), none] st h K := tm_s o25_86 rfl rfl rfl
theorem o25_88 : tm_op 25 88 = some (.aload_n 0, (0, 0, 0, 0)) := rfl
theorem r25_88 (d : Nat) (v : Nat) (l1 l2 l3 l4 l5 l6 l7 l8 l9 : Option Value) (st : List Value) (h : tm_H) (K : Option Value → tm_H → Prop) : tm_A d 25 88 [some (.ref v), l1, l2, l3, l4, l5, l6, l7, l8, l9] st h K ↔ tm_A d 25 89 [some (.ref v), l1, l2, l3, l4, l5, l6, l7, l8, l9] (.ref v :: st) h K := tm_s o25_88 rfl rfl rfl
theorem o25_89 : tm_op 25 89 = some (.getfield 11, (2, 2, 0, 0)) := rfl
theorem r25_89 (d : Nat) (a : Nat) (ls : tm_Lo) (st : List Value) (G : tm_G) (I : Nat → Nat → Int32) (J : Nat → Nat → Int64) (R : Nat → Nat → Option Nat) (K : Option Value → tm_H → Prop) : tm_A d 25 89 ls (.ref a :: st) (G, I, J, R) K ↔ G.2.2 a = (0, 2) ∧ tm_A d 25 92 ls (tm_rf (R a 0) :: st) (G, I, J, R) K := tm_getR o25_89
theorem o25_92 : tm_op 25 92 = some (.iload 4, (0, 0, 0, 0)) := rfl
theorem r25_92 (d : Nat) (v : Int32) (l0 l1 l2 l3 l5 l6 l7 l8 l9 : Option Value) (st : List Value) (h : tm_H) (K : Option Value → tm_H → Prop) : tm_A d 25 92 [l0, l1, l2, l3, some (.int v), l5, l6, l7, l8, l9] st h K ↔ tm_A d 25 94 [l0, l1, l2, l3, some (.int v), l5, l6, l7, l8, l9] (.int v :: st) h K := tm_s o25_92 rfl rfl rfl
theorem o25_94 : tm_op 25 94 = some (.iload 5, (0, 0, 0, 0)) := rfl
theorem r25_94 (d : Nat) (v : Int32) (l0 l1 l2 l3 l4 l6 l7 l8 l9 : Option Value) (st : List Value) (h : tm_H) (K : Option Value → tm_H → Prop) : tm_A d 25 94 [l0, l1, l2, l3, l4, some (.int v), l6, l7, l8, l9] st h K ↔ tm_A d 25 96 [l0, l1, l2, l3, l4, some (.int v), l6, l7, l8, l9] (.int v :: st) h K := tm_s o25_94 rfl rfl rfl
theorem o25_96 : tm_op 25 96 = some (.ior, (0, 0, 0, 0)) := rfl
theorem r25_96 (d : Nat) (u v : Int32) (ls : tm_Lo) (st : List Value) (h : tm_H) (K : Option Value → tm_H → Prop) : tm_A d 25 96 ls (.int u :: .int v :: st) h K ↔ tm_A d 25 97 ls (.int (v ||| u) :: st) h K := tm_s o25_96 rfl rfl rfl
theorem o25_97 : tm_op 25 97 = some (.iload 7, (0, 0, 0, 0)) := rfl
theorem r25_97 (d : Nat) (v : Int32) (l0 l1 l2 l3 l4 l5 l6 l8 l9 : Option Value) (st : List Value) (h : tm_H) (K : Option Value → tm_H → Prop) : tm_A d 25 97 [l0, l1, l2, l3, l4, l5, l6, some (.int v), l8, l9] st h K ↔ tm_A d 25 99 [l0, l1, l2, l3, l4, l5, l6, some (.int v), l8, l9] (.int v :: st) h K := tm_s o25_97 rfl rfl rfl
theorem o25_99 : tm_op 25 99 = some (.ifCond .eq 9, (0, 0, 0, 0)) := rfl
theorem r25_99 (d : Nat) (x : Int32) (ls : tm_Lo) (st : List Value) (h : tm_H) (K : Option Value → tm_H → Prop) : tm_A d 25 99 ls (.int x :: st) h K ↔ if x = 0 then tm_A d 25 108 ls st h K else tm_A d 25 102 ls st h K := tm_b o25_99 rfl rfl rfl rfl
theorem o25_102 : tm_op 25 102 = some (.ldc2_w 62, (0, 1152921504606846976, 0, 0)) := rfl
theorem r25_102 (d : Nat) (ls : tm_Lo) (st : List Value) (h : tm_H) (K : Option Value → tm_H → Prop) : tm_A d 25 102 ls st h K ↔ tm_A d 25 105 ls (.long (1152921504606846976 : Int64) :: st) h K := tm_s o25_102 rfl rfl rfl
theorem o25_105 : tm_op 25 105 = some (.goto 20, (0, 0, 0, 0)) := rfl
theorem r25_105 (d : Nat) (ls : tm_Lo) (st : List Value) (h : tm_H) (K : Option Value → tm_H → Prop) : tm_A d 25 105 ls st h K ↔ tm_A d 25 125 ls st h K := tm_s o25_105 rfl rfl rfl
theorem o25_108 : tm_op 25 108 = some (.aload_n 0, (0, 0, 0, 0)) := rfl
theorem r25_108 (d : Nat) (v : Nat) (l1 l2 l3 l4 l5 l6 l7 l8 l9 : Option Value) (st : List Value) (h : tm_H) (K : Option Value → tm_H → Prop) : tm_A d 25 108 [some (.ref v), l1, l2, l3, l4, l5, l6, l7, l8, l9] st h K ↔ tm_A d 25 109 [some (.ref v), l1, l2, l3, l4, l5, l6, l7, l8, l9] (.ref v :: st) h K := tm_s o25_108 rfl rfl rfl
theorem o25_109 : tm_op 25 109 = some (.getfield 11, (2, 2, 0, 0)) := rfl
theorem r25_109 (d : Nat) (a : Nat) (ls : tm_Lo) (st : List Value) (G : tm_G) (I : Nat → Nat → Int32) (J : Nat → Nat → Int64) (R : Nat → Nat → Option Nat) (K : Option Value → tm_H → Prop) : tm_A d 25 109 ls (.ref a :: st) (G, I, J, R) K ↔ G.2.2 a = (0, 2) ∧ tm_A d 25 112 ls (tm_rf (R a 0) :: st) (G, I, J, R) K := tm_getR o25_109
theorem o25_112 : tm_op 25 112 = some (.iload 5, (0, 0, 0, 0)) := rfl
theorem r25_112 (d : Nat) (v : Int32) (l0 l1 l2 l3 l4 l6 l7 l8 l9 : Option Value) (st : List Value) (h : tm_H) (K : Option Value → tm_H → Prop) : tm_A d 25 112 [l0, l1, l2, l3, l4, some (.int v), l6, l7, l8, l9] st h K ↔ tm_A d 25 114 [l0, l1, l2, l3, l4, some (.int v), l6, l7, l8, l9] (.int v :: st) h K := tm_s o25_112 rfl rfl rfl
theorem o25_114 : tm_op 25 114 = some (.laload, (0, 0, 0, 0)) := rfl
theorem r25_114 (d : Nat) (v : Int32) (a : Nat) (ls : tm_Lo) (st : List Value) (G : tm_G) (I : Nat → Nat → Int32) (J : Nat → Nat → Int64) (R : Nat → Nat → Option Nat) (K : Option Value → tm_H → Prop) : tm_A d 25 114 ls (.int v :: .ref a :: st) (G, I, J, R) K ↔ ((G.2.2 a).1 = 2 ∧ tm_in v (G.2.2 a).2) ∧ tm_A d 25 115 ls (.long (J a (tm_ix v)) :: st) (G, I, J, R) K := tm_lald o25_114
theorem o25_115 : tm_op 25 115 = some (.iload 6, (0, 0, 0, 0)) := rfl
theorem r25_115 (d : Nat) (v : Int32) (l0 l1 l2 l3 l4 l5 l7 l8 l9 : Option Value) (st : List Value) (h : tm_H) (K : Option Value → tm_H → Prop) : tm_A d 25 115 [l0, l1, l2, l3, l4, l5, some (.int v), l7, l8, l9] st h K ↔ tm_A d 25 117 [l0, l1, l2, l3, l4, l5, some (.int v), l7, l8, l9] (.int v :: st) h K := tm_s o25_115 rfl rfl rfl
theorem o25_117 : tm_op 25 117 = some (.i2l, (0, 0, 0, 0)) := rfl
theorem r25_117 (d : Nat) (v : Int32) (ls : tm_Lo) (st : List Value) (h : tm_H) (K : Option Value → tm_H → Prop) : tm_A d 25 117 ls (.int v :: st) h K ↔ tm_A d 25 118 ls (.long v.toInt64 :: st) h K := tm_s o25_117 rfl rfl rfl
theorem o25_118 : tm_op 25 118 = some (.bipush 40, (0, 0, 0, 0)) := rfl
theorem r25_118 (d : Nat) (ls : tm_Lo) (st : List Value) (h : tm_H) (K : Option Value → tm_H → Prop) : tm_A d 25 118 ls st h K ↔ tm_A d 25 120 ls (.int (40 : Int32) :: st) h K := tm_bp o25_118 (by decide)
theorem o25_120 : tm_op 25 120 = some (.lshl, (0, 0, 0, 0)) := rfl
theorem r25_120 (d : Nat) (u : Int32) (v : Int64) (ls : tm_Lo) (st : List Value) (h : tm_H) (K : Option Value → tm_H → Prop) : tm_A d 25 120 ls (.int u :: .long v :: st) h K ↔ tm_A d 25 121 ls (.long (v <<< (u.toInt64 &&& 63)) :: st) h K := tm_s o25_120 rfl rfl rfl
theorem o25_121 : tm_op 25 121 = some (.ladd, (0, 0, 0, 0)) := rfl
theorem r25_121 (d : Nat) (u v : Int64) (ls : tm_Lo) (st : List Value) (h : tm_H) (K : Option Value → tm_H → Prop) : tm_A d 25 121 ls (.long u :: .long v :: st) h K ↔ tm_A d 25 122 ls (.long (v + u) :: st) h K := tm_s o25_121 rfl rfl rfl
theorem o25_122 : tm_op 25 122 = some (.lload 8, (0, 0, 0, 0)) := rfl
theorem r25_122 (d : Nat) (v : Int64) (l0 l1 l2 l3 l4 l5 l6 l7 l9 : Option Value) (st : List Value) (h : tm_H) (K : Option Value → tm_H → Prop) : tm_A d 25 122 [l0, l1, l2, l3, l4, l5, l6, l7, some (.long v), l9] st h K ↔ tm_A d 25 124 [l0, l1, l2, l3, l4, l5, l6, l7, some (.long v), l9] (.long v :: st) h K := tm_s o25_122 rfl rfl rfl
theorem o25_124 : tm_op 25 124 = some (.ladd, (0, 0, 0, 0)) := rfl
theorem r25_124 (d : Nat) (u v : Int64) (ls : tm_Lo) (st : List Value) (h : tm_H) (K : Option Value → tm_H → Prop) : tm_A d 25 124 ls (.long u :: .long v :: st) h K ↔ tm_A d 25 125 ls (.long (v + u) :: st) h K := tm_s o25_124 rfl rfl rfl
theorem o25_125 : tm_op 25 125 = some (.lastore, (0, 0, 0, 0)) := rfl
theorem r25_125 (d : Nat) (u : Int64) (v : Int32) (a : Nat) (ls : tm_Lo) (st : List Value) (G : tm_G) (I : Nat → Nat → Int32) (J : Nat → Nat → Int64) (R : Nat → Nat → Option Nat) (K : Option Value → tm_H → Prop) : tm_A d 25 125 ls (.long u :: .int v :: .ref a :: st) (G, I, J, R) K ↔ (3 ≤ a ∧ (G.2.2 a).1 = 2 ∧ tm_in v (G.2.2 a).2) ∧ tm_A d 25 126 ls st (G, I, up2 J a (tm_ix v) u, R) K := tm_last o25_125
theorem o25_126 : tm_op 25 126 = some (.iinc 5 1, (0, 0, 0, 0)) := rfl
theorem r25_126 (d : Nat) (v : Int32) (l0 l1 l2 l3 l4 l6 l7 l8 l9 : Option Value) (st : List Value) (h : tm_H) (K : Option Value → tm_H → Prop) : tm_A d 25 126 [l0, l1, l2, l3, l4, some (.int v), l6, l7, l8, l9] st h K ↔ tm_A d 25 129 [l0, l1, l2, l3, l4, some (.int (v + (1 : Int32))), l6, l7, l8, l9] st h K := tm_s o25_126 rfl rfl rfl
theorem o25_129 : tm_op 25 129 = some (.goto (-101), (0, 0, 0, 0)) := rfl
theorem r25_129 (d : Nat) (ls : tm_Lo) (st : List Value) (h : tm_H) (K : Option Value → tm_H → Prop) : tm_A d 25 129 ls st h K ↔ tm_A d 25 28 ls st h K := tm_s o25_129 rfl rfl rfl
theorem o25_132 : tm_op 25 132 = some (.return_, (0, 0, 0, 0)) := rfl
theorem r25_132 (d : Nat) (ls : tm_Lo) (h : tm_H) (K : Option Value → tm_H → Prop) : tm_A d 25 132 ls [] h K ↔ K none h := tm_retv o25_132 rfl
theorem o26_0 : tm_op 26 0 = some (.iconst 0, (0, 0, 0, 0)) := rfl
theorem r26_0 (d : Nat) (ls : tm_Lo) (st : List Value) (h : tm_H) (K : Option Value → tm_H → Prop) : tm_A d 26 0 ls st h K ↔ tm_A d 26 1 ls (.int (0 : Int32) :: st) h K := tm_ic o26_0 (by decide)
theorem o26_1 : tm_op 26 1 = some (.istore_n 3, (0, 0, 0, 0)) := rfl
theorem r26_1 (d : Nat) (v : Int32) (l0 l1 l2 l3 l4 l5 : Option Value) (st : List Value) (h : tm_H) (K : Option Value → tm_H → Prop) : tm_A d 26 1 [l0, l1, l2, l3, l4, l5] (.int v :: st) h K ↔ tm_A d 26 2 [l0, l1, l2, some (.int v), l4, l5] st h K := tm_s o26_1 rfl rfl rfl
theorem o26_2 : tm_op 26 2 = some (.iconst 0, (0, 0, 0, 0)) := rfl
theorem r26_2 (d : Nat) (ls : tm_Lo) (st : List Value) (h : tm_H) (K : Option Value → tm_H → Prop) : tm_A d 26 2 ls st h K ↔ tm_A d 26 3 ls (.int (0 : Int32) :: st) h K := tm_ic o26_2 (by decide)
theorem o26_3 : tm_op 26 3 = some (.istore 4, (0, 0, 0, 0)) := rfl
theorem r26_3 (d : Nat) (v : Int32) (l0 l1 l2 l3 l4 l5 : Option Value) (st : List Value) (h : tm_H) (K : Option Value → tm_H → Prop) : tm_A d 26 3 [l0, l1, l2, l3, l4, l5] (.int v :: st) h K ↔ tm_A d 26 5 [l0, l1, l2, l3, some (.int v), l5] st h K := tm_s o26_3 rfl rfl rfl
theorem o26_5 : tm_op 26 5 = some (.iload 4, (0, 0, 0, 0)) := rfl
theorem r26_5 (d : Nat) (v : Int32) (l0 l1 l2 l3 l5 : Option Value) (st : List Value) (h : tm_H) (K : Option Value → tm_H → Prop) : tm_A d 26 5 [l0, l1, l2, l3, some (.int v), l5] st h K ↔ tm_A d 26 7 [l0, l1, l2, l3, some (.int v), l5] (.int v :: st) h K := tm_s o26_5 rfl rfl rfl
theorem o26_7 : tm_op 26 7 = some (.iload_n 0, (0, 0, 0, 0)) := rfl
theorem r26_7 (d : Nat) (v : Int32) (l1 l2 l3 l4 l5 : Option Value) (st : List Value) (h : tm_H) (K : Option Value → tm_H → Prop) : tm_A d 26 7 [some (.int v), l1, l2, l3, l4, l5] st h K ↔ tm_A d 26 8 [some (.int v), l1, l2, l3, l4, l5] (.int v :: st) h K := tm_s o26_7 rfl rfl rfl
theorem o26_8 : tm_op 26 8 = some (.if_icmp .ge 49, (0, 0, 0, 0)) := rfl
theorem r26_8 (d : Nat) (y x : Int32) (ls : tm_Lo) (st : List Value) (h : tm_H) (K : Option Value → tm_H → Prop) : tm_A d 26 8 ls (.int y :: .int x :: st) h K ↔ if y ≤ x then tm_A d 26 57 ls st h K else tm_A d 26 11 ls st h K := tm_b o26_8 rfl rfl rfl rfl
theorem o26_11 : tm_op 26 11 = some (.iload_n 1, (0, 0, 0, 0)) := rfl
theorem r26_11 (d : Nat) (v : Int32) (l0 l2 l3 l4 l5 : Option Value) (st : List Value) (h : tm_H) (K : Option Value → tm_H → Prop) : tm_A d 26 11 [l0, some (.int v), l2, l3, l4, l5] st h K ↔ tm_A d 26 12 [l0, some (.int v), l2, l3, l4, l5] (.int v :: st) h K := tm_s o26_11 rfl rfl rfl
theorem o26_12 : tm_op 26 12 = some (.iload 4, (0, 0, 0, 0)) := rfl
theorem r26_12 (d : Nat) (v : Int32) (l0 l1 l2 l3 l5 : Option Value) (st : List Value) (h : tm_H) (K : Option Value → tm_H → Prop) : tm_A d 26 12 [l0, l1, l2, l3, some (.int v), l5] st h K ↔ tm_A d 26 14 [l0, l1, l2, l3, some (.int v), l5] (.int v :: st) h K := tm_s o26_12 rfl rfl rfl
theorem o26_14 : tm_op 26 14 = some (.ishr, (0, 0, 0, 0)) := rfl
theorem r26_14 (d : Nat) (u v : Int32) (ls : tm_Lo) (st : List Value) (h : tm_H) (K : Option Value → tm_H → Prop) : tm_A d 26 14 ls (.int u :: .int v :: st) h K ↔ tm_A d 26 15 ls (.int (v >>> (u &&& 31)) :: st) h K := tm_s o26_14 rfl rfl rfl
theorem o26_15 : tm_op 26 15 = some (.iconst 1, (0, 0, 0, 0)) := rfl
theorem r26_15 (d : Nat) (ls : tm_Lo) (st : List Value) (h : tm_H) (K : Option Value → tm_H → Prop) : tm_A d 26 15 ls st h K ↔ tm_A d 26 16 ls (.int (1 : Int32) :: st) h K := tm_ic o26_15 (by decide)
theorem o26_16 : tm_op 26 16 = some (.iand, (0, 0, 0, 0)) := rfl
theorem r26_16 (d : Nat) (u v : Int32) (ls : tm_Lo) (st : List Value) (h : tm_H) (K : Option Value → tm_H → Prop) : tm_A d 26 16 ls (.int u :: .int v :: st) h K ↔ tm_A d 26 17 ls (.int (v &&& u) :: st) h K := tm_s o26_16 rfl rfl rfl
theorem o26_17 : tm_op 26 17 = some (.iconst 1, (0, 0, 0, 0)) := rfl
theorem r26_17 (d : Nat) (ls : tm_Lo) (st : List Value) (h : tm_H) (K : Option Value → tm_H → Prop) : tm_A d 26 17 ls st h K ↔ tm_A d 26 18 ls (.int (1 : Int32) :: st) h K := tm_ic o26_17 (by decide)
theorem o26_18 : tm_op 26 18 = some (.if_icmp .ne 13, (0, 0, 0, 0)) := rfl
theorem r26_18 (d : Nat) (y x : Int32) (ls : tm_Lo) (st : List Value) (h : tm_H) (K : Option Value → tm_H → Prop) : tm_A d 26 18 ls (.int y :: .int x :: st) h K ↔ if ¬ x = y then tm_A d 26 31 ls st h K else tm_A d 26 21 ls st h K := tm_b o26_18 rfl rfl rfl rfl
theorem o26_21 : tm_op 26 21 = some (.aload_n 2, (0, 0, 0, 0)) := rfl
theorem r26_21 (d : Nat) (v : Nat) (l0 l1 l3 l4 l5 : Option Value) (st : List Value) (h : tm_H) (K : Option Value → tm_H → Prop) : tm_A d 26 21 [l0, l1, some (.ref v), l3, l4, l5] st h K ↔ tm_A d 26 22 [l0, l1, some (.ref v), l3, l4, l5] (.ref v :: st) h K := tm_s o26_21 rfl rfl rfl
theorem r26_21n (d : Nat)  (l0 l1 l3 l4 l5 : Option Value) (st : List Value) (h : tm_H) (K : Option Value → tm_H → Prop) : tm_A d 26 21 [l0, l1, some .null, l3, l4, l5] st h K ↔ tm_A d 26 22 [l0, l1, some .null, l3, l4, l5] (.null :: st) h K := tm_s o26_21 rfl rfl rfl
theorem o26_22 : tm_op 26 22 = some (.iload 4, (0, 0, 0, 0)) := rfl
theorem r26_22 (d : Nat) (v : Int32) (l0 l1 l2 l3 l5 : Option Value) (st : List Value) (h : tm_H) (K : Option Value → tm_H → Prop) : tm_A d 26 22 [l0, l1, l2, l3, some (.int v), l5] st h K ↔ tm_A d 26 24 [l0, l1, l2, l3, some (.int v), l5] (.int v :: st) h K := tm_s o26_22 rfl rfl rfl
theorem o26_24 : tm_op 26 24 = some (.iload_n 0, (0, 0, 0, 0)) := rfl
theorem r26_24 (d : Nat) (v : Int32) (l1 l2 l3 l4 l5 : Option Value) (st : List Value) (h : tm_H) (K : Option Value → tm_H → Prop) : tm_A d 26 24 [some (.int v), l1, l2, l3, l4, l5] st h K ↔ tm_A d 26 25 [some (.int v), l1, l2, l3, l4, l5] (.int v :: st) h K := tm_s o26_24 rfl rfl rfl
theorem o26_25 : tm_op 26 25 = some (.invokevirtual 64, (2, 61, 3, 6)) := rfl
theorem r26_25 (d : Nat) (v1 : Int32) (v2 : Int32) (a : Nat) (ls : tm_Lo) (st : List Value) (h : tm_H) (K : Option Value → tm_H → Prop) : tm_A (d + 1) 26 25 ls (.int v2 :: .int v1 :: .ref a :: st) h K ↔ (h.1.2.2 a = (0, 6) ∧ tm_cs st) ∧ tm_R d 61 [.ref a, .int v1, .int v2] h (fun r h' => tm_A (d + 1) 26 28 ls (r.toList ++ st) h' K) := tm_callV (as := [.int v1, .int v2]) o26_25 rfl rfl rfl rfl
theorem o26_28 : tm_op 26 28 = some (.goto 4, (0, 0, 0, 0)) := rfl
theorem r26_28 (d : Nat) (ls : tm_Lo) (st : List Value) (h : tm_H) (K : Option Value → tm_H → Prop) : tm_A d 26 28 ls st h K ↔ tm_A d 26 32 ls st h K := tm_s o26_28 rfl rfl rfl
theorem o26_31 : tm_op 26 31 = some (.iconst 0, (0, 0, 0, 0)) := rfl
theorem r26_31 (d : Nat) (ls : tm_Lo) (st : List Value) (h : tm_H) (K : Option Value → tm_H → Prop) : tm_A d 26 31 ls st h K ↔ tm_A d 26 32 ls (.int (0 : Int32) :: st) h K := tm_ic o26_31 (by decide)
theorem o26_32 : tm_op 26 32 = some (.istore 5, (0, 0, 0, 0)) := rfl
theorem r26_32 (d : Nat) (v : Int32) (l0 l1 l2 l3 l4 l5 : Option Value) (st : List Value) (h : tm_H) (K : Option Value → tm_H → Prop) : tm_A d 26 32 [l0, l1, l2, l3, l4, l5] (.int v :: st) h K ↔ tm_A d 26 34 [l0, l1, l2, l3, l4, some (.int v)] st h K := tm_s o26_32 rfl rfl rfl
theorem o26_34 : tm_op 26 34 = some (.iload 5, (0, 0, 0, 0)) := rfl
theorem r26_34 (d : Nat) (v : Int32) (l0 l1 l2 l3 l4 : Option Value) (st : List Value) (h : tm_H) (K : Option Value → tm_H → Prop) : tm_A d 26 34 [l0, l1, l2, l3, l4, some (.int v)] st h K ↔ tm_A d 26 36 [l0, l1, l2, l3, l4, some (.int v)] (.int v :: st) h K := tm_s o26_34 rfl rfl rfl
theorem o26_36 : tm_op 26 36 = some (.sipush 1000, (0, 0, 0, 0)) := rfl
theorem r26_36 (d : Nat) (ls : tm_Lo) (st : List Value) (h : tm_H) (K : Option Value → tm_H → Prop) : tm_A d 26 36 ls st h K ↔ tm_A d 26 39 ls (.int (1000 : Int32) :: st) h K := tm_sp o26_36 (by decide)
theorem o26_39 : tm_op 26 39 = some (.if_icmp .ne 7, (0, 0, 0, 0)) := rfl
theorem r26_39 (d : Nat) (y x : Int32) (ls : tm_Lo) (st : List Value) (h : tm_H) (K : Option Value → tm_H → Prop) : tm_A d 26 39 ls (.int y :: .int x :: st) h K ↔ if ¬ x = y then tm_A d 26 46 ls st h K else tm_A d 26 42 ls st h K := tm_b o26_39 rfl rfl rfl rfl
theorem o26_42 : tm_op 26 42 = some (.sipush 1000, (0, 0, 0, 0)) := rfl
theorem r26_42 (d : Nat) (ls : tm_Lo) (st : List Value) (h : tm_H) (K : Option Value → tm_H → Prop) : tm_A d 26 42 ls st h K ↔ tm_A d 26 45 ls (.int (1000 : Int32) :: st) h K := tm_sp o26_42 (by decide)
theorem o26_45 : tm_op 26 45 = some (.ireturn, (0, 0, 0, 0)) := rfl
theorem r26_45 (d : Nat) (v : Int32) (ls : tm_Lo) (h : tm_H) (K : Option Value → tm_H → Prop) : tm_A d 26 45 ls [.int v] h K ↔ K (some (.int v)) h := tm_reti o26_45 rfl
theorem o26_46 : tm_op 26 46 = some (.iload_n 3, (0, 0, 0, 0)) := rfl
theorem r26_46 (d : Nat) (v : Int32) (l0 l1 l2 l4 l5 : Option Value) (st : List Value) (h : tm_H) (K : Option Value → tm_H → Prop) : tm_A d 26 46 [l0, l1, l2, some (.int v), l4, l5] st h K ↔ tm_A d 26 47 [l0, l1, l2, some (.int v), l4, l5] (.int v :: st) h K := tm_s o26_46 rfl rfl rfl
theorem o26_47 : tm_op 26 47 = some (.iload 5, (0, 0, 0, 0)) := rfl
theorem r26_47 (d : Nat) (v : Int32) (l0 l1 l2 l3 l4 : Option Value) (st : List Value) (h : tm_H) (K : Option Value → tm_H → Prop) : tm_A d 26 47 [l0, l1, l2, l3, l4, some (.int v)] st h K ↔ tm_A d 26 49 [l0, l1, l2, l3, l4, some (.int v)] (.int v :: st) h K := tm_s o26_47 rfl rfl rfl
theorem o26_49 : tm_op 26 49 = some (.iadd, (0, 0, 0, 0)) := rfl
theorem r26_49 (d : Nat) (u v : Int32) (ls : tm_Lo) (st : List Value) (h : tm_H) (K : Option Value → tm_H → Prop) : tm_A d 26 49 ls (.int u :: .int v :: st) h K ↔ tm_A d 26 50 ls (.int (v + u) :: st) h K := tm_s o26_49 rfl rfl rfl
theorem o26_50 : tm_op 26 50 = some (.istore_n 3, (0, 0, 0, 0)) := rfl
theorem r26_50 (d : Nat) (v : Int32) (l0 l1 l2 l3 l4 l5 : Option Value) (st : List Value) (h : tm_H) (K : Option Value → tm_H → Prop) : tm_A d 26 50 [l0, l1, l2, l3, l4, l5] (.int v :: st) h K ↔ tm_A d 26 51 [l0, l1, l2, some (.int v), l4, l5] st h K := tm_s o26_50 rfl rfl rfl
theorem o26_51 : tm_op 26 51 = some (.iinc 4 1, (0, 0, 0, 0)) := rfl
theorem r26_51 (d : Nat) (v : Int32) (l0 l1 l2 l3 l5 : Option Value) (st : List Value) (h : tm_H) (K : Option Value → tm_H → Prop) : tm_A d 26 51 [l0, l1, l2, l3, some (.int v), l5] st h K ↔ tm_A d 26 54 [l0, l1, l2, l3, some (.int (v + (1 : Int32))), l5] st h K := tm_s o26_51 rfl rfl rfl
theorem o26_54 : tm_op 26 54 = some (.goto (-49), (0, 0, 0, 0)) := rfl
theorem r26_54 (d : Nat) (ls : tm_Lo) (st : List Value) (h : tm_H) (K : Option Value → tm_H → Prop) : tm_A d 26 54 ls st h K ↔ tm_A d 26 5 ls st h K := tm_s o26_54 rfl rfl rfl
theorem o26_57 : tm_op 26 57 = some (.iload_n 3, (0, 0, 0, 0)) := rfl
theorem r26_57 (d : Nat) (v : Int32) (l0 l1 l2 l4 l5 : Option Value) (st : List Value) (h : tm_H) (K : Option Value → tm_H → Prop) : tm_A d 26 57 [l0, l1, l2, some (.int v), l4, l5] st h K ↔ tm_A d 26 58 [l0, l1, l2, some (.int v), l4, l5] (.int v :: st) h K := tm_s o26_57 rfl rfl rfl
theorem o26_58 : tm_op 26 58 = some (.ireturn, (0, 0, 0, 0)) := rfl
theorem r26_58 (d : Nat) (v : Int32) (ls : tm_Lo) (h : tm_H) (K : Option Value → tm_H → Prop) : tm_A d 26 58 ls [.int v] h K ↔ K (some (.int v)) h := tm_reti o26_58 rfl
theorem o27_0 : tm_op 27 0 = some (.iconst 0, (0, 0, 0, 0)) := rfl
theorem r27_0 (d : Nat) (ls : tm_Lo) (st : List Value) (h : tm_H) (K : Option Value → tm_H → Prop) : tm_A d 27 0 ls st h K ↔ tm_A d 27 1 ls (.int (0 : Int32) :: st) h K := tm_ic o27_0 (by decide)
theorem o27_1 : tm_op 27 1 = some (.istore_n 2, (0, 0, 0, 0)) := rfl
theorem r27_1 (d : Nat) (v : Int32) (l0 l1 l2 l3 l4 : Option Value) (st : List Value) (h : tm_H) (K : Option Value → tm_H → Prop) : tm_A d 27 1 [l0, l1, l2, l3, l4] (.int v :: st) h K ↔ tm_A d 27 2 [l0, l1, some (.int v), l3, l4] st h K := tm_s o27_1 rfl rfl rfl
theorem o27_2 : tm_op 27 2 = some (.iload_n 2, (0, 0, 0, 0)) := rfl
theorem r27_2 (d : Nat) (v : Int32) (l0 l1 l3 l4 : Option Value) (st : List Value) (h : tm_H) (K : Option Value → tm_H → Prop) : tm_A d 27 2 [l0, l1, some (.int v), l3, l4] st h K ↔ tm_A d 27 3 [l0, l1, some (.int v), l3, l4] (.int v :: st) h K := tm_s o27_2 rfl rfl rfl
theorem o27_3 : tm_op 27 3 = some (.aload_n 0, (0, 0, 0, 0)) := rfl
theorem r27_3 (d : Nat) (v : Nat) (l1 l2 l3 l4 : Option Value) (st : List Value) (h : tm_H) (K : Option Value → tm_H → Prop) : tm_A d 27 3 [some (.ref v), l1, l2, l3, l4] st h K ↔ tm_A d 27 4 [some (.ref v), l1, l2, l3, l4] (.ref v :: st) h K := tm_s o27_3 rfl rfl rfl
theorem o27_4 : tm_op 27 4 = some (.getfield 29, (0, 2, 5, 0)) := rfl
theorem r27_4 (d : Nat) (a : Nat) (ls : tm_Lo) (st : List Value) (G : tm_G) (I : Nat → Nat → Int32) (J : Nat → Nat → Int64) (R : Nat → Nat → Option Nat) (K : Option Value → tm_H → Prop) : tm_A d 27 4 ls (.ref a :: st) (G, I, J, R) K ↔ G.2.2 a = (0, 2) ∧ tm_A d 27 7 ls (.int (I a 5) :: st) (G, I, J, R) K := tm_getI o27_4
theorem o27_7 : tm_op 27 7 = some (.if_icmp .ge 68, (0, 0, 0, 0)) := rfl
theorem r27_7 (d : Nat) (y x : Int32) (ls : tm_Lo) (st : List Value) (h : tm_H) (K : Option Value → tm_H → Prop) : tm_A d 27 7 ls (.int y :: .int x :: st) h K ↔ if y ≤ x then tm_A d 27 75 ls st h K else tm_A d 27 10 ls st h K := tm_b o27_7 rfl rfl rfl rfl
theorem o27_10 : tm_op 27 10 = some (.aload_n 1, (0, 0, 0, 0)) := rfl
theorem r27_10 (d : Nat) (v : Nat) (l0 l2 l3 l4 : Option Value) (st : List Value) (h : tm_H) (K : Option Value → tm_H → Prop) : tm_A d 27 10 [l0, some (.ref v), l2, l3, l4] st h K ↔ tm_A d 27 11 [l0, some (.ref v), l2, l3, l4] (.ref v :: st) h K := tm_s o27_10 rfl rfl rfl
theorem r27_10n (d : Nat)  (l0 l2 l3 l4 : Option Value) (st : List Value) (h : tm_H) (K : Option Value → tm_H → Prop) : tm_A d 27 10 [l0, some .null, l2, l3, l4] st h K ↔ tm_A d 27 11 [l0, some .null, l2, l3, l4] (.null :: st) h K := tm_s o27_10 rfl rfl rfl
theorem o27_11 : tm_op 27 11 = some (.iload_n 2, (0, 0, 0, 0)) := rfl
theorem r27_11 (d : Nat) (v : Int32) (l0 l1 l3 l4 : Option Value) (st : List Value) (h : tm_H) (K : Option Value → tm_H → Prop) : tm_A d 27 11 [l0, l1, some (.int v), l3, l4] st h K ↔ tm_A d 27 12 [l0, l1, some (.int v), l3, l4] (.int v :: st) h K := tm_s o27_11 rfl rfl rfl
theorem o27_12 : tm_op 27 12 = some (.invokevirtual 69, (2, 62, 2, 6)) := rfl
theorem r27_12 (d : Nat) (v1 : Int32) (a : Nat) (ls : tm_Lo) (st : List Value) (h : tm_H) (K : Option Value → tm_H → Prop) : tm_A (d + 1) 27 12 ls (.int v1 :: .ref a :: st) h K ↔ (h.1.2.2 a = (0, 6) ∧ tm_cs st) ∧ tm_R d 62 [.ref a, .int v1] h (fun r h' => tm_A (d + 1) 27 15 ls (r.toList ++ st) h' K) := tm_callV (as := [.int v1]) o27_12 rfl rfl rfl rfl
theorem o27_15 : tm_op 27 15 = some (.istore_n 3, (0, 0, 0, 0)) := rfl
theorem r27_15 (d : Nat) (v : Int32) (l0 l1 l2 l3 l4 : Option Value) (st : List Value) (h : tm_H) (K : Option Value → tm_H → Prop) : tm_A d 27 15 [l0, l1, l2, l3, l4] (.int v :: st) h K ↔ tm_A d 27 16 [l0, l1, l2, some (.int v), l4] st h K := tm_s o27_15 rfl rfl rfl
theorem o27_16 : tm_op 27 16 = some (.iconst 1, (0, 0, 0, 0)) := rfl
theorem r27_16 (d : Nat) (ls : tm_Lo) (st : List Value) (h : tm_H) (K : Option Value → tm_H → Prop) : tm_A d 27 16 ls st h K ↔ tm_A d 27 17 ls (.int (1 : Int32) :: st) h K := tm_ic o27_16 (by decide)
theorem o27_17 : tm_op 27 17 = some (.istore 4, (0, 0, 0, 0)) := rfl
theorem r27_17 (d : Nat) (v : Int32) (l0 l1 l2 l3 l4 : Option Value) (st : List Value) (h : tm_H) (K : Option Value → tm_H → Prop) : tm_A d 27 17 [l0, l1, l2, l3, l4] (.int v :: st) h K ↔ tm_A d 27 19 [l0, l1, l2, l3, some (.int v)] st h K := tm_s o27_17 rfl rfl rfl
theorem o27_19 : tm_op 27 19 = some (.iload 4, (0, 0, 0, 0)) := rfl
theorem r27_19 (d : Nat) (v : Int32) (l0 l1 l2 l3 : Option Value) (st : List Value) (h : tm_H) (K : Option Value → tm_H → Prop) : tm_A d 27 19 [l0, l1, l2, l3, some (.int v)] st h K ↔ tm_A d 27 21 [l0, l1, l2, l3, some (.int v)] (.int v :: st) h K := tm_s o27_19 rfl rfl rfl
theorem o27_21 : tm_op 27 21 = some (.iconst 1, (0, 0, 0, 0)) := rfl
theorem r27_21 (d : Nat) (ls : tm_Lo) (st : List Value) (h : tm_H) (K : Option Value → tm_H → Prop) : tm_A d 27 21 ls st h K ↔ tm_A d 27 22 ls (.int (1 : Int32) :: st) h K := tm_ic o27_21 (by decide)
theorem o27_22 : tm_op 27 22 = some (.aload_n 0, (0, 0, 0, 0)) := rfl
theorem r27_22 (d : Nat) (v : Nat) (l1 l2 l3 l4 : Option Value) (st : List Value) (h : tm_H) (K : Option Value → tm_H → Prop) : tm_A d 27 22 [some (.ref v), l1, l2, l3, l4] st h K ↔ tm_A d 27 23 [some (.ref v), l1, l2, l3, l4] (.ref v :: st) h K := tm_s o27_22 rfl rfl rfl
theorem o27_23 : tm_op 27 23 = some (.getfield 29, (0, 2, 5, 0)) := rfl
theorem r27_23 (d : Nat) (a : Nat) (ls : tm_Lo) (st : List Value) (G : tm_G) (I : Nat → Nat → Int32) (J : Nat → Nat → Int64) (R : Nat → Nat → Option Nat) (K : Option Value → tm_H → Prop) : tm_A d 27 23 ls (.ref a :: st) (G, I, J, R) K ↔ G.2.2 a = (0, 2) ∧ tm_A d 27 26 ls (.int (I a 5) :: st) (G, I, J, R) K := tm_getI o27_23
theorem o27_26 : tm_op 27 26 = some (.ishl, (0, 0, 0, 0)) := rfl
theorem r27_26 (d : Nat) (u v : Int32) (ls : tm_Lo) (st : List Value) (h : tm_H) (K : Option Value → tm_H → Prop) : tm_A d 27 26 ls (.int u :: .int v :: st) h K ↔ tm_A d 27 27 ls (.int (v <<< (u &&& 31)) :: st) h K := tm_s o27_26 rfl rfl rfl
theorem o27_27 : tm_op 27 27 = some (.if_icmp .ge 42, (0, 0, 0, 0)) := rfl
theorem r27_27 (d : Nat) (y x : Int32) (ls : tm_Lo) (st : List Value) (h : tm_H) (K : Option Value → tm_H → Prop) : tm_A d 27 27 ls (.int y :: .int x :: st) h K ↔ if y ≤ x then tm_A d 27 69 ls st h K else tm_A d 27 30 ls st h K := tm_b o27_27 rfl rfl rfl rfl
theorem o27_30 : tm_op 27 30 = some (.iload_n 3, (0, 0, 0, 0)) := rfl
theorem r27_30 (d : Nat) (v : Int32) (l0 l1 l2 l4 : Option Value) (st : List Value) (h : tm_H) (K : Option Value → tm_H → Prop) : tm_A d 27 30 [l0, l1, l2, some (.int v), l4] st h K ↔ tm_A d 27 31 [l0, l1, l2, some (.int v), l4] (.int v :: st) h K := tm_s o27_30 rfl rfl rfl
theorem o27_31 : tm_op 27 31 = some (.ifCond .eq 38, (0, 0, 0, 0)) := rfl
theorem r27_31 (d : Nat) (x : Int32) (ls : tm_Lo) (st : List Value) (h : tm_H) (K : Option Value → tm_H → Prop) : tm_A d 27 31 ls (.int x :: st) h K ↔ if x = 0 then tm_A d 27 69 ls st h K else tm_A d 27 34 ls st h K := tm_b o27_31 rfl rfl rfl rfl
theorem o27_34 : tm_op 27 34 = some (.iload 4, (0, 0, 0, 0)) := rfl
theorem r27_34 (d : Nat) (v : Int32) (l0 l1 l2 l3 : Option Value) (st : List Value) (h : tm_H) (K : Option Value → tm_H → Prop) : tm_A d 27 34 [l0, l1, l2, l3, some (.int v)] st h K ↔ tm_A d 27 36 [l0, l1, l2, l3, some (.int v)] (.int v :: st) h K := tm_s o27_34 rfl rfl rfl
theorem o27_36 : tm_op 27 36 = some (.iload_n 2, (0, 0, 0, 0)) := rfl
theorem r27_36 (d : Nat) (v : Int32) (l0 l1 l3 l4 : Option Value) (st : List Value) (h : tm_H) (K : Option Value → tm_H → Prop) : tm_A d 27 36 [l0, l1, some (.int v), l3, l4] st h K ↔ tm_A d 27 37 [l0, l1, some (.int v), l3, l4] (.int v :: st) h K := tm_s o27_36 rfl rfl rfl
theorem o27_37 : tm_op 27 37 = some (.ishr, (0, 0, 0, 0)) := rfl
theorem r27_37 (d : Nat) (u v : Int32) (ls : tm_Lo) (st : List Value) (h : tm_H) (K : Option Value → tm_H → Prop) : tm_A d 27 37 ls (.int u :: .int v :: st) h K ↔ tm_A d 27 38 ls (.int (v >>> (u &&& 31)) :: st) h K := tm_s o27_37 rfl rfl rfl
theorem o27_38 : tm_op 27 38 = some (.iconst 1, (0, 0, 0, 0)) := rfl
theorem r27_38 (d : Nat) (ls : tm_Lo) (st : List Value) (h : tm_H) (K : Option Value → tm_H → Prop) : tm_A d 27 38 ls st h K ↔ tm_A d 27 39 ls (.int (1 : Int32) :: st) h K := tm_ic o27_38 (by decide)
theorem o27_39 : tm_op 27 39 = some (.iand, (0, 0, 0, 0)) := rfl
theorem r27_39 (d : Nat) (u v : Int32) (ls : tm_Lo) (st : List Value) (h : tm_H) (K : Option Value → tm_H → Prop) : tm_A d 27 39 ls (.int u :: .int v :: st) h K ↔ tm_A d 27 40 ls (.int (v &&& u) :: st) h K := tm_s o27_39 rfl rfl rfl
theorem o27_40 : tm_op 27 40 = some (.iconst 1, (0, 0, 0, 0)) := rfl
theorem r27_40 (d : Nat) (ls : tm_Lo) (st : List Value) (h : tm_H) (K : Option Value → tm_H → Prop) : tm_A d 27 40 ls st h K ↔ tm_A d 27 41 ls (.int (1 : Int32) :: st) h K := tm_ic o27_40 (by decide)
theorem o27_41 : tm_op 27 41 = some (.if_icmp .ne 22, (0, 0, 0, 0)) := rfl
theorem r27_41 (d : Nat) (y x : Int32) (ls : tm_Lo) (st : List Value) (h : tm_H) (K : Option Value → tm_H → Prop) : tm_A d 27 41 ls (.int y :: .int x :: st) h K ↔ if ¬ x = y then tm_A d 27 63 ls st h K else tm_A d 27 44 ls st h K := tm_b o27_41 rfl rfl rfl rfl
theorem o27_44 : tm_op 27 44 = some (.iload_n 3, (0, 0, 0, 0)) := rfl
theorem r27_44 (d : Nat) (v : Int32) (l0 l1 l2 l4 : Option Value) (st : List Value) (h : tm_H) (K : Option Value → tm_H → Prop) : tm_A d 27 44 [l0, l1, l2, some (.int v), l4] st h K ↔ tm_A d 27 45 [l0, l1, l2, some (.int v), l4] (.int v :: st) h K := tm_s o27_44 rfl rfl rfl
theorem o27_45 : tm_op 27 45 = some (.iload 4, (0, 0, 0, 0)) := rfl
theorem r27_45 (d : Nat) (v : Int32) (l0 l1 l2 l3 : Option Value) (st : List Value) (h : tm_H) (K : Option Value → tm_H → Prop) : tm_A d 27 45 [l0, l1, l2, l3, some (.int v)] st h K ↔ tm_A d 27 47 [l0, l1, l2, l3, some (.int v)] (.int v :: st) h K := tm_s o27_45 rfl rfl rfl
theorem o27_47 : tm_op 27 47 = some (.iconst (-1), (0, 0, 0, 0)) := rfl
theorem r27_47 (d : Nat) (ls : tm_Lo) (st : List Value) (h : tm_H) (K : Option Value → tm_H → Prop) : tm_A d 27 47 ls st h K ↔ tm_A d 27 48 ls (.int (-1 : Int32) :: st) h K := tm_ic o27_47 (by decide)
theorem o27_48 : tm_op 27 48 = some (.ixor, (0, 0, 0, 0)) := rfl
theorem r27_48 (d : Nat) (u v : Int32) (ls : tm_Lo) (st : List Value) (h : tm_H) (K : Option Value → tm_H → Prop) : tm_A d 27 48 ls (.int u :: .int v :: st) h K ↔ tm_A d 27 49 ls (.int (v ^^^ u) :: st) h K := tm_s o27_48 rfl rfl rfl
theorem o27_49 : tm_op 27 49 = some (.iand, (0, 0, 0, 0)) := rfl
theorem r27_49 (d : Nat) (u v : Int32) (ls : tm_Lo) (st : List Value) (h : tm_H) (K : Option Value → tm_H → Prop) : tm_A d 27 49 ls (.int u :: .int v :: st) h K ↔ tm_A d 27 50 ls (.int (v &&& u) :: st) h K := tm_s o27_49 rfl rfl rfl
theorem o27_50 : tm_op 27 50 = some (.ifCond .eq 13, (0, 0, 0, 0)) := rfl
theorem r27_50 (d : Nat) (x : Int32) (ls : tm_Lo) (st : List Value) (h : tm_H) (K : Option Value → tm_H → Prop) : tm_A d 27 50 ls (.int x :: st) h K ↔ if x = 0 then tm_A d 27 63 ls st h K else tm_A d 27 53 ls st h K := tm_b o27_50 rfl rfl rfl rfl
theorem o27_53 : tm_op 27 53 = some (.aload_n 0, (0, 0, 0, 0)) := rfl
theorem r27_53 (d : Nat) (v : Nat) (l1 l2 l3 l4 : Option Value) (st : List Value) (h : tm_H) (K : Option Value → tm_H → Prop) : tm_A d 27 53 [some (.ref v), l1, l2, l3, l4] st h K ↔ tm_A d 27 54 [some (.ref v), l1, l2, l3, l4] (.ref v :: st) h K := tm_s o27_53 rfl rfl rfl
theorem o27_54 : tm_op 27 54 = some (.getfield 11, (2, 2, 0, 0)) := rfl
theorem r27_54 (d : Nat) (a : Nat) (ls : tm_Lo) (st : List Value) (G : tm_G) (I : Nat → Nat → Int32) (J : Nat → Nat → Int64) (R : Nat → Nat → Option Nat) (K : Option Value → tm_H → Prop) : tm_A d 27 54 ls (.ref a :: st) (G, I, J, R) K ↔ G.2.2 a = (0, 2) ∧ tm_A d 27 57 ls (tm_rf (R a 0) :: st) (G, I, J, R) K := tm_getR o27_54
theorem o27_57 : tm_op 27 57 = some (.iload 4, (0, 0, 0, 0)) := rfl
theorem r27_57 (d : Nat) (v : Int32) (l0 l1 l2 l3 : Option Value) (st : List Value) (h : tm_H) (K : Option Value → tm_H → Prop) : tm_A d 27 57 [l0, l1, l2, l3, some (.int v)] st h K ↔ tm_A d 27 59 [l0, l1, l2, l3, some (.int v)] (.int v :: st) h K := tm_s o27_57 rfl rfl rfl
theorem o27_59 : tm_op 27 59 = some (.ldc2_w 62, (0, 1152921504606846976, 0, 0)) := rfl
theorem r27_59 (d : Nat) (ls : tm_Lo) (st : List Value) (h : tm_H) (K : Option Value → tm_H → Prop) : tm_A d 27 59 ls st h K ↔ tm_A d 27 62 ls (.long (1152921504606846976 : Int64) :: st) h K := tm_s o27_59 rfl rfl rfl
theorem o27_62 : tm_op 27 62 = some (.lastore, (0, 0, 0, 0)) := rfl
theorem r27_62 (d : Nat) (u : Int64) (v : Int32) (a : Nat) (ls : tm_Lo) (st : List Value) (G : tm_G) (I : Nat → Nat → Int32) (J : Nat → Nat → Int64) (R : Nat → Nat → Option Nat) (K : Option Value → tm_H → Prop) : tm_A d 27 62 ls (.long u :: .int v :: .ref a :: st) (G, I, J, R) K ↔ (3 ≤ a ∧ (G.2.2 a).1 = 2 ∧ tm_in v (G.2.2 a).2) ∧ tm_A d 27 63 ls st (G, I, up2 J a (tm_ix v) u, R) K := tm_last o27_62
theorem o27_63 : tm_op 27 63 = some (.iinc 4 1, (0, 0, 0, 0)) := rfl
theorem r27_63 (d : Nat) (v : Int32) (l0 l1 l2 l3 : Option Value) (st : List Value) (h : tm_H) (K : Option Value → tm_H → Prop) : tm_A d 27 63 [l0, l1, l2, l3, some (.int v)] st h K ↔ tm_A d 27 66 [l0, l1, l2, l3, some (.int (v + (1 : Int32)))] st h K := tm_s o27_63 rfl rfl rfl
theorem o27_66 : tm_op 27 66 = some (.goto (-47), (0, 0, 0, 0)) := rfl
theorem r27_66 (d : Nat) (ls : tm_Lo) (st : List Value) (h : tm_H) (K : Option Value → tm_H → Prop) : tm_A d 27 66 ls st h K ↔ tm_A d 27 19 ls st h K := tm_s o27_66 rfl rfl rfl
theorem o27_69 : tm_op 27 69 = some (.iinc 2 1, (0, 0, 0, 0)) := rfl
theorem r27_69 (d : Nat) (v : Int32) (l0 l1 l3 l4 : Option Value) (st : List Value) (h : tm_H) (K : Option Value → tm_H → Prop) : tm_A d 27 69 [l0, l1, some (.int v), l3, l4] st h K ↔ tm_A d 27 72 [l0, l1, some (.int (v + (1 : Int32))), l3, l4] st h K := tm_s o27_69 rfl rfl rfl
theorem o27_72 : tm_op 27 72 = some (.goto (-70), (0, 0, 0, 0)) := rfl
theorem r27_72 (d : Nat) (ls : tm_Lo) (st : List Value) (h : tm_H) (K : Option Value → tm_H → Prop) : tm_A d 27 72 ls st h K ↔ tm_A d 27 2 ls st h K := tm_s o27_72 rfl rfl rfl
theorem o27_75 : tm_op 27 75 = some (.return_, (0, 0, 0, 0)) := rfl
theorem r27_75 (d : Nat) (ls : tm_Lo) (h : tm_H) (K : Option Value → tm_H → Prop) : tm_A d 27 75 ls [] h K ↔ K none h := tm_retv o27_75 rfl
theorem o28_0 : tm_op 28 0 = some (.iconst 1, (0, 0, 0, 0)) := rfl
theorem r28_0 (d : Nat) (ls : tm_Lo) (st : List Value) (h : tm_H) (K : Option Value → tm_H → Prop) : tm_A d 28 0 ls st h K ↔ tm_A d 28 1 ls (.int (1 : Int32) :: st) h K := tm_ic o28_0 (by decide)
theorem o28_1 : tm_op 28 1 = some (.aload_n 0, (0, 0, 0, 0)) := rfl
theorem r28_1 (d : Nat) (v : Nat) (l1 l2 l3 l4 l5 l6 l7 l8 l9 l10 l11 : Option Value) (st : List Value) (h : tm_H) (K : Option Value → tm_H → Prop) : tm_A d 28 1 [some (.ref v), l1, l2, l3, l4, l5, l6, l7, l8, l9, l10, l11] st h K ↔ tm_A d 28 2 [some (.ref v), l1, l2, l3, l4, l5, l6, l7, l8, l9, l10, l11] (.ref v :: st) h K := tm_s o28_1 rfl rfl rfl
theorem o28_2 : tm_op 28 2 = some (.getfield 18, (2, 2, 2, 0)) := rfl
theorem r28_2 (d : Nat) (a : Nat) (ls : tm_Lo) (st : List Value) (G : tm_G) (I : Nat → Nat → Int32) (J : Nat → Nat → Int64) (R : Nat → Nat → Option Nat) (K : Option Value → tm_H → Prop) : tm_A d 28 2 ls (.ref a :: st) (G, I, J, R) K ↔ G.2.2 a = (0, 2) ∧ tm_A d 28 5 ls (tm_rf (R a 2) :: st) (G, I, J, R) K := tm_getR o28_2
theorem o28_5 : tm_op 28 5 = some (.iload_n 1, (0, 0, 0, 0)) := rfl
theorem r28_5 (d : Nat) (v : Int32) (l0 l2 l3 l4 l5 l6 l7 l8 l9 l10 l11 : Option Value) (st : List Value) (h : tm_H) (K : Option Value → tm_H → Prop) : tm_A d 28 5 [l0, some (.int v), l2, l3, l4, l5, l6, l7, l8, l9, l10, l11] st h K ↔ tm_A d 28 6 [l0, some (.int v), l2, l3, l4, l5, l6, l7, l8, l9, l10, l11] (.int v :: st) h K := tm_s o28_5 rfl rfl rfl
theorem o28_6 : tm_op 28 6 = some (.iaload, (0, 0, 0, 0)) := rfl
theorem r28_6 (d : Nat) (v : Int32) (a : Nat) (ls : tm_Lo) (st : List Value) (G : tm_G) (I : Nat → Nat → Int32) (J : Nat → Nat → Int64) (R : Nat → Nat → Option Nat) (K : Option Value → tm_H → Prop) : tm_A d 28 6 ls (.int v :: .ref a :: st) (G, I, J, R) K ↔ ((G.2.2 a).1 = 1 ∧ tm_in v (G.2.2 a).2) ∧ tm_A d 28 7 ls (.int (I a (tm_ix v)) :: st) (G, I, J, R) K := tm_iald o28_6
theorem o28_7 : tm_op 28 7 = some (.ishl, (0, 0, 0, 0)) := rfl
theorem r28_7 (d : Nat) (u v : Int32) (ls : tm_Lo) (st : List Value) (h : tm_H) (K : Option Value → tm_H → Prop) : tm_A d 28 7 ls (.int u :: .int v :: st) h K ↔ tm_A d 28 8 ls (.int (v <<< (u &&& 31)) :: st) h K := tm_s o28_7 rfl rfl rfl
theorem o28_8 : tm_op 28 8 = some (.istore_n 2, (0, 0, 0, 0)) := rfl
theorem r28_8 (d : Nat) (v : Int32) (l0 l1 l2 l3 l4 l5 l6 l7 l8 l9 l10 l11 : Option Value) (st : List Value) (h : tm_H) (K : Option Value → tm_H → Prop) : tm_A d 28 8 [l0, l1, l2, l3, l4, l5, l6, l7, l8, l9, l10, l11] (.int v :: st) h K ↔ tm_A d 28 9 [l0, l1, some (.int v), l3, l4, l5, l6, l7, l8, l9, l10, l11] st h K := tm_s o28_8 rfl rfl rfl
theorem o28_9 : tm_op 28 9 = some (.iload_n 1, (0, 0, 0, 0)) := rfl
theorem r28_9 (d : Nat) (v : Int32) (l0 l2 l3 l4 l5 l6 l7 l8 l9 l10 l11 : Option Value) (st : List Value) (h : tm_H) (K : Option Value → tm_H → Prop) : tm_A d 28 9 [l0, some (.int v), l2, l3, l4, l5, l6, l7, l8, l9, l10, l11] st h K ↔ tm_A d 28 10 [l0, some (.int v), l2, l3, l4, l5, l6, l7, l8, l9, l10, l11] (.int v :: st) h K := tm_s o28_9 rfl rfl rfl
theorem o28_10 : tm_op 28 10 = some (.iload_n 2, (0, 0, 0, 0)) := rfl
theorem r28_10 (d : Nat) (v : Int32) (l0 l1 l3 l4 l5 l6 l7 l8 l9 l10 l11 : Option Value) (st : List Value) (h : tm_H) (K : Option Value → tm_H → Prop) : tm_A d 28 10 [l0, l1, some (.int v), l3, l4, l5, l6, l7, l8, l9, l10, l11] st h K ↔ tm_A d 28 11 [l0, l1, some (.int v), l3, l4, l5, l6, l7, l8, l9, l10, l11] (.int v :: st) h K := tm_s o28_10 rfl rfl rfl
theorem o28_11 : tm_op 28 11 = some (.iconst (-1), (0, 0, 0, 0)) := rfl
theorem r28_11 (d : Nat) (ls : tm_Lo) (st : List Value) (h : tm_H) (K : Option Value → tm_H → Prop) : tm_A d 28 11 ls st h K ↔ tm_A d 28 12 ls (.int (-1 : Int32) :: st) h K := tm_ic o28_11 (by decide)
theorem o28_12 : tm_op 28 12 = some (.ixor, (0, 0, 0, 0)) := rfl
theorem r28_12 (d : Nat) (u v : Int32) (ls : tm_Lo) (st : List Value) (h : tm_H) (K : Option Value → tm_H → Prop) : tm_A d 28 12 ls (.int u :: .int v :: st) h K ↔ tm_A d 28 13 ls (.int (v ^^^ u) :: st) h K := tm_s o28_12 rfl rfl rfl
theorem o28_13 : tm_op 28 13 = some (.iand, (0, 0, 0, 0)) := rfl
theorem r28_13 (d : Nat) (u v : Int32) (ls : tm_Lo) (st : List Value) (h : tm_H) (K : Option Value → tm_H → Prop) : tm_A d 28 13 ls (.int u :: .int v :: st) h K ↔ tm_A d 28 14 ls (.int (v &&& u) :: st) h K := tm_s o28_13 rfl rfl rfl
theorem o28_14 : tm_op 28 14 = some (.istore_n 3, (0, 0, 0, 0)) := rfl
theorem r28_14 (d : Nat) (v : Int32) (l0 l1 l2 l3 l4 l5 l6 l7 l8 l9 l10 l11 : Option Value) (st : List Value) (h : tm_H) (K : Option Value → tm_H → Prop) : tm_A d 28 14 [l0, l1, l2, l3, l4, l5, l6, l7, l8, l9, l10, l11] (.int v :: st) h K ↔ tm_A d 28 15 [l0, l1, l2, some (.int v), l4, l5, l6, l7, l8, l9, l10, l11] st h K := tm_s o28_14 rfl rfl rfl
theorem o28_15 : tm_op 28 15 = some (.iload_n 3, (0, 0, 0, 0)) := rfl
theorem r28_15 (d : Nat) (v : Int32) (l0 l1 l2 l4 l5 l6 l7 l8 l9 l10 l11 : Option Value) (st : List Value) (h : tm_H) (K : Option Value → tm_H → Prop) : tm_A d 28 15 [l0, l1, l2, some (.int v), l4, l5, l6, l7, l8, l9, l10, l11] st h K ↔ tm_A d 28 16 [l0, l1, l2, some (.int v), l4, l5, l6, l7, l8, l9, l10, l11] (.int v :: st) h K := tm_s o28_15 rfl rfl rfl
theorem o28_16 : tm_op 28 16 = some (.istore 4, (0, 0, 0, 0)) := rfl
theorem r28_16 (d : Nat) (v : Int32) (l0 l1 l2 l3 l4 l5 l6 l7 l8 l9 l10 l11 : Option Value) (st : List Value) (h : tm_H) (K : Option Value → tm_H → Prop) : tm_A d 28 16 [l0, l1, l2, l3, l4, l5, l6, l7, l8, l9, l10, l11] (.int v :: st) h K ↔ tm_A d 28 18 [l0, l1, l2, l3, some (.int v), l5, l6, l7, l8, l9, l10, l11] st h K := tm_s o28_16 rfl rfl rfl
theorem o28_18 : tm_op 28 18 = some (.ldc2_w 62, (0, 1152921504606846976, 0, 0)) := rfl
theorem r28_18 (d : Nat) (ls : tm_Lo) (st : List Value) (h : tm_H) (K : Option Value → tm_H → Prop) : tm_A d 28 18 ls st h K ↔ tm_A d 28 21 ls (.long (1152921504606846976 : Int64) :: st) h K := tm_s o28_18 rfl rfl rfl
theorem o28_21 : tm_op 28 21 = some (.lstore 5, (0, 0, 0, 0)) := rfl
theorem r28_21 (d : Nat) (v : Int64) (l0 l1 l2 l3 l4 l5 l6 l7 l8 l9 l10 l11 : Option Value) (st : List Value) (h : tm_H) (K : Option Value → tm_H → Prop) : tm_A d 28 21 [l0, l1, l2, l3, l4, l5, l6, l7, l8, l9, l10, l11] (.long v :: st) h K ↔ tm_A d 28 23 [l0, l1, l2, l3, l4, some (.long v), none, l7, l8, l9, l10, l11] st h K := tm_s o28_21 rfl rfl rfl
theorem o28_23 : tm_op 28 23 = some (.iconst 1, (0, 0, 0, 0)) := rfl
theorem r28_23 (d : Nat) (ls : tm_Lo) (st : List Value) (h : tm_H) (K : Option Value → tm_H → Prop) : tm_A d 28 23 ls st h K ↔ tm_A d 28 24 ls (.int (1 : Int32) :: st) h K := tm_ic o28_23 (by decide)
theorem o28_24 : tm_op 28 24 = some (.iload_n 3, (0, 0, 0, 0)) := rfl
theorem r28_24 (d : Nat) (v : Int32) (l0 l1 l2 l4 l5 l6 l7 l8 l9 l10 l11 : Option Value) (st : List Value) (h : tm_H) (K : Option Value → tm_H → Prop) : tm_A d 28 24 [l0, l1, l2, some (.int v), l4, l5, l6, l7, l8, l9, l10, l11] st h K ↔ tm_A d 28 25 [l0, l1, l2, some (.int v), l4, l5, l6, l7, l8, l9, l10, l11] (.int v :: st) h K := tm_s o28_24 rfl rfl rfl
theorem o28_25 : tm_op 28 25 = some (.invokestatic 72, (1, 174, 1, 0)) := rfl
theorem r28_25 (d : Nat) (v0 : Int32) (ls : tm_Lo) (st : List Value) (h : tm_H) (K : Option Value → tm_H → Prop) : tm_A (d + 1) 28 25 ls (.int v0 :: st) h K ↔ tm_cs st ∧ tm_R d 174 [.int v0] h (fun r h' => tm_A (d + 1) 28 28 ls (r.toList ++ st) h' K) := tm_callS (as := [.int v0]) o28_25 rfl rfl rfl rfl
theorem o28_28 : tm_op 28 28 = some (.ishl, (0, 0, 0, 0)) := rfl
theorem r28_28 (d : Nat) (u v : Int32) (ls : tm_Lo) (st : List Value) (h : tm_H) (K : Option Value → tm_H → Prop) : tm_A d 28 28 ls (.int u :: .int v :: st) h K ↔ tm_A d 28 29 ls (.int (v <<< (u &&& 31)) :: st) h K := tm_s o28_28 rfl rfl rfl
theorem o28_29 : tm_op 28 29 = some (.istore 7, (0, 0, 0, 0)) := rfl
theorem r28_29 (d : Nat) (v : Int32) (l0 l1 l2 l3 l4 l5 l6 l7 l8 l9 l10 l11 : Option Value) (st : List Value) (h : tm_H) (K : Option Value → tm_H → Prop) : tm_A d 28 29 [l0, l1, l2, l3, l4, l5, l6, l7, l8, l9, l10, l11] (.int v :: st) h K ↔ tm_A d 28 31 [l0, l1, l2, l3, l4, l5, l6, some (.int v), l8, l9, l10, l11] st h K := tm_s o28_29 rfl rfl rfl
theorem o28_31 : tm_op 28 31 = some (.iload 7, (0, 0, 0, 0)) := rfl
theorem r28_31 (d : Nat) (v : Int32) (l0 l1 l2 l3 l4 l5 l6 l8 l9 l10 l11 : Option Value) (st : List Value) (h : tm_H) (K : Option Value → tm_H → Prop) : tm_A d 28 31 [l0, l1, l2, l3, l4, l5, l6, some (.int v), l8, l9, l10, l11] st h K ↔ tm_A d 28 33 [l0, l1, l2, l3, l4, l5, l6, some (.int v), l8, l9, l10, l11] (.int v :: st) h K := tm_s o28_31 rfl rfl rfl
theorem o28_33 : tm_op 28 33 = some (.ifCond .le 71, (0, 0, 0, 0)) := rfl
theorem r28_33 (d : Nat) (x : Int32) (ls : tm_Lo) (st : List Value) (h : tm_H) (K : Option Value → tm_H → Prop) : tm_A d 28 33 ls (.int x :: st) h K ↔ if x ≤ 0 then tm_A d 28 104 ls st h K else tm_A d 28 36 ls st h K := tm_b o28_33 rfl rfl rfl rfl
theorem o28_36 : tm_op 28 36 = some (.aload_n 0, (0, 0, 0, 0)) := rfl
theorem r28_36 (d : Nat) (v : Nat) (l1 l2 l3 l4 l5 l6 l7 l8 l9 l10 l11 : Option Value) (st : List Value) (h : tm_H) (K : Option Value → tm_H → Prop) : tm_A d 28 36 [some (.ref v), l1, l2, l3, l4, l5, l6, l7, l8, l9, l10, l11] st h K ↔ tm_A d 28 37 [some (.ref v), l1, l2, l3, l4, l5, l6, l7, l8, l9, l10, l11] (.ref v :: st) h K := tm_s o28_36 rfl rfl rfl
theorem o28_37 : tm_op 28 37 = some (.getfield 11, (2, 2, 0, 0)) := rfl
theorem r28_37 (d : Nat) (a : Nat) (ls : tm_Lo) (st : List Value) (G : tm_G) (I : Nat → Nat → Int32) (J : Nat → Nat → Int64) (R : Nat → Nat → Option Nat) (K : Option Value → tm_H → Prop) : tm_A d 28 37 ls (.ref a :: st) (G, I, J, R) K ↔ G.2.2 a = (0, 2) ∧ tm_A d 28 40 ls (tm_rf (R a 0) :: st) (G, I, J, R) K := tm_getR o28_37
theorem o28_40 : tm_op 28 40 = some (.iload 4, (0, 0, 0, 0)) := rfl
theorem r28_40 (d : Nat) (v : Int32) (l0 l1 l2 l3 l5 l6 l7 l8 l9 l10 l11 : Option Value) (st : List Value) (h : tm_H) (K : Option Value → tm_H → Prop) : tm_A d 28 40 [l0, l1, l2, l3, some (.int v), l5, l6, l7, l8, l9, l10, l11] st h K ↔ tm_A d 28 42 [l0, l1, l2, l3, some (.int v), l5, l6, l7, l8, l9, l10, l11] (.int v :: st) h K := tm_s o28_40 rfl rfl rfl
theorem o28_42 : tm_op 28 42 = some (.iload_n 2, (0, 0, 0, 0)) := rfl
theorem r28_42 (d : Nat) (v : Int32) (l0 l1 l3 l4 l5 l6 l7 l8 l9 l10 l11 : Option Value) (st : List Value) (h : tm_H) (K : Option Value → tm_H → Prop) : tm_A d 28 42 [l0, l1, some (.int v), l3, l4, l5, l6, l7, l8, l9, l10, l11] st h K ↔ tm_A d 28 43 [l0, l1, some (.int v), l3, l4, l5, l6, l7, l8, l9, l10, l11] (.int v :: st) h K := tm_s o28_42 rfl rfl rfl
theorem o28_43 : tm_op 28 43 = some (.ior, (0, 0, 0, 0)) := rfl
theorem r28_43 (d : Nat) (u v : Int32) (ls : tm_Lo) (st : List Value) (h : tm_H) (K : Option Value → tm_H → Prop) : tm_A d 28 43 ls (.int u :: .int v :: st) h K ↔ tm_A d 28 44 ls (.int (v ||| u) :: st) h K := tm_s o28_43 rfl rfl rfl
theorem o28_44 : tm_op 28 44 = some (.laload, (0, 0, 0, 0)) := rfl
theorem r28_44 (d : Nat) (v : Int32) (a : Nat) (ls : tm_Lo) (st : List Value) (G : tm_G) (I : Nat → Nat → Int32) (J : Nat → Nat → Int64) (R : Nat → Nat → Option Nat) (K : Option Value → tm_H → Prop) : tm_A d 28 44 ls (.int v :: .ref a :: st) (G, I, J, R) K ↔ ((G.2.2 a).1 = 2 ∧ tm_in v (G.2.2 a).2) ∧ tm_A d 28 45 ls (.long (J a (tm_ix v)) :: st) (G, I, J, R) K := tm_lald o28_44
theorem o28_45 : tm_op 28 45 = some (.lstore 8, (0, 0, 0, 0)) := rfl
theorem r28_45 (d : Nat) (v : Int64) (l0 l1 l2 l3 l4 l5 l6 l7 l8 l9 l10 l11 : Option Value) (st : List Value) (h : tm_H) (K : Option Value → tm_H → Prop) : tm_A d 28 45 [l0, l1, l2, l3, l4, l5, l6, l7, l8, l9, l10, l11] (.long v :: st) h K ↔ tm_A d 28 47 [l0, l1, l2, l3, l4, l5, l6, l7, some (.long v), none, l10, l11] st h K := tm_s o28_45 rfl rfl rfl
theorem o28_47 : tm_op 28 47 = some (.aload_n 0, (0, 0, 0, 0)) := rfl
theorem r28_47 (d : Nat) (v : Nat) (l1 l2 l3 l4 l5 l6 l7 l8 l9 l10 l11 : Option Value) (st : List Value) (h : tm_H) (K : Option Value → tm_H → Prop) : tm_A d 28 47 [some (.ref v), l1, l2, l3, l4, l5, l6, l7, l8, l9, l10, l11] st h K ↔ tm_A d 28 48 [some (.ref v), l1, l2, l3, l4, l5, l6, l7, l8, l9, l10, l11] (.ref v :: st) h K := tm_s o28_47 rfl rfl rfl
theorem o28_48 : tm_op 28 48 = some (.getfield 15, (2, 2, 1, 0)) := rfl
theorem r28_48 (d : Nat) (a : Nat) (ls : tm_Lo) (st : List Value) (G : tm_G) (I : Nat → Nat → Int32) (J : Nat → Nat → Int64) (R : Nat → Nat → Option Nat) (K : Option Value → tm_H → Prop) : tm_A d 28 48 ls (.ref a :: st) (G, I, J, R) K ↔ G.2.2 a = (0, 2) ∧ tm_A d 28 51 ls (tm_rf (R a 1) :: st) (G, I, J, R) K := tm_getR o28_48
theorem o28_51 : tm_op 28 51 = some (.iload_n 3, (0, 0, 0, 0)) := rfl
theorem r28_51 (d : Nat) (v : Int32) (l0 l1 l2 l4 l5 l6 l7 l8 l9 l10 l11 : Option Value) (st : List Value) (h : tm_H) (K : Option Value → tm_H → Prop) : tm_A d 28 51 [l0, l1, l2, some (.int v), l4, l5, l6, l7, l8, l9, l10, l11] st h K ↔ tm_A d 28 52 [l0, l1, l2, some (.int v), l4, l5, l6, l7, l8, l9, l10, l11] (.int v :: st) h K := tm_s o28_51 rfl rfl rfl
theorem o28_52 : tm_op 28 52 = some (.iload 4, (0, 0, 0, 0)) := rfl
theorem r28_52 (d : Nat) (v : Int32) (l0 l1 l2 l3 l5 l6 l7 l8 l9 l10 l11 : Option Value) (st : List Value) (h : tm_H) (K : Option Value → tm_H → Prop) : tm_A d 28 52 [l0, l1, l2, l3, some (.int v), l5, l6, l7, l8, l9, l10, l11] st h K ↔ tm_A d 28 54 [l0, l1, l2, l3, some (.int v), l5, l6, l7, l8, l9, l10, l11] (.int v :: st) h K := tm_s o28_52 rfl rfl rfl
theorem o28_54 : tm_op 28 54 = some (.iconst (-1), (0, 0, 0, 0)) := rfl
theorem r28_54 (d : Nat) (ls : tm_Lo) (st : List Value) (h : tm_H) (K : Option Value → tm_H → Prop) : tm_A d 28 54 ls st h K ↔ tm_A d 28 55 ls (.int (-1 : Int32) :: st) h K := tm_ic o28_54 (by decide)
theorem o28_55 : tm_op 28 55 = some (.ixor, (0, 0, 0, 0)) := rfl
theorem r28_55 (d : Nat) (u v : Int32) (ls : tm_Lo) (st : List Value) (h : tm_H) (K : Option Value → tm_H → Prop) : tm_A d 28 55 ls (.int u :: .int v :: st) h K ↔ tm_A d 28 56 ls (.int (v ^^^ u) :: st) h K := tm_s o28_55 rfl rfl rfl
theorem o28_56 : tm_op 28 56 = some (.iand, (0, 0, 0, 0)) := rfl
theorem r28_56 (d : Nat) (u v : Int32) (ls : tm_Lo) (st : List Value) (h : tm_H) (K : Option Value → tm_H → Prop) : tm_A d 28 56 ls (.int u :: .int v :: st) h K ↔ tm_A d 28 57 ls (.int (v &&& u) :: st) h K := tm_s o28_56 rfl rfl rfl
theorem o28_57 : tm_op 28 57 = some (.laload, (0, 0, 0, 0)) := rfl
theorem r28_57 (d : Nat) (v : Int32) (a : Nat) (ls : tm_Lo) (st : List Value) (G : tm_G) (I : Nat → Nat → Int32) (J : Nat → Nat → Int64) (R : Nat → Nat → Option Nat) (K : Option Value → tm_H → Prop) : tm_A d 28 57 ls (.int v :: .ref a :: st) (G, I, J, R) K ↔ ((G.2.2 a).1 = 2 ∧ tm_in v (G.2.2 a).2) ∧ tm_A d 28 58 ls (.long (J a (tm_ix v)) :: st) (G, I, J, R) K := tm_lald o28_57
theorem o28_58 : tm_op 28 58 = some (.lstore 10, (0, 0, 0, 0)) := rfl
theorem r28_58 (d : Nat) (v : Int64) (l0 l1 l2 l3 l4 l5 l6 l7 l8 l9 l10 l11 : Option Value) (st : List Value) (h : tm_H) (K : Option Value → tm_H → Prop) : tm_A d 28 58 [l0, l1, l2, l3, l4, l5, l6, l7, l8, l9, l10, l11] (.long v :: st) h K ↔ tm_A d 28 60 [l0, l1, l2, l3, l4, l5, l6, l7, l8, l9, some (.long v), none] st h K := tm_s o28_58 rfl rfl rfl
theorem o28_60 : tm_op 28 60 = some (.lload 8, (0, 0, 0, 0)) := rfl
theorem r28_60 (d : Nat) (v : Int64) (l0 l1 l2 l3 l4 l5 l6 l7 l9 l10 l11 : Option Value) (st : List Value) (h : tm_H) (K : Option Value → tm_H → Prop) : tm_A d 28 60 [l0, l1, l2, l3, l4, l5, l6, l7, some (.long v), l9, l10, l11] st h K ↔ tm_A d 28 62 [l0, l1, l2, l3, l4, l5, l6, l7, some (.long v), l9, l10, l11] (.long v :: st) h K := tm_s o28_60 rfl rfl rfl
theorem o28_62 : tm_op 28 62 = some (.ldc2_w 62, (0, 1152921504606846976, 0, 0)) := rfl
theorem r28_62 (d : Nat) (ls : tm_Lo) (st : List Value) (h : tm_H) (K : Option Value → tm_H → Prop) : tm_A d 28 62 ls st h K ↔ tm_A d 28 65 ls (.long (1152921504606846976 : Int64) :: st) h K := tm_s o28_62 rfl rfl rfl
theorem o28_65 : tm_op 28 65 = some (.lcmp, (0, 0, 0, 0)) := rfl
theorem r28_65 (d : Nat) (u v : Int64) (ls : tm_Lo) (st : List Value) (h : tm_H) (K : Option Value → tm_H → Prop) : tm_A d 28 65 ls (.long u :: .long v :: st) h K ↔ tm_A d 28 66 ls (.int (lg_cmp v u) :: st) h K := tm_s o28_65 rfl rfl rfl
theorem o28_66 : tm_op 28 66 = some (.ifCond .eq 24, (0, 0, 0, 0)) := rfl
theorem r28_66 (d : Nat) (x : Int32) (ls : tm_Lo) (st : List Value) (h : tm_H) (K : Option Value → tm_H → Prop) : tm_A d 28 66 ls (.int x :: st) h K ↔ if x = 0 then tm_A d 28 90 ls st h K else tm_A d 28 69 ls st h K := tm_b o28_66 rfl rfl rfl rfl
theorem o28_69 : tm_op 28 69 = some (.lload 10, (0, 0, 0, 0)) := rfl
theorem r28_69 (d : Nat) (v : Int64) (l0 l1 l2 l3 l4 l5 l6 l7 l8 l9 l11 : Option Value) (st : List Value) (h : tm_H) (K : Option Value → tm_H → Prop) : tm_A d 28 69 [l0, l1, l2, l3, l4, l5, l6, l7, l8, l9, some (.long v), l11] st h K ↔ tm_A d 28 71 [l0, l1, l2, l3, l4, l5, l6, l7, l8, l9, some (.long v), l11] (.long v :: st) h K := tm_s o28_69 rfl rfl rfl
theorem o28_71 : tm_op 28 71 = some (.ldc2_w 62, (0, 1152921504606846976, 0, 0)) := rfl
theorem r28_71 (d : Nat) (ls : tm_Lo) (st : List Value) (h : tm_H) (K : Option Value → tm_H → Prop) : tm_A d 28 71 ls st h K ↔ tm_A d 28 74 ls (.long (1152921504606846976 : Int64) :: st) h K := tm_s o28_71 rfl rfl rfl
theorem o28_74 : tm_op 28 74 = some (.lcmp, (0, 0, 0, 0)) := rfl
theorem r28_74 (d : Nat) (u v : Int64) (ls : tm_Lo) (st : List Value) (h : tm_H) (K : Option Value → tm_H → Prop) : tm_A d 28 74 ls (.long u :: .long v :: st) h K ↔ tm_A d 28 75 ls (.int (lg_cmp v u) :: st) h K := tm_s o28_74 rfl rfl rfl
theorem o28_75 : tm_op 28 75 = some (.ifCond .eq 15, (0, 0, 0, 0)) := rfl
theorem r28_75 (d : Nat) (x : Int32) (ls : tm_Lo) (st : List Value) (h : tm_H) (K : Option Value → tm_H → Prop) : tm_A d 28 75 ls (.int x :: st) h K ↔ if x = 0 then tm_A d 28 90 ls st h K else tm_A d 28 78 ls st h K := tm_b o28_75 rfl rfl rfl rfl
theorem o28_78 : tm_op 28 78 = some (.lload 5, (0, 0, 0, 0)) := rfl
theorem r28_78 (d : Nat) (v : Int64) (l0 l1 l2 l3 l4 l6 l7 l8 l9 l10 l11 : Option Value) (st : List Value) (h : tm_H) (K : Option Value → tm_H → Prop) : tm_A d 28 78 [l0, l1, l2, l3, l4, some (.long v), l6, l7, l8, l9, l10, l11] st h K ↔ tm_A d 28 80 [l0, l1, l2, l3, l4, some (.long v), l6, l7, l8, l9, l10, l11] (.long v :: st) h K := tm_s o28_78 rfl rfl rfl
theorem o28_80 : tm_op 28 80 = some (.lload 8, (0, 0, 0, 0)) := rfl
theorem r28_80 (d : Nat) (v : Int64) (l0 l1 l2 l3 l4 l5 l6 l7 l9 l10 l11 : Option Value) (st : List Value) (h : tm_H) (K : Option Value → tm_H → Prop) : tm_A d 28 80 [l0, l1, l2, l3, l4, l5, l6, l7, some (.long v), l9, l10, l11] st h K ↔ tm_A d 28 82 [l0, l1, l2, l3, l4, l5, l6, l7, some (.long v), l9, l10, l11] (.long v :: st) h K := tm_s o28_80 rfl rfl rfl
theorem o28_82 : tm_op 28 82 = some (.lload 10, (0, 0, 0, 0)) := rfl
theorem r28_82 (d : Nat) (v : Int64) (l0 l1 l2 l3 l4 l5 l6 l7 l8 l9 l11 : Option Value) (st : List Value) (h : tm_H) (K : Option Value → tm_H → Prop) : tm_A d 28 82 [l0, l1, l2, l3, l4, l5, l6, l7, l8, l9, some (.long v), l11] st h K ↔ tm_A d 28 84 [l0, l1, l2, l3, l4, l5, l6, l7, l8, l9, some (.long v), l11] (.long v :: st) h K := tm_s o28_82 rfl rfl rfl
theorem o28_84 : tm_op 28 84 = some (.ladd, (0, 0, 0, 0)) := rfl
theorem r28_84 (d : Nat) (u v : Int64) (ls : tm_Lo) (st : List Value) (h : tm_H) (K : Option Value → tm_H → Prop) : tm_A d 28 84 ls (.long u :: .long v :: st) h K ↔ tm_A d 28 85 ls (.long (v + u) :: st) h K := tm_s o28_84 rfl rfl rfl
theorem o28_85 : tm_op 28 85 = some (.invokestatic 77, (9, 0, 0, 0)) := rfl
theorem r28_85 (d : Nat) (v0 v1 : Int64) (ls : tm_Lo) (st : List Value) (h : tm_H) (K : Option Value → tm_H → Prop) : tm_A (d + 1) 28 85 ls (.long v1 :: .long v0 :: st) h K ↔ tm_cs st ∧ tm_A (d + 1) 28 88 ls (.long (if v1 < v0 then v1 else v0) :: st) h K := tm_mnj o28_85 rfl rfl
theorem o28_88 : tm_op 28 88 = some (.lstore 5, (0, 0, 0, 0)) := rfl
theorem r28_88 (d : Nat) (v : Int64) (l0 l1 l2 l3 l4 l5 l6 l7 l8 l9 l10 l11 : Option Value) (st : List Value) (h : tm_H) (K : Option Value → tm_H → Prop) : tm_A d 28 88 [l0, l1, l2, l3, l4, l5, l6, l7, l8, l9, l10, l11] (.long v :: st) h K ↔ tm_A d 28 90 [l0, l1, l2, l3, l4, some (.long v), none, l7, l8, l9, l10, l11] st h K := tm_s o28_88 rfl rfl rfl
theorem o28_90 : tm_op 28 90 = some (.iload 4, (0, 0, 0, 0)) := rfl
theorem r28_90 (d : Nat) (v : Int32) (l0 l1 l2 l3 l5 l6 l7 l8 l9 l10 l11 : Option Value) (st : List Value) (h : tm_H) (K : Option Value → tm_H → Prop) : tm_A d 28 90 [l0, l1, l2, l3, some (.int v), l5, l6, l7, l8, l9, l10, l11] st h K ↔ tm_A d 28 92 [l0, l1, l2, l3, some (.int v), l5, l6, l7, l8, l9, l10, l11] (.int v :: st) h K := tm_s o28_90 rfl rfl rfl
theorem o28_92 : tm_op 28 92 = some (.iconst 1, (0, 0, 0, 0)) := rfl
theorem r28_92 (d : Nat) (ls : tm_Lo) (st : List Value) (h : tm_H) (K : Option Value → tm_H → Prop) : tm_A d 28 92 ls st h K ↔ tm_A d 28 93 ls (.int (1 : Int32) :: st) h K := tm_ic o28_92 (by decide)
theorem o28_93 : tm_op 28 93 = some (.isub, (0, 0, 0, 0)) := rfl
theorem r28_93 (d : Nat) (u v : Int32) (ls : tm_Lo) (st : List Value) (h : tm_H) (K : Option Value → tm_H → Prop) : tm_A d 28 93 ls (.int u :: .int v :: st) h K ↔ tm_A d 28 94 ls (.int (v - u) :: st) h K := tm_s o28_93 rfl rfl rfl
theorem o28_94 : tm_op 28 94 = some (.iload_n 3, (0, 0, 0, 0)) := rfl
theorem r28_94 (d : Nat) (v : Int32) (l0 l1 l2 l4 l5 l6 l7 l8 l9 l10 l11 : Option Value) (st : List Value) (h : tm_H) (K : Option Value → tm_H → Prop) : tm_A d 28 94 [l0, l1, l2, some (.int v), l4, l5, l6, l7, l8, l9, l10, l11] st h K ↔ tm_A d 28 95 [l0, l1, l2, some (.int v), l4, l5, l6, l7, l8, l9, l10, l11] (.int v :: st) h K := tm_s o28_94 rfl rfl rfl
theorem o28_95 : tm_op 28 95 = some (.iand, (0, 0, 0, 0)) := rfl
theorem r28_95 (d : Nat) (u v : Int32) (ls : tm_Lo) (st : List Value) (h : tm_H) (K : Option Value → tm_H → Prop) : tm_A d 28 95 ls (.int u :: .int v :: st) h K ↔ tm_A d 28 96 ls (.int (v &&& u) :: st) h K := tm_s o28_95 rfl rfl rfl
theorem o28_96 : tm_op 28 96 = some (.istore 4, (0, 0, 0, 0)) := rfl
theorem r28_96 (d : Nat) (v : Int32) (l0 l1 l2 l3 l4 l5 l6 l7 l8 l9 l10 l11 : Option Value) (st : List Value) (h : tm_H) (K : Option Value → tm_H → Prop) : tm_A d 28 96 [l0, l1, l2, l3, l4, l5, l6, l7, l8, l9, l10, l11] (.int v :: st) h K ↔ tm_A d 28 98 [l0, l1, l2, l3, some (.int v), l5, l6, l7, l8, l9, l10, l11] st h K := tm_s o28_96 rfl rfl rfl
theorem o28_98 : tm_op 28 98 = some (.iinc 7 (-1), (0, 0, 0, 0)) := rfl
theorem r28_98 (d : Nat) (v : Int32) (l0 l1 l2 l3 l4 l5 l6 l8 l9 l10 l11 : Option Value) (st : List Value) (h : tm_H) (K : Option Value → tm_H → Prop) : tm_A d 28 98 [l0, l1, l2, l3, l4, l5, l6, some (.int v), l8, l9, l10, l11] st h K ↔ tm_A d 28 101 [l0, l1, l2, l3, l4, l5, l6, some (.int (v + (-1 : Int32))), l8, l9, l10, l11] st h K := tm_s o28_98 rfl rfl rfl
theorem o28_101 : tm_op 28 101 = some (.goto (-70), (0, 0, 0, 0)) := rfl
theorem r28_101 (d : Nat) (ls : tm_Lo) (st : List Value) (h : tm_H) (K : Option Value → tm_H → Prop) : tm_A d 28 101 ls st h K ↔ tm_A d 28 31 ls st h K := tm_s o28_101 rfl rfl rfl
theorem o28_104 : tm_op 28 104 = some (.lload 5, (0, 0, 0, 0)) := rfl
theorem r28_104 (d : Nat) (v : Int64) (l0 l1 l2 l3 l4 l6 l7 l8 l9 l10 l11 : Option Value) (st : List Value) (h : tm_H) (K : Option Value → tm_H → Prop) : tm_A d 28 104 [l0, l1, l2, l3, l4, some (.long v), l6, l7, l8, l9, l10, l11] st h K ↔ tm_A d 28 106 [l0, l1, l2, l3, l4, some (.long v), l6, l7, l8, l9, l10, l11] (.long v :: st) h K := tm_s o28_104 rfl rfl rfl
theorem o28_106 : tm_op 28 106 = some (.lreturn, (0, 0, 0, 0)) := rfl
theorem r28_106 (d : Nat) (v : Int64) (ls : tm_Lo) (h : tm_H) (K : Option Value → tm_H → Prop) : tm_A d 28 106 ls [.long v] h K ↔ K (some (.long v)) h := tm_retj o28_106 rfl
theorem o29_0 : tm_op 29 0 = some (.aload_n 0, (0, 0, 0, 0)) := rfl
theorem r29_0 (d : Nat) (v : Nat) (st : List Value) (h : tm_H) (K : Option Value → tm_H → Prop) : tm_A d 29 0 [some (.ref v)] st h K ↔ tm_A d 29 1 [some (.ref v)] (.ref v :: st) h K := tm_s o29_0 rfl rfl rfl
theorem o29_1 : tm_op 29 1 = some (.getfield 25, (1, 2, 4, 0)) := rfl
theorem r29_1 (d : Nat) (a : Nat) (ls : tm_Lo) (st : List Value) (G : tm_G) (I : Nat → Nat → Int32) (J : Nat → Nat → Int64) (R : Nat → Nat → Option Nat) (K : Option Value → tm_H → Prop) : tm_A d 29 1 ls (.ref a :: st) (G, I, J, R) K ↔ G.2.2 a = (0, 2) ∧ tm_A d 29 4 ls (.long (J a 4) :: st) (G, I, J, R) K := tm_getJ o29_1
theorem o29_4 : tm_op 29 4 = some (.ldc2_w 62, (0, 1152921504606846976, 0, 0)) := rfl
theorem r29_4 (d : Nat) (ls : tm_Lo) (st : List Value) (h : tm_H) (K : Option Value → tm_H → Prop) : tm_A d 29 4 ls st h K ↔ tm_A d 29 7 ls (.long (1152921504606846976 : Int64) :: st) h K := tm_s o29_4 rfl rfl rfl
theorem o29_7 : tm_op 29 7 = some (.lcmp, (0, 0, 0, 0)) := rfl
theorem r29_7 (d : Nat) (u v : Int64) (ls : tm_Lo) (st : List Value) (h : tm_H) (K : Option Value → tm_H → Prop) : tm_A d 29 7 ls (.long u :: .long v :: st) h K ↔ tm_A d 29 8 ls (.int (lg_cmp v u) :: st) h K := tm_s o29_7 rfl rfl rfl
theorem o29_8 : tm_op 29 8 = some (.ifCond .eq 7, (0, 0, 0, 0)) := rfl
theorem r29_8 (d : Nat) (x : Int32) (ls : tm_Lo) (st : List Value) (h : tm_H) (K : Option Value → tm_H → Prop) : tm_A d 29 8 ls (.int x :: st) h K ↔ if x = 0 then tm_A d 29 15 ls st h K else tm_A d 29 11 ls st h K := tm_b o29_8 rfl rfl rfl rfl
theorem o29_11 : tm_op 29 11 = some (.iconst 1, (0, 0, 0, 0)) := rfl
theorem r29_11 (d : Nat) (ls : tm_Lo) (st : List Value) (h : tm_H) (K : Option Value → tm_H → Prop) : tm_A d 29 11 ls st h K ↔ tm_A d 29 12 ls (.int (1 : Int32) :: st) h K := tm_ic o29_11 (by decide)
theorem o29_12 : tm_op 29 12 = some (.goto 4, (0, 0, 0, 0)) := rfl
theorem r29_12 (d : Nat) (ls : tm_Lo) (st : List Value) (h : tm_H) (K : Option Value → tm_H → Prop) : tm_A d 29 12 ls st h K ↔ tm_A d 29 16 ls st h K := tm_s o29_12 rfl rfl rfl
theorem o29_15 : tm_op 29 15 = some (.iconst 0, (0, 0, 0, 0)) := rfl
theorem r29_15 (d : Nat) (ls : tm_Lo) (st : List Value) (h : tm_H) (K : Option Value → tm_H → Prop) : tm_A d 29 15 ls st h K ↔ tm_A d 29 16 ls (.int (0 : Int32) :: st) h K := tm_ic o29_15 (by decide)
theorem o29_16 : tm_op 29 16 = some (.ireturn, (0, 0, 0, 0)) := rfl
theorem r29_16 (d : Nat) (v : Int32) (ls : tm_Lo) (h : tm_H) (K : Option Value → tm_H → Prop) : tm_A d 29 16 ls [.int v] h K ↔ (v = 0 ∨ v = 1) ∧ K (some (.int v)) h := tm_retz o29_16 rfl
theorem o30_0 : tm_op 30 0 = some (.aload_n 0, (0, 0, 0, 0)) := rfl
theorem r30_0 (d : Nat) (v : Nat) (st : List Value) (h : tm_H) (K : Option Value → tm_H → Prop) : tm_A d 30 0 [some (.ref v)] st h K ↔ tm_A d 30 1 [some (.ref v)] (.ref v :: st) h K := tm_s o30_0 rfl rfl rfl
theorem o30_1 : tm_op 30 1 = some (.getfield 25, (1, 2, 4, 0)) := rfl
theorem r30_1 (d : Nat) (a : Nat) (ls : tm_Lo) (st : List Value) (G : tm_G) (I : Nat → Nat → Int32) (J : Nat → Nat → Int64) (R : Nat → Nat → Option Nat) (K : Option Value → tm_H → Prop) : tm_A d 30 1 ls (.ref a :: st) (G, I, J, R) K ↔ G.2.2 a = (0, 2) ∧ tm_A d 30 4 ls (.long (J a 4) :: st) (G, I, J, R) K := tm_getJ o30_1
theorem o30_4 : tm_op 30 4 = some (.bipush 40, (0, 0, 0, 0)) := rfl
theorem r30_4 (d : Nat) (ls : tm_Lo) (st : List Value) (h : tm_H) (K : Option Value → tm_H → Prop) : tm_A d 30 4 ls st h K ↔ tm_A d 30 6 ls (.int (40 : Int32) :: st) h K := tm_bp o30_4 (by decide)
theorem o30_6 : tm_op 30 6 = some (.lshr, (0, 0, 0, 0)) := rfl
theorem r30_6 (d : Nat) (u : Int32) (v : Int64) (ls : tm_Lo) (st : List Value) (h : tm_H) (K : Option Value → tm_H → Prop) : tm_A d 30 6 ls (.int u :: .long v :: st) h K ↔ tm_A d 30 7 ls (.long (v >>> (u.toInt64 &&& 63)) :: st) h K := tm_s o30_6 rfl rfl rfl
theorem o30_7 : tm_op 30 7 = some (.l2i, (0, 0, 0, 0)) := rfl
theorem r30_7 (d : Nat) (v : Int64) (ls : tm_Lo) (st : List Value) (h : tm_H) (K : Option Value → tm_H → Prop) : tm_A d 30 7 ls (.long v :: st) h K ↔ tm_A d 30 8 ls (.int v.toInt32 :: st) h K := tm_s o30_7 rfl rfl rfl
theorem o30_8 : tm_op 30 8 = some (.ireturn, (0, 0, 0, 0)) := rfl
theorem r30_8 (d : Nat) (v : Int32) (ls : tm_Lo) (h : tm_H) (K : Option Value → tm_H → Prop) : tm_A d 30 8 ls [.int v] h K ↔ K (some (.int v)) h := tm_reti o30_8 rfl
theorem o31_0 : tm_op 31 0 = some (.iload_n 1, (0, 0, 0, 0)) := rfl
theorem r31_0 (d : Nat) (v : Int32) (l0 : Option Value) (st : List Value) (h : tm_H) (K : Option Value → tm_H → Prop) : tm_A d 31 0 [l0, some (.int v)] st h K ↔ tm_A d 31 1 [l0, some (.int v)] (.int v :: st) h K := tm_s o31_0 rfl rfl rfl
theorem o31_1 : tm_op 31 1 = some (.ifCond .lt 26, (0, 0, 0, 0)) := rfl
theorem r31_1 (d : Nat) (x : Int32) (ls : tm_Lo) (st : List Value) (h : tm_H) (K : Option Value → tm_H → Prop) : tm_A d 31 1 ls (.int x :: st) h K ↔ if x < 0 then tm_A d 31 27 ls st h K else tm_A d 31 4 ls st h K := tm_b o31_1 rfl rfl rfl rfl
theorem o31_4 : tm_op 31 4 = some (.iload_n 1, (0, 0, 0, 0)) := rfl
theorem r31_4 (d : Nat) (v : Int32) (l0 : Option Value) (st : List Value) (h : tm_H) (K : Option Value → tm_H → Prop) : tm_A d 31 4 [l0, some (.int v)] st h K ↔ tm_A d 31 5 [l0, some (.int v)] (.int v :: st) h K := tm_s o31_4 rfl rfl rfl
theorem o31_5 : tm_op 31 5 = some (.aload_n 0, (0, 0, 0, 0)) := rfl
theorem r31_5 (d : Nat) (v : Nat) (l1 : Option Value) (st : List Value) (h : tm_H) (K : Option Value → tm_H → Prop) : tm_A d 31 5 [some (.ref v), l1] st h K ↔ tm_A d 31 6 [some (.ref v), l1] (.ref v :: st) h K := tm_s o31_5 rfl rfl rfl
theorem o31_6 : tm_op 31 6 = some (.getfield 29, (0, 2, 5, 0)) := rfl
theorem r31_6 (d : Nat) (a : Nat) (ls : tm_Lo) (st : List Value) (G : tm_G) (I : Nat → Nat → Int32) (J : Nat → Nat → Int64) (R : Nat → Nat → Option Nat) (K : Option Value → tm_H → Prop) : tm_A d 31 6 ls (.ref a :: st) (G, I, J, R) K ↔ G.2.2 a = (0, 2) ∧ tm_A d 31 9 ls (.int (I a 5) :: st) (G, I, J, R) K := tm_getI o31_6
theorem o31_9 : tm_op 31 9 = some (.if_icmp .ge 18, (0, 0, 0, 0)) := rfl
theorem r31_9 (d : Nat) (y x : Int32) (ls : tm_Lo) (st : List Value) (h : tm_H) (K : Option Value → tm_H → Prop) : tm_A d 31 9 ls (.int y :: .int x :: st) h K ↔ if y ≤ x then tm_A d 31 27 ls st h K else tm_A d 31 12 ls st h K := tm_b o31_9 rfl rfl rfl rfl
theorem o31_12 : tm_op 31 12 = some (.iload_n 1, (0, 0, 0, 0)) := rfl
theorem r31_12 (d : Nat) (v : Int32) (l0 : Option Value) (st : List Value) (h : tm_H) (K : Option Value → tm_H → Prop) : tm_A d 31 12 [l0, some (.int v)] st h K ↔ tm_A d 31 13 [l0, some (.int v)] (.int v :: st) h K := tm_s o31_12 rfl rfl rfl
theorem o31_13 : tm_op 31 13 = some (.bipush 10, (0, 0, 0, 0)) := rfl
theorem r31_13 (d : Nat) (ls : tm_Lo) (st : List Value) (h : tm_H) (K : Option Value → tm_H → Prop) : tm_A d 31 13 ls st h K ↔ tm_A d 31 15 ls (.int (10 : Int32) :: st) h K := tm_bp o31_13 (by decide)
theorem o31_15 : tm_op 31 15 = some (.if_icmp .ge 12, (0, 0, 0, 0)) := rfl
theorem r31_15 (d : Nat) (y x : Int32) (ls : tm_Lo) (st : List Value) (h : tm_H) (K : Option Value → tm_H → Prop) : tm_A d 31 15 ls (.int y :: .int x :: st) h K ↔ if y ≤ x then tm_A d 31 27 ls st h K else tm_A d 31 18 ls st h K := tm_b o31_15 rfl rfl rfl rfl
theorem o31_18 : tm_op 31 18 = some (.aload_n 0, (0, 0, 0, 0)) := rfl
theorem r31_18 (d : Nat) (v : Nat) (l1 : Option Value) (st : List Value) (h : tm_H) (K : Option Value → tm_H → Prop) : tm_A d 31 18 [some (.ref v), l1] st h K ↔ tm_A d 31 19 [some (.ref v), l1] (.ref v :: st) h K := tm_s o31_18 rfl rfl rfl
theorem o31_19 : tm_op 31 19 = some (.getfield 22, (2, 2, 3, 0)) := rfl
theorem r31_19 (d : Nat) (a : Nat) (ls : tm_Lo) (st : List Value) (G : tm_G) (I : Nat → Nat → Int32) (J : Nat → Nat → Int64) (R : Nat → Nat → Option Nat) (K : Option Value → tm_H → Prop) : tm_A d 31 19 ls (.ref a :: st) (G, I, J, R) K ↔ G.2.2 a = (0, 2) ∧ tm_A d 31 22 ls (tm_rf (R a 3) :: st) (G, I, J, R) K := tm_getR o31_19
theorem o31_22 : tm_op 31 22 = some (.iload_n 1, (0, 0, 0, 0)) := rfl
theorem r31_22 (d : Nat) (v : Int32) (l0 : Option Value) (st : List Value) (h : tm_H) (K : Option Value → tm_H → Prop) : tm_A d 31 22 [l0, some (.int v)] st h K ↔ tm_A d 31 23 [l0, some (.int v)] (.int v :: st) h K := tm_s o31_22 rfl rfl rfl
theorem o31_23 : tm_op 31 23 = some (.iaload, (0, 0, 0, 0)) := rfl
theorem r31_23 (d : Nat) (v : Int32) (a : Nat) (ls : tm_Lo) (st : List Value) (G : tm_G) (I : Nat → Nat → Int32) (J : Nat → Nat → Int64) (R : Nat → Nat → Option Nat) (K : Option Value → tm_H → Prop) : tm_A d 31 23 ls (.int v :: .ref a :: st) (G, I, J, R) K ↔ ((G.2.2 a).1 = 1 ∧ tm_in v (G.2.2 a).2) ∧ tm_A d 31 24 ls (.int (I a (tm_ix v)) :: st) (G, I, J, R) K := tm_iald o31_23
theorem o31_24 : tm_op 31 24 = some (.goto 4, (0, 0, 0, 0)) := rfl
theorem r31_24 (d : Nat) (ls : tm_Lo) (st : List Value) (h : tm_H) (K : Option Value → tm_H → Prop) : tm_A d 31 24 ls st h K ↔ tm_A d 31 28 ls st h K := tm_s o31_24 rfl rfl rfl
theorem o31_27 : tm_op 31 27 = some (.iconst (-1), (0, 0, 0, 0)) := rfl
theorem r31_27 (d : Nat) (ls : tm_Lo) (st : List Value) (h : tm_H) (K : Option Value → tm_H → Prop) : tm_A d 31 27 ls st h K ↔ tm_A d 31 28 ls (.int (-1 : Int32) :: st) h K := tm_ic o31_27 (by decide)
theorem o31_28 : tm_op 31 28 = some (.ireturn, (0, 0, 0, 0)) := rfl
theorem r31_28 (d : Nat) (v : Int32) (ls : tm_Lo) (h : tm_H) (K : Option Value → tm_H → Prop) : tm_A d 31 28 ls [.int v] h K ↔ K (some (.int v)) h := tm_reti o31_28 rfl
theorem o32_0 : tm_op 32 0 = some (.iconst 0, (0, 0, 0, 0)) := rfl
theorem r32_0 (d : Nat) (ls : tm_Lo) (st : List Value) (h : tm_H) (K : Option Value → tm_H → Prop) : tm_A d 32 0 ls st h K ↔ tm_A d 32 1 ls (.int (0 : Int32) :: st) h K := tm_ic o32_0 (by decide)
theorem o32_1 : tm_op 32 1 = some (.istore_n 1, (0, 0, 0, 0)) := rfl
theorem r32_1 (d : Nat) (v : Int32) (l0 l1 l2 : Option Value) (st : List Value) (h : tm_H) (K : Option Value → tm_H → Prop) : tm_A d 32 1 [l0, l1, l2] (.int v :: st) h K ↔ tm_A d 32 2 [l0, some (.int v), l2] st h K := tm_s o32_1 rfl rfl rfl
theorem o32_2 : tm_op 32 2 = some (.iconst 0, (0, 0, 0, 0)) := rfl
theorem r32_2 (d : Nat) (ls : tm_Lo) (st : List Value) (h : tm_H) (K : Option Value → tm_H → Prop) : tm_A d 32 2 ls st h K ↔ tm_A d 32 3 ls (.int (0 : Int32) :: st) h K := tm_ic o32_2 (by decide)
theorem o32_3 : tm_op 32 3 = some (.istore_n 2, (0, 0, 0, 0)) := rfl
theorem r32_3 (d : Nat) (v : Int32) (l0 l1 l2 : Option Value) (st : List Value) (h : tm_H) (K : Option Value → tm_H → Prop) : tm_A d 32 3 [l0, l1, l2] (.int v :: st) h K ↔ tm_A d 32 4 [l0, l1, some (.int v)] st h K := tm_s o32_3 rfl rfl rfl
theorem o32_4 : tm_op 32 4 = some (.iload_n 2, (0, 0, 0, 0)) := rfl
theorem r32_4 (d : Nat) (v : Int32) (l0 l1 : Option Value) (st : List Value) (h : tm_H) (K : Option Value → tm_H → Prop) : tm_A d 32 4 [l0, l1, some (.int v)] st h K ↔ tm_A d 32 5 [l0, l1, some (.int v)] (.int v :: st) h K := tm_s o32_4 rfl rfl rfl
theorem o32_5 : tm_op 32 5 = some (.aload_n 0, (0, 0, 0, 0)) := rfl
theorem r32_5 (d : Nat) (v : Nat) (l1 l2 : Option Value) (st : List Value) (h : tm_H) (K : Option Value → tm_H → Prop) : tm_A d 32 5 [some (.ref v), l1, l2] st h K ↔ tm_A d 32 6 [some (.ref v), l1, l2] (.ref v :: st) h K := tm_s o32_5 rfl rfl rfl
theorem o32_6 : tm_op 32 6 = some (.getfield 29, (0, 2, 5, 0)) := rfl
theorem r32_6 (d : Nat) (a : Nat) (ls : tm_Lo) (st : List Value) (G : tm_G) (I : Nat → Nat → Int32) (J : Nat → Nat → Int64) (R : Nat → Nat → Option Nat) (K : Option Value → tm_H → Prop) : tm_A d 32 6 ls (.ref a :: st) (G, I, J, R) K ↔ G.2.2 a = (0, 2) ∧ tm_A d 32 9 ls (.int (I a 5) :: st) (G, I, J, R) K := tm_getI o32_6
theorem o32_9 : tm_op 32 9 = some (.if_icmp .ge 21, (0, 0, 0, 0)) := rfl
theorem r32_9 (d : Nat) (y x : Int32) (ls : tm_Lo) (st : List Value) (h : tm_H) (K : Option Value → tm_H → Prop) : tm_A d 32 9 ls (.int y :: .int x :: st) h K ↔ if y ≤ x then tm_A d 32 30 ls st h K else tm_A d 32 12 ls st h K := tm_b o32_9 rfl rfl rfl rfl
theorem o32_12 : tm_op 32 12 = some (.aload_n 0, (0, 0, 0, 0)) := rfl
theorem r32_12 (d : Nat) (v : Nat) (l1 l2 : Option Value) (st : List Value) (h : tm_H) (K : Option Value → tm_H → Prop) : tm_A d 32 12 [some (.ref v), l1, l2] st h K ↔ tm_A d 32 13 [some (.ref v), l1, l2] (.ref v :: st) h K := tm_s o32_12 rfl rfl rfl
theorem o32_13 : tm_op 32 13 = some (.iload_n 2, (0, 0, 0, 0)) := rfl
theorem r32_13 (d : Nat) (v : Int32) (l0 l1 : Option Value) (st : List Value) (h : tm_H) (K : Option Value → tm_H → Prop) : tm_A d 32 13 [l0, l1, some (.int v)] st h K ↔ tm_A d 32 14 [l0, l1, some (.int v)] (.int v :: st) h K := tm_s o32_13 rfl rfl rfl
theorem o32_14 : tm_op 32 14 = some (.invokevirtual 80, (2, 31, 2, 2)) := rfl
theorem r32_14 (d : Nat) (v1 : Int32) (a : Nat) (ls : tm_Lo) (st : List Value) (h : tm_H) (K : Option Value → tm_H → Prop) : tm_A (d + 1) 32 14 ls (.int v1 :: .ref a :: st) h K ↔ (h.1.2.2 a = (0, 2) ∧ tm_cs st) ∧ tm_R d 31 [.ref a, .int v1] h (fun r h' => tm_A (d + 1) 32 17 ls (r.toList ++ st) h' K) := tm_callV (as := [.int v1]) o32_14 rfl rfl rfl rfl
theorem o32_17 : tm_op 32 17 = some (.iload_n 2, (0, 0, 0, 0)) := rfl
theorem r32_17 (d : Nat) (v : Int32) (l0 l1 : Option Value) (st : List Value) (h : tm_H) (K : Option Value → tm_H → Prop) : tm_A d 32 17 [l0, l1, some (.int v)] st h K ↔ tm_A d 32 18 [l0, l1, some (.int v)] (.int v :: st) h K := tm_s o32_17 rfl rfl rfl
theorem o32_18 : tm_op 32 18 = some (.if_icmp .ne 6, (0, 0, 0, 0)) := rfl
theorem r32_18 (d : Nat) (y x : Int32) (ls : tm_Lo) (st : List Value) (h : tm_H) (K : Option Value → tm_H → Prop) : tm_A d 32 18 ls (.int y :: .int x :: st) h K ↔ if ¬ x = y then tm_A d 32 24 ls st h K else tm_A d 32 21 ls st h K := tm_b o32_18 rfl rfl rfl rfl
theorem o32_21 : tm_op 32 21 = some (.iinc 1 1, (0, 0, 0, 0)) := rfl
theorem r32_21 (d : Nat) (v : Int32) (l0 l2 : Option Value) (st : List Value) (h : tm_H) (K : Option Value → tm_H → Prop) : tm_A d 32 21 [l0, some (.int v), l2] st h K ↔ tm_A d 32 24 [l0, some (.int (v + (1 : Int32))), l2] st h K := tm_s o32_21 rfl rfl rfl
theorem o32_24 : tm_op 32 24 = some (.iinc 2 1, (0, 0, 0, 0)) := rfl
theorem r32_24 (d : Nat) (v : Int32) (l0 l1 : Option Value) (st : List Value) (h : tm_H) (K : Option Value → tm_H → Prop) : tm_A d 32 24 [l0, l1, some (.int v)] st h K ↔ tm_A d 32 27 [l0, l1, some (.int (v + (1 : Int32)))] st h K := tm_s o32_24 rfl rfl rfl
theorem o32_27 : tm_op 32 27 = some (.goto (-23), (0, 0, 0, 0)) := rfl
theorem r32_27 (d : Nat) (ls : tm_Lo) (st : List Value) (h : tm_H) (K : Option Value → tm_H → Prop) : tm_A d 32 27 ls st h K ↔ tm_A d 32 4 ls st h K := tm_s o32_27 rfl rfl rfl
theorem o32_30 : tm_op 32 30 = some (.iload_n 1, (0, 0, 0, 0)) := rfl
theorem r32_30 (d : Nat) (v : Int32) (l0 l2 : Option Value) (st : List Value) (h : tm_H) (K : Option Value → tm_H → Prop) : tm_A d 32 30 [l0, some (.int v), l2] st h K ↔ tm_A d 32 31 [l0, some (.int v), l2] (.int v :: st) h K := tm_s o32_30 rfl rfl rfl
theorem o32_31 : tm_op 32 31 = some (.ireturn, (0, 0, 0, 0)) := rfl
theorem r32_31 (d : Nat) (v : Int32) (ls : tm_Lo) (h : tm_H) (K : Option Value → tm_H → Prop) : tm_A d 32 31 ls [.int v] h K ↔ K (some (.int v)) h := tm_reti o32_31 rfl
theorem o33_0 : tm_op 33 0 = some (.iconst 0, (0, 0, 0, 0)) := rfl
theorem r33_0 (d : Nat) (ls : tm_Lo) (st : List Value) (h : tm_H) (K : Option Value → tm_H → Prop) : tm_A d 33 0 ls st h K ↔ tm_A d 33 1 ls (.int (0 : Int32) :: st) h K := tm_ic o33_0 (by decide)
theorem o33_1 : tm_op 33 1 = some (.istore_n 2, (0, 0, 0, 0)) := rfl
theorem r33_1 (d : Nat) (v : Int32) (l0 l1 l2 l3 : Option Value) (st : List Value) (h : tm_H) (K : Option Value → tm_H → Prop) : tm_A d 33 1 [l0, l1, l2, l3] (.int v :: st) h K ↔ tm_A d 33 2 [l0, l1, some (.int v), l3] st h K := tm_s o33_1 rfl rfl rfl
theorem o33_2 : tm_op 33 2 = some (.iconst 0, (0, 0, 0, 0)) := rfl
theorem r33_2 (d : Nat) (ls : tm_Lo) (st : List Value) (h : tm_H) (K : Option Value → tm_H → Prop) : tm_A d 33 2 ls st h K ↔ tm_A d 33 3 ls (.int (0 : Int32) :: st) h K := tm_ic o33_2 (by decide)
theorem o33_3 : tm_op 33 3 = some (.istore_n 3, (0, 0, 0, 0)) := rfl
theorem r33_3 (d : Nat) (v : Int32) (l0 l1 l2 l3 : Option Value) (st : List Value) (h : tm_H) (K : Option Value → tm_H → Prop) : tm_A d 33 3 [l0, l1, l2, l3] (.int v :: st) h K ↔ tm_A d 33 4 [l0, l1, l2, some (.int v)] st h K := tm_s o33_3 rfl rfl rfl
theorem o33_4 : tm_op 33 4 = some (.iload_n 3, (0, 0, 0, 0)) := rfl
theorem r33_4 (d : Nat) (v : Int32) (l0 l1 l2 : Option Value) (st : List Value) (h : tm_H) (K : Option Value → tm_H → Prop) : tm_A d 33 4 [l0, l1, l2, some (.int v)] st h K ↔ tm_A d 33 5 [l0, l1, l2, some (.int v)] (.int v :: st) h K := tm_s o33_4 rfl rfl rfl
theorem o33_5 : tm_op 33 5 = some (.aload_n 0, (0, 0, 0, 0)) := rfl
theorem r33_5 (d : Nat) (v : Nat) (l1 l2 l3 : Option Value) (st : List Value) (h : tm_H) (K : Option Value → tm_H → Prop) : tm_A d 33 5 [some (.ref v), l1, l2, l3] st h K ↔ tm_A d 33 6 [some (.ref v), l1, l2, l3] (.ref v :: st) h K := tm_s o33_5 rfl rfl rfl
theorem o33_6 : tm_op 33 6 = some (.getfield 29, (0, 2, 5, 0)) := rfl
theorem r33_6 (d : Nat) (a : Nat) (ls : tm_Lo) (st : List Value) (G : tm_G) (I : Nat → Nat → Int32) (J : Nat → Nat → Int64) (R : Nat → Nat → Option Nat) (K : Option Value → tm_H → Prop) : tm_A d 33 6 ls (.ref a :: st) (G, I, J, R) K ↔ G.2.2 a = (0, 2) ∧ tm_A d 33 9 ls (.int (I a 5) :: st) (G, I, J, R) K := tm_getI o33_6
theorem o33_9 : tm_op 33 9 = some (.if_icmp .ge 21, (0, 0, 0, 0)) := rfl
theorem r33_9 (d : Nat) (y x : Int32) (ls : tm_Lo) (st : List Value) (h : tm_H) (K : Option Value → tm_H → Prop) : tm_A d 33 9 ls (.int y :: .int x :: st) h K ↔ if y ≤ x then tm_A d 33 30 ls st h K else tm_A d 33 12 ls st h K := tm_b o33_9 rfl rfl rfl rfl
theorem o33_12 : tm_op 33 12 = some (.aload_n 0, (0, 0, 0, 0)) := rfl
theorem r33_12 (d : Nat) (v : Nat) (l1 l2 l3 : Option Value) (st : List Value) (h : tm_H) (K : Option Value → tm_H → Prop) : tm_A d 33 12 [some (.ref v), l1, l2, l3] st h K ↔ tm_A d 33 13 [some (.ref v), l1, l2, l3] (.ref v :: st) h K := tm_s o33_12 rfl rfl rfl
theorem o33_13 : tm_op 33 13 = some (.iload_n 3, (0, 0, 0, 0)) := rfl
theorem r33_13 (d : Nat) (v : Int32) (l0 l1 l2 : Option Value) (st : List Value) (h : tm_H) (K : Option Value → tm_H → Prop) : tm_A d 33 13 [l0, l1, l2, some (.int v)] st h K ↔ tm_A d 33 14 [l0, l1, l2, some (.int v)] (.int v :: st) h K := tm_s o33_13 rfl rfl rfl
theorem o33_14 : tm_op 33 14 = some (.invokevirtual 80, (2, 31, 2, 2)) := rfl
theorem r33_14 (d : Nat) (v1 : Int32) (a : Nat) (ls : tm_Lo) (st : List Value) (h : tm_H) (K : Option Value → tm_H → Prop) : tm_A (d + 1) 33 14 ls (.int v1 :: .ref a :: st) h K ↔ (h.1.2.2 a = (0, 2) ∧ tm_cs st) ∧ tm_R d 31 [.ref a, .int v1] h (fun r h' => tm_A (d + 1) 33 17 ls (r.toList ++ st) h' K) := tm_callV (as := [.int v1]) o33_14 rfl rfl rfl rfl
theorem o33_17 : tm_op 33 17 = some (.iload_n 1, (0, 0, 0, 0)) := rfl
theorem r33_17 (d : Nat) (v : Int32) (l0 l2 l3 : Option Value) (st : List Value) (h : tm_H) (K : Option Value → tm_H → Prop) : tm_A d 33 17 [l0, some (.int v), l2, l3] st h K ↔ tm_A d 33 18 [l0, some (.int v), l2, l3] (.int v :: st) h K := tm_s o33_17 rfl rfl rfl
theorem o33_18 : tm_op 33 18 = some (.if_icmp .ne 6, (0, 0, 0, 0)) := rfl
theorem r33_18 (d : Nat) (y x : Int32) (ls : tm_Lo) (st : List Value) (h : tm_H) (K : Option Value → tm_H → Prop) : tm_A d 33 18 ls (.int y :: .int x :: st) h K ↔ if ¬ x = y then tm_A d 33 24 ls st h K else tm_A d 33 21 ls st h K := tm_b o33_18 rfl rfl rfl rfl
theorem o33_21 : tm_op 33 21 = some (.iinc 2 1, (0, 0, 0, 0)) := rfl
theorem r33_21 (d : Nat) (v : Int32) (l0 l1 l3 : Option Value) (st : List Value) (h : tm_H) (K : Option Value → tm_H → Prop) : tm_A d 33 21 [l0, l1, some (.int v), l3] st h K ↔ tm_A d 33 24 [l0, l1, some (.int (v + (1 : Int32))), l3] st h K := tm_s o33_21 rfl rfl rfl
theorem o33_24 : tm_op 33 24 = some (.iinc 3 1, (0, 0, 0, 0)) := rfl
theorem r33_24 (d : Nat) (v : Int32) (l0 l1 l2 : Option Value) (st : List Value) (h : tm_H) (K : Option Value → tm_H → Prop) : tm_A d 33 24 [l0, l1, l2, some (.int v)] st h K ↔ tm_A d 33 27 [l0, l1, l2, some (.int (v + (1 : Int32)))] st h K := tm_s o33_24 rfl rfl rfl
theorem o33_27 : tm_op 33 27 = some (.goto (-23), (0, 0, 0, 0)) := rfl
theorem r33_27 (d : Nat) (ls : tm_Lo) (st : List Value) (h : tm_H) (K : Option Value → tm_H → Prop) : tm_A d 33 27 ls st h K ↔ tm_A d 33 4 ls st h K := tm_s o33_27 rfl rfl rfl
theorem o33_30 : tm_op 33 30 = some (.iload_n 2, (0, 0, 0, 0)) := rfl
theorem r33_30 (d : Nat) (v : Int32) (l0 l1 l3 : Option Value) (st : List Value) (h : tm_H) (K : Option Value → tm_H → Prop) : tm_A d 33 30 [l0, l1, some (.int v), l3] st h K ↔ tm_A d 33 31 [l0, l1, some (.int v), l3] (.int v :: st) h K := tm_s o33_30 rfl rfl rfl
theorem o33_31 : tm_op 33 31 = some (.ireturn, (0, 0, 0, 0)) := rfl
theorem r33_31 (d : Nat) (v : Int32) (ls : tm_Lo) (h : tm_H) (K : Option Value → tm_H → Prop) : tm_A d 33 31 ls [.int v] h K ↔ K (some (.int v)) h := tm_reti o33_31 rfl
