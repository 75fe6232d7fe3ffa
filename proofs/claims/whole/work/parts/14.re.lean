theorem o146_0 : tm_op 146 0 = some (.aload_n 0, (0, 0, 0, 0)) := rfl
theorem r146_0 (d : Nat) (v : Nat) (l1 l2 l3 : Option Value) (st : List Value) (h : tm_H) (K : Option Value → tm_H → Prop) : tm_A d 146 0 [some (.ref v), l1, l2, l3] st h K ↔ tm_A d 146 1 [some (.ref v), l1, l2, l3] (.ref v :: st) h K := tm_s o146_0 rfl rfl rfl
theorem o146_1 : tm_op 146 1 = some (.iload_n 1, (0, 0, 0, 0)) := rfl
theorem r146_1 (d : Nat) (v : Int32) (l0 l2 l3 : Option Value) (st : List Value) (h : tm_H) (K : Option Value → tm_H → Prop) : tm_A d 146 1 [l0, some (.int v), l2, l3] st h K ↔ tm_A d 146 2 [l0, some (.int v), l2, l3] (.int v :: st) h K := tm_s o146_1 rfl rfl rfl
theorem o146_2 : tm_op 146 2 = some (.invokevirtual 153, (2, 134, 2, 10)) := rfl
theorem r146_2 (d : Nat) (v1 : Int32) (a : Nat) (ls : tm_Lo) (st : List Value) (h : tm_H) (K : Option Value → tm_H → Prop) : tm_A (d + 1) 146 2 ls (.int v1 :: .ref a :: st) h K ↔ (h.1.2.2 a = (0, 10) ∧ tm_cs st) ∧ tm_R d 134 [.ref a, .int v1] h (fun r h' => tm_A (d + 1) 146 5 ls (r.toList ++ st) h' K) := tm_callV (as := [.int v1]) o146_2 rfl rfl rfl rfl
theorem o146_5 : tm_op 146 5 = some (.ifCond .eq 25, (0, 0, 0, 0)) := rfl
theorem r146_5 (d : Nat) (x : Int32) (ls : tm_Lo) (st : List Value) (h : tm_H) (K : Option Value → tm_H → Prop) : tm_A d 146 5 ls (.int x :: st) h K ↔ if x = 0 then tm_A d 146 30 ls st h K else tm_A d 146 8 ls st h K := tm_b o146_5 rfl rfl rfl rfl
theorem o146_8 : tm_op 146 8 = some (.aload_n 0, (0, 0, 0, 0)) := rfl
theorem r146_8 (d : Nat) (v : Nat) (l1 l2 l3 : Option Value) (st : List Value) (h : tm_H) (K : Option Value → tm_H → Prop) : tm_A d 146 8 [some (.ref v), l1, l2, l3] st h K ↔ tm_A d 146 9 [some (.ref v), l1, l2, l3] (.ref v :: st) h K := tm_s o146_8 rfl rfl rfl
theorem o146_9 : tm_op 146 9 = some (.iload_n 2, (0, 0, 0, 0)) := rfl
theorem r146_9 (d : Nat) (v : Int32) (l0 l1 l3 : Option Value) (st : List Value) (h : tm_H) (K : Option Value → tm_H → Prop) : tm_A d 146 9 [l0, l1, some (.int v), l3] st h K ↔ tm_A d 146 10 [l0, l1, some (.int v), l3] (.int v :: st) h K := tm_s o146_9 rfl rfl rfl
theorem o146_10 : tm_op 146 10 = some (.invokevirtual 153, (2, 134, 2, 10)) := rfl
theorem r146_10 (d : Nat) (v1 : Int32) (a : Nat) (ls : tm_Lo) (st : List Value) (h : tm_H) (K : Option Value → tm_H → Prop) : tm_A (d + 1) 146 10 ls (.int v1 :: .ref a :: st) h K ↔ (h.1.2.2 a = (0, 10) ∧ tm_cs st) ∧ tm_R d 134 [.ref a, .int v1] h (fun r h' => tm_A (d + 1) 146 13 ls (r.toList ++ st) h' K) := tm_callV (as := [.int v1]) o146_10 rfl rfl rfl rfl
theorem o146_13 : tm_op 146 13 = some (.ifCond .eq 17, (0, 0, 0, 0)) := rfl
theorem r146_13 (d : Nat) (x : Int32) (ls : tm_Lo) (st : List Value) (h : tm_H) (K : Option Value → tm_H → Prop) : tm_A d 146 13 ls (.int x :: st) h K ↔ if x = 0 then tm_A d 146 30 ls st h K else tm_A d 146 16 ls st h K := tm_b o146_13 rfl rfl rfl rfl
theorem o146_16 : tm_op 146 16 = some (.iload_n 1, (0, 0, 0, 0)) := rfl
theorem r146_16 (d : Nat) (v : Int32) (l0 l2 l3 : Option Value) (st : List Value) (h : tm_H) (K : Option Value → tm_H → Prop) : tm_A d 146 16 [l0, some (.int v), l2, l3] st h K ↔ tm_A d 146 17 [l0, some (.int v), l2, l3] (.int v :: st) h K := tm_s o146_16 rfl rfl rfl
theorem o146_17 : tm_op 146 17 = some (.iload_n 2, (0, 0, 0, 0)) := rfl
theorem r146_17 (d : Nat) (v : Int32) (l0 l1 l3 : Option Value) (st : List Value) (h : tm_H) (K : Option Value → tm_H → Prop) : tm_A d 146 17 [l0, l1, some (.int v), l3] st h K ↔ tm_A d 146 18 [l0, l1, some (.int v), l3] (.int v :: st) h K := tm_s o146_17 rfl rfl rfl
theorem o146_18 : tm_op 146 18 = some (.if_icmp .eq 12, (0, 0, 0, 0)) := rfl
theorem r146_18 (d : Nat) (y x : Int32) (ls : tm_Lo) (st : List Value) (h : tm_H) (K : Option Value → tm_H → Prop) : tm_A d 146 18 ls (.int y :: .int x :: st) h K ↔ if x = y then tm_A d 146 30 ls st h K else tm_A d 146 21 ls st h K := tm_b o146_18 rfl rfl rfl rfl
theorem o146_21 : tm_op 146 21 = some (.iload_n 3, (0, 0, 0, 0)) := rfl
theorem r146_21 (d : Nat) (v : Int32) (l0 l1 l2 : Option Value) (st : List Value) (h : tm_H) (K : Option Value → tm_H → Prop) : tm_A d 146 21 [l0, l1, l2, some (.int v)] st h K ↔ tm_A d 146 22 [l0, l1, l2, some (.int v)] (.int v :: st) h K := tm_s o146_21 rfl rfl rfl
theorem o146_22 : tm_op 146 22 = some (.iconst 0, (0, 0, 0, 0)) := rfl
theorem r146_22 (d : Nat) (ls : tm_Lo) (st : List Value) (h : tm_H) (K : Option Value → tm_H → Prop) : tm_A d 146 22 ls st h K ↔ tm_A d 146 23 ls (.int (0 : Int32) :: st) h K := tm_ic o146_22 (by decide)
theorem o146_23 : tm_op 146 23 = some (.iconst 2, (0, 0, 0, 0)) := rfl
theorem r146_23 (d : Nat) (ls : tm_Lo) (st : List Value) (h : tm_H) (K : Option Value → tm_H → Prop) : tm_A d 146 23 ls st h K ↔ tm_A d 146 24 ls (.int (2 : Int32) :: st) h K := tm_ic o146_23 (by decide)
theorem o146_24 : tm_op 146 24 = some (.invokestatic 83, (1, 117, 3, 0)) := rfl
theorem r146_24 (d : Nat) (v0 : Int32) (v1 : Int32) (v2 : Int32) (ls : tm_Lo) (st : List Value) (h : tm_H) (K : Option Value → tm_H → Prop) : tm_A (d + 1) 146 24 ls (.int v2 :: .int v1 :: .int v0 :: st) h K ↔ tm_cs st ∧ tm_R d 117 [.int v0, .int v1, .int v2] h (fun r h' => tm_A (d + 1) 146 27 ls (r.toList ++ st) h' K) := tm_callS (as := [.int v0, .int v1, .int v2]) o146_24 rfl rfl rfl rfl
theorem o146_27 : tm_op 146 27 = some (.ifCond .ne 5, (0, 0, 0, 0)) := rfl
theorem r146_27 (d : Nat) (x : Int32) (ls : tm_Lo) (st : List Value) (h : tm_H) (K : Option Value → tm_H → Prop) : tm_A d 146 27 ls (.int x :: st) h K ↔ if ¬ x = 0 then tm_A d 146 32 ls st h K else tm_A d 146 30 ls st h K := tm_b o146_27 rfl rfl rfl rfl
theorem o146_30 : tm_op 146 30 = some (.iconst 0, (0, 0, 0, 0)) := rfl
theorem r146_30 (d : Nat) (ls : tm_Lo) (st : List Value) (h : tm_H) (K : Option Value → tm_H → Prop) : tm_A d 146 30 ls st h K ↔ tm_A d 146 31 ls (.int (0 : Int32) :: st) h K := tm_ic o146_30 (by decide)
theorem o146_31 : tm_op 146 31 = some (.ireturn, (0, 0, 0, 0)) := rfl
theorem r146_31 (d : Nat) (v : Int32) (ls : tm_Lo) (h : tm_H) (K : Option Value → tm_H → Prop) : tm_A d 146 31 ls [.int v] h K ↔ (v = 0 ∨ v = 1) ∧ K (some (.int v)) h := tm_retz o146_31 rfl
theorem o146_32 : tm_op 146 32 = some (.aload_n 0, (0, 0, 0, 0)) := rfl
theorem r146_32 (d : Nat) (v : Nat) (l1 l2 l3 : Option Value) (st : List Value) (h : tm_H) (K : Option Value → tm_H → Prop) : tm_A d 146 32 [some (.ref v), l1, l2, l3] st h K ↔ tm_A d 146 33 [some (.ref v), l1, l2, l3] (.ref v :: st) h K := tm_s o146_32 rfl rfl rfl
theorem o146_33 : tm_op 146 33 = some (.getfield 65, (2, 10, 28, 0)) := rfl
theorem r146_33 (d : Nat) (a : Nat) (ls : tm_Lo) (st : List Value) (G : tm_G) (I : Nat → Nat → Int32) (J : Nat → Nat → Int64) (R : Nat → Nat → Option Nat) (K : Option Value → tm_H → Prop) : tm_A d 146 33 ls (.ref a :: st) (G, I, J, R) K ↔ G.2.2 a = (0, 10) ∧ tm_A d 146 36 ls (tm_rf (R a 28) :: st) (G, I, J, R) K := tm_getR o146_33
theorem o146_36 : tm_op 146 36 = some (.bipush 10, (0, 0, 0, 0)) := rfl
theorem r146_36 (d : Nat) (ls : tm_Lo) (st : List Value) (h : tm_H) (K : Option Value → tm_H → Prop) : tm_A d 146 36 ls st h K ↔ tm_A d 146 38 ls (.int (10 : Int32) :: st) h K := tm_bp o146_36 (by decide)
theorem o146_38 : tm_op 146 38 = some (.iload_n 1, (0, 0, 0, 0)) := rfl
theorem r146_38 (d : Nat) (v : Int32) (l0 l2 l3 : Option Value) (st : List Value) (h : tm_H) (K : Option Value → tm_H → Prop) : tm_A d 146 38 [l0, some (.int v), l2, l3] st h K ↔ tm_A d 146 39 [l0, some (.int v), l2, l3] (.int v :: st) h K := tm_s o146_38 rfl rfl rfl
theorem o146_39 : tm_op 146 39 = some (.imul, (0, 0, 0, 0)) := rfl
theorem r146_39 (d : Nat) (u v : Int32) (ls : tm_Lo) (st : List Value) (h : tm_H) (K : Option Value → tm_H → Prop) : tm_A d 146 39 ls (.int u :: .int v :: st) h K ↔ tm_A d 146 40 ls (.int (v * u) :: st) h K := tm_s o146_39 rfl rfl rfl
theorem o146_40 : tm_op 146 40 = some (.iload_n 2, (0, 0, 0, 0)) := rfl
theorem r146_40 (d : Nat) (v : Int32) (l0 l1 l3 : Option Value) (st : List Value) (h : tm_H) (K : Option Value → tm_H → Prop) : tm_A d 146 40 [l0, l1, some (.int v), l3] st h K ↔ tm_A d 146 41 [l0, l1, some (.int v), l3] (.int v :: st) h K := tm_s o146_40 rfl rfl rfl
theorem o146_41 : tm_op 146 41 = some (.iadd, (0, 0, 0, 0)) := rfl
theorem r146_41 (d : Nat) (u v : Int32) (ls : tm_Lo) (st : List Value) (h : tm_H) (K : Option Value → tm_H → Prop) : tm_A d 146 41 ls (.int u :: .int v :: st) h K ↔ tm_A d 146 42 ls (.int (v + u) :: st) h K := tm_s o146_41 rfl rfl rfl
theorem o146_42 : tm_op 146 42 = some (.iload_n 3, (0, 0, 0, 0)) := rfl
theorem r146_42 (d : Nat) (v : Int32) (l0 l1 l2 : Option Value) (st : List Value) (h : tm_H) (K : Option Value → tm_H → Prop) : tm_A d 146 42 [l0, l1, l2, some (.int v)] st h K ↔ tm_A d 146 43 [l0, l1, l2, some (.int v)] (.int v :: st) h K := tm_s o146_42 rfl rfl rfl
theorem o146_43 : tm_op 146 43 = some (.iastore, (0, 0, 0, 0)) := rfl
theorem r146_43 (d : Nat) (u v : Int32) (a : Nat) (ls : tm_Lo) (st : List Value) (G : tm_G) (I : Nat → Nat → Int32) (J : Nat → Nat → Int64) (R : Nat → Nat → Option Nat) (K : Option Value → tm_H → Prop) : tm_A d 146 43 ls (.int u :: .int v :: .ref a :: st) (G, I, J, R) K ↔ (3 ≤ a ∧ (G.2.2 a).1 = 1 ∧ tm_in v (G.2.2 a).2) ∧ tm_A d 146 44 ls st (G, up2 I a (tm_ix v) u, J, R) K := tm_iast o146_43
theorem o146_44 : tm_op 146 44 = some (.aload_n 0, (0, 0, 0, 0)) := rfl
theorem r146_44 (d : Nat) (v : Nat) (l1 l2 l3 : Option Value) (st : List Value) (h : tm_H) (K : Option Value → tm_H → Prop) : tm_A d 146 44 [some (.ref v), l1, l2, l3] st h K ↔ tm_A d 146 45 [some (.ref v), l1, l2, l3] (.ref v :: st) h K := tm_s o146_44 rfl rfl rfl
theorem o146_45 : tm_op 146 45 = some (.getfield 65, (2, 10, 28, 0)) := rfl
theorem r146_45 (d : Nat) (a : Nat) (ls : tm_Lo) (st : List Value) (G : tm_G) (I : Nat → Nat → Int32) (J : Nat → Nat → Int64) (R : Nat → Nat → Option Nat) (K : Option Value → tm_H → Prop) : tm_A d 146 45 ls (.ref a :: st) (G, I, J, R) K ↔ G.2.2 a = (0, 10) ∧ tm_A d 146 48 ls (tm_rf (R a 28) :: st) (G, I, J, R) K := tm_getR o146_45
theorem o146_48 : tm_op 146 48 = some (.bipush 10, (0, 0, 0, 0)) := rfl
theorem r146_48 (d : Nat) (ls : tm_Lo) (st : List Value) (h : tm_H) (K : Option Value → tm_H → Prop) : tm_A d 146 48 ls st h K ↔ tm_A d 146 50 ls (.int (10 : Int32) :: st) h K := tm_bp o146_48 (by decide)
theorem o146_50 : tm_op 146 50 = some (.iload_n 2, (0, 0, 0, 0)) := rfl
theorem r146_50 (d : Nat) (v : Int32) (l0 l1 l3 : Option Value) (st : List Value) (h : tm_H) (K : Option Value → tm_H → Prop) : tm_A d 146 50 [l0, l1, some (.int v), l3] st h K ↔ tm_A d 146 51 [l0, l1, some (.int v), l3] (.int v :: st) h K := tm_s o146_50 rfl rfl rfl
theorem o146_51 : tm_op 146 51 = some (.imul, (0, 0, 0, 0)) := rfl
theorem r146_51 (d : Nat) (u v : Int32) (ls : tm_Lo) (st : List Value) (h : tm_H) (K : Option Value → tm_H → Prop) : tm_A d 146 51 ls (.int u :: .int v :: st) h K ↔ tm_A d 146 52 ls (.int (v * u) :: st) h K := tm_s o146_51 rfl rfl rfl
theorem o146_52 : tm_op 146 52 = some (.iload_n 1, (0, 0, 0, 0)) := rfl
theorem r146_52 (d : Nat) (v : Int32) (l0 l2 l3 : Option Value) (st : List Value) (h : tm_H) (K : Option Value → tm_H → Prop) : tm_A d 146 52 [l0, some (.int v), l2, l3] st h K ↔ tm_A d 146 53 [l0, some (.int v), l2, l3] (.int v :: st) h K := tm_s o146_52 rfl rfl rfl
theorem o146_53 : tm_op 146 53 = some (.iadd, (0, 0, 0, 0)) := rfl
theorem r146_53 (d : Nat) (u v : Int32) (ls : tm_Lo) (st : List Value) (h : tm_H) (K : Option Value → tm_H → Prop) : tm_A d 146 53 ls (.int u :: .int v :: st) h K ↔ tm_A d 146 54 ls (.int (v + u) :: st) h K := tm_s o146_53 rfl rfl rfl
theorem o146_54 : tm_op 146 54 = some (.iload_n 3, (0, 0, 0, 0)) := rfl
theorem r146_54 (d : Nat) (v : Int32) (l0 l1 l2 : Option Value) (st : List Value) (h : tm_H) (K : Option Value → tm_H → Prop) : tm_A d 146 54 [l0, l1, l2, some (.int v)] st h K ↔ tm_A d 146 55 [l0, l1, l2, some (.int v)] (.int v :: st) h K := tm_s o146_54 rfl rfl rfl
theorem o146_55 : tm_op 146 55 = some (.iastore, (0, 0, 0, 0)) := rfl
theorem r146_55 (d : Nat) (u v : Int32) (a : Nat) (ls : tm_Lo) (st : List Value) (G : tm_G) (I : Nat → Nat → Int32) (J : Nat → Nat → Int64) (R : Nat → Nat → Option Nat) (K : Option Value → tm_H → Prop) : tm_A d 146 55 ls (.int u :: .int v :: .ref a :: st) (G, I, J, R) K ↔ (3 ≤ a ∧ (G.2.2 a).1 = 1 ∧ tm_in v (G.2.2 a).2) ∧ tm_A d 146 56 ls st (G, up2 I a (tm_ix v) u, J, R) K := tm_iast o146_55
theorem o146_56 : tm_op 146 56 = some (.iconst 1, (0, 0, 0, 0)) := rfl
theorem r146_56 (d : Nat) (ls : tm_Lo) (st : List Value) (h : tm_H) (K : Option Value → tm_H → Prop) : tm_A d 146 56 ls st h K ↔ tm_A d 146 57 ls (.int (1 : Int32) :: st) h K := tm_ic o146_56 (by decide)
theorem o146_57 : tm_op 146 57 = some (.ireturn, (0, 0, 0, 0)) := rfl
theorem r146_57 (d : Nat) (v : Int32) (ls : tm_Lo) (h : tm_H) (K : Option Value → tm_H → Prop) : tm_A d 146 57 ls [.int v] h K ↔ (v = 0 ∨ v = 1) ∧ K (some (.int v)) h := tm_retz o146_57 rfl
theorem o147_0 : tm_op 147 0 = some (.iload_n 1, (0, 0, 0, 0)) := rfl
theorem r147_0 (d : Nat) (v : Int32) (l0 : Option Value) (st : List Value) (h : tm_H) (K : Option Value → tm_H → Prop) : tm_A d 147 0 [l0, some (.int v)] st h K ↔ tm_A d 147 1 [l0, some (.int v)] (.int v :: st) h K := tm_s o147_0 rfl rfl rfl
theorem o147_1 : tm_op 147 1 = some (.iconst 0, (0, 0, 0, 0)) := rfl
theorem r147_1 (d : Nat) (ls : tm_Lo) (st : List Value) (h : tm_H) (K : Option Value → tm_H → Prop) : tm_A d 147 1 ls st h K ↔ tm_A d 147 2 ls (.int (0 : Int32) :: st) h K := tm_ic o147_1 (by decide)
theorem o147_2 : tm_op 147 2 = some (.bipush 100, (0, 0, 0, 0)) := rfl
theorem r147_2 (d : Nat) (ls : tm_Lo) (st : List Value) (h : tm_H) (K : Option Value → tm_H → Prop) : tm_A d 147 2 ls st h K ↔ tm_A d 147 4 ls (.int (100 : Int32) :: st) h K := tm_bp o147_2 (by decide)
theorem o147_4 : tm_op 147 4 = some (.invokestatic 83, (1, 117, 3, 0)) := rfl
theorem r147_4 (d : Nat) (v0 : Int32) (v1 : Int32) (v2 : Int32) (ls : tm_Lo) (st : List Value) (h : tm_H) (K : Option Value → tm_H → Prop) : tm_A (d + 1) 147 4 ls (.int v2 :: .int v1 :: .int v0 :: st) h K ↔ tm_cs st ∧ tm_R d 117 [.int v0, .int v1, .int v2] h (fun r h' => tm_A (d + 1) 147 7 ls (r.toList ++ st) h' K) := tm_callS (as := [.int v0, .int v1, .int v2]) o147_4 rfl rfl rfl rfl
theorem o147_7 : tm_op 147 7 = some (.ifCond .ne 5, (0, 0, 0, 0)) := rfl
theorem r147_7 (d : Nat) (x : Int32) (ls : tm_Lo) (st : List Value) (h : tm_H) (K : Option Value → tm_H → Prop) : tm_A d 147 7 ls (.int x :: st) h K ↔ if ¬ x = 0 then tm_A d 147 12 ls st h K else tm_A d 147 10 ls st h K := tm_b o147_7 rfl rfl rfl rfl
theorem o147_10 : tm_op 147 10 = some (.iconst 0, (0, 0, 0, 0)) := rfl
theorem r147_10 (d : Nat) (ls : tm_Lo) (st : List Value) (h : tm_H) (K : Option Value → tm_H → Prop) : tm_A d 147 10 ls st h K ↔ tm_A d 147 11 ls (.int (0 : Int32) :: st) h K := tm_ic o147_10 (by decide)
theorem o147_11 : tm_op 147 11 = some (.ireturn, (0, 0, 0, 0)) := rfl
theorem r147_11 (d : Nat) (v : Int32) (ls : tm_Lo) (h : tm_H) (K : Option Value → tm_H → Prop) : tm_A d 147 11 ls [.int v] h K ↔ (v = 0 ∨ v = 1) ∧ K (some (.int v)) h := tm_retz o147_11 rfl
theorem o147_12 : tm_op 147 12 = some (.aload_n 0, (0, 0, 0, 0)) := rfl
theorem r147_12 (d : Nat) (v : Nat) (l1 : Option Value) (st : List Value) (h : tm_H) (K : Option Value → tm_H → Prop) : tm_A d 147 12 [some (.ref v), l1] st h K ↔ tm_A d 147 13 [some (.ref v), l1] (.ref v :: st) h K := tm_s o147_12 rfl rfl rfl
theorem o147_13 : tm_op 147 13 = some (.iload_n 1, (0, 0, 0, 0)) := rfl
theorem r147_13 (d : Nat) (v : Int32) (l0 : Option Value) (st : List Value) (h : tm_H) (K : Option Value → tm_H → Prop) : tm_A d 147 13 [l0, some (.int v)] st h K ↔ tm_A d 147 14 [l0, some (.int v)] (.int v :: st) h K := tm_s o147_13 rfl rfl rfl
theorem o147_14 : tm_op 147 14 = some (.putfield 9, (0, 10, 3, 0)) := rfl
theorem r147_14 (d : Nat) (v : Int32) (a : Nat) (ls : tm_Lo) (st : List Value) (G : tm_G) (I : Nat → Nat → Int32) (J : Nat → Nat → Int64) (R : Nat → Nat → Option Nat) (K : Option Value → tm_H → Prop) : tm_A d 147 14 ls (.int v :: .ref a :: st) (G, I, J, R) K ↔ G.2.2 a = (0, 10) ∧ tm_A d 147 17 ls st (G, up2 I a 3 v, J, R) K := tm_putI o147_14
theorem o147_17 : tm_op 147 17 = some (.iconst 1, (0, 0, 0, 0)) := rfl
theorem r147_17 (d : Nat) (ls : tm_Lo) (st : List Value) (h : tm_H) (K : Option Value → tm_H → Prop) : tm_A d 147 17 ls st h K ↔ tm_A d 147 18 ls (.int (1 : Int32) :: st) h K := tm_ic o147_17 (by decide)
theorem o147_18 : tm_op 147 18 = some (.ireturn, (0, 0, 0, 0)) := rfl
theorem r147_18 (d : Nat) (v : Int32) (ls : tm_Lo) (h : tm_H) (K : Option Value → tm_H → Prop) : tm_A d 147 18 ls [.int v] h K ↔ (v = 0 ∨ v = 1) ∧ K (some (.int v)) h := tm_retz o147_18 rfl
theorem o148_0 : tm_op 148 0 = some (.iload_n 1, (0, 0, 0, 0)) := rfl
theorem r148_0 (d : Nat) (v : Int32) (l0 : Option Value) (st : List Value) (h : tm_H) (K : Option Value → tm_H → Prop) : tm_A d 148 0 [l0, some (.int v)] st h K ↔ tm_A d 148 1 [l0, some (.int v)] (.int v :: st) h K := tm_s o148_0 rfl rfl rfl
theorem o148_1 : tm_op 148 1 = some (.iconst 0, (0, 0, 0, 0)) := rfl
theorem r148_1 (d : Nat) (ls : tm_Lo) (st : List Value) (h : tm_H) (K : Option Value → tm_H → Prop) : tm_A d 148 1 ls st h K ↔ tm_A d 148 2 ls (.int (0 : Int32) :: st) h K := tm_ic o148_1 (by decide)
theorem o148_2 : tm_op 148 2 = some (.bipush 50, (0, 0, 0, 0)) := rfl
theorem r148_2 (d : Nat) (ls : tm_Lo) (st : List Value) (h : tm_H) (K : Option Value → tm_H → Prop) : tm_A d 148 2 ls st h K ↔ tm_A d 148 4 ls (.int (50 : Int32) :: st) h K := tm_bp o148_2 (by decide)
theorem o148_4 : tm_op 148 4 = some (.invokestatic 83, (1, 117, 3, 0)) := rfl
theorem r148_4 (d : Nat) (v0 : Int32) (v1 : Int32) (v2 : Int32) (ls : tm_Lo) (st : List Value) (h : tm_H) (K : Option Value → tm_H → Prop) : tm_A (d + 1) 148 4 ls (.int v2 :: .int v1 :: .int v0 :: st) h K ↔ tm_cs st ∧ tm_R d 117 [.int v0, .int v1, .int v2] h (fun r h' => tm_A (d + 1) 148 7 ls (r.toList ++ st) h' K) := tm_callS (as := [.int v0, .int v1, .int v2]) o148_4 rfl rfl rfl rfl
theorem o148_7 : tm_op 148 7 = some (.ifCond .ne 5, (0, 0, 0, 0)) := rfl
theorem r148_7 (d : Nat) (x : Int32) (ls : tm_Lo) (st : List Value) (h : tm_H) (K : Option Value → tm_H → Prop) : tm_A d 148 7 ls (.int x :: st) h K ↔ if ¬ x = 0 then tm_A d 148 12 ls st h K else tm_A d 148 10 ls st h K := tm_b o148_7 rfl rfl rfl rfl
theorem o148_10 : tm_op 148 10 = some (.iconst 0, (0, 0, 0, 0)) := rfl
theorem r148_10 (d : Nat) (ls : tm_Lo) (st : List Value) (h : tm_H) (K : Option Value → tm_H → Prop) : tm_A d 148 10 ls st h K ↔ tm_A d 148 11 ls (.int (0 : Int32) :: st) h K := tm_ic o148_10 (by decide)
theorem o148_11 : tm_op 148 11 = some (.ireturn, (0, 0, 0, 0)) := rfl
theorem r148_11 (d : Nat) (v : Int32) (ls : tm_Lo) (h : tm_H) (K : Option Value → tm_H → Prop) : tm_A d 148 11 ls [.int v] h K ↔ (v = 0 ∨ v = 1) ∧ K (some (.int v)) h := tm_retz o148_11 rfl
theorem o148_12 : tm_op 148 12 = some (.aload_n 0, (0, 0, 0, 0)) := rfl
theorem r148_12 (d : Nat) (v : Nat) (l1 : Option Value) (st : List Value) (h : tm_H) (K : Option Value → tm_H → Prop) : tm_A d 148 12 [some (.ref v), l1] st h K ↔ tm_A d 148 13 [some (.ref v), l1] (.ref v :: st) h K := tm_s o148_12 rfl rfl rfl
theorem o148_13 : tm_op 148 13 = some (.iload_n 1, (0, 0, 0, 0)) := rfl
theorem r148_13 (d : Nat) (v : Int32) (l0 : Option Value) (st : List Value) (h : tm_H) (K : Option Value → tm_H → Prop) : tm_A d 148 13 [l0, some (.int v)] st h K ↔ tm_A d 148 14 [l0, some (.int v)] (.int v :: st) h K := tm_s o148_13 rfl rfl rfl
theorem o148_14 : tm_op 148 14 = some (.putfield 13, (0, 10, 4, 0)) := rfl
theorem r148_14 (d : Nat) (v : Int32) (a : Nat) (ls : tm_Lo) (st : List Value) (G : tm_G) (I : Nat → Nat → Int32) (J : Nat → Nat → Int64) (R : Nat → Nat → Option Nat) (K : Option Value → tm_H → Prop) : tm_A d 148 14 ls (.int v :: .ref a :: st) (G, I, J, R) K ↔ G.2.2 a = (0, 10) ∧ tm_A d 148 17 ls st (G, up2 I a 4 v, J, R) K := tm_putI o148_14
theorem o148_17 : tm_op 148 17 = some (.iconst 1, (0, 0, 0, 0)) := rfl
theorem r148_17 (d : Nat) (ls : tm_Lo) (st : List Value) (h : tm_H) (K : Option Value → tm_H → Prop) : tm_A d 148 17 ls st h K ↔ tm_A d 148 18 ls (.int (1 : Int32) :: st) h K := tm_ic o148_17 (by decide)
theorem o148_18 : tm_op 148 18 = some (.ireturn, (0, 0, 0, 0)) := rfl
theorem r148_18 (d : Nat) (v : Int32) (ls : tm_Lo) (h : tm_H) (K : Option Value → tm_H → Prop) : tm_A d 148 18 ls [.int v] h K ↔ (v = 0 ∨ v = 1) ∧ K (some (.int v)) h := tm_retz o148_18 rfl
theorem o149_0 : tm_op 149 0 = some (.aload_n 0, (0, 0, 0, 0)) := rfl
theorem r149_0 (d : Nat) (v : Nat) (l1 l2 l3 l4 l5 l6 : Option Value) (st : List Value) (h : tm_H) (K : Option Value → tm_H → Prop) : tm_A d 149 0 [some (.ref v), l1, l2, l3, l4, l5, l6] st h K ↔ tm_A d 149 1 [some (.ref v), l1, l2, l3, l4, l5, l6] (.ref v :: st) h K := tm_s o149_0 rfl rfl rfl
theorem o149_1 : tm_op 149 1 = some (.getfield 53, (2, 10, 23, 0)) := rfl
theorem r149_1 (d : Nat) (a : Nat) (ls : tm_Lo) (st : List Value) (G : tm_G) (I : Nat → Nat → Int32) (J : Nat → Nat → Int64) (R : Nat → Nat → Option Nat) (K : Option Value → tm_H → Prop) : tm_A d 149 1 ls (.ref a :: st) (G, I, J, R) K ↔ G.2.2 a = (0, 10) ∧ tm_A d 149 4 ls (tm_rf (R a 23) :: st) (G, I, J, R) K := tm_getR o149_1
theorem o149_4 : tm_op 149 4 = some (.iconst 3, (0, 0, 0, 0)) := rfl
theorem r149_4 (d : Nat) (ls : tm_Lo) (st : List Value) (h : tm_H) (K : Option Value → tm_H → Prop) : tm_A d 149 4 ls st h K ↔ tm_A d 149 5 ls (.int (3 : Int32) :: st) h K := tm_ic o149_4 (by decide)
theorem o149_5 : tm_op 149 5 = some (.iload_n 1, (0, 0, 0, 0)) := rfl
theorem r149_5 (d : Nat) (v : Int32) (l0 l2 l3 l4 l5 l6 : Option Value) (st : List Value) (h : tm_H) (K : Option Value → tm_H → Prop) : tm_A d 149 5 [l0, some (.int v), l2, l3, l4, l5, l6] st h K ↔ tm_A d 149 6 [l0, some (.int v), l2, l3, l4, l5, l6] (.int v :: st) h K := tm_s o149_5 rfl rfl rfl
theorem o149_6 : tm_op 149 6 = some (.imul, (0, 0, 0, 0)) := rfl
theorem r149_6 (d : Nat) (u v : Int32) (ls : tm_Lo) (st : List Value) (h : tm_H) (K : Option Value → tm_H → Prop) : tm_A d 149 6 ls (.int u :: .int v :: st) h K ↔ tm_A d 149 7 ls (.int (v * u) :: st) h K := tm_s o149_6 rfl rfl rfl
theorem o149_7 : tm_op 149 7 = some (.iload_n 2, (0, 0, 0, 0)) := rfl
theorem r149_7 (d : Nat) (v : Int32) (l0 l1 l3 l4 l5 l6 : Option Value) (st : List Value) (h : tm_H) (K : Option Value → tm_H → Prop) : tm_A d 149 7 [l0, l1, some (.int v), l3, l4, l5, l6] st h K ↔ tm_A d 149 8 [l0, l1, some (.int v), l3, l4, l5, l6] (.int v :: st) h K := tm_s o149_7 rfl rfl rfl
theorem o149_8 : tm_op 149 8 = some (.iadd, (0, 0, 0, 0)) := rfl
theorem r149_8 (d : Nat) (u v : Int32) (ls : tm_Lo) (st : List Value) (h : tm_H) (K : Option Value → tm_H → Prop) : tm_A d 149 8 ls (.int u :: .int v :: st) h K ↔ tm_A d 149 9 ls (.int (v + u) :: st) h K := tm_s o149_8 rfl rfl rfl
theorem o149_9 : tm_op 149 9 = some (.iaload, (0, 0, 0, 0)) := rfl
theorem r149_9 (d : Nat) (v : Int32) (a : Nat) (ls : tm_Lo) (st : List Value) (G : tm_G) (I : Nat → Nat → Int32) (J : Nat → Nat → Int64) (R : Nat → Nat → Option Nat) (K : Option Value → tm_H → Prop) : tm_A d 149 9 ls (.int v :: .ref a :: st) (G, I, J, R) K ↔ ((G.2.2 a).1 = 1 ∧ tm_in v (G.2.2 a).2) ∧ tm_A d 149 10 ls (.int (I a (tm_ix v)) :: st) (G, I, J, R) K := tm_iald o149_9
theorem o149_10 : tm_op 149 10 = some (.istore 5, (0, 0, 0, 0)) := rfl
theorem r149_10 (d : Nat) (v : Int32) (l0 l1 l2 l3 l4 l5 l6 : Option Value) (st : List Value) (h : tm_H) (K : Option Value → tm_H → Prop) : tm_A d 149 10 [l0, l1, l2, l3, l4, l5, l6] (.int v :: st) h K ↔ tm_A d 149 12 [l0, l1, l2, l3, l4, some (.int v), l6] st h K := tm_s o149_10 rfl rfl rfl
theorem o149_12 : tm_op 149 12 = some (.iload 5, (0, 0, 0, 0)) := rfl
theorem r149_12 (d : Nat) (v : Int32) (l0 l1 l2 l3 l4 l6 : Option Value) (st : List Value) (h : tm_H) (K : Option Value → tm_H → Prop) : tm_A d 149 12 [l0, l1, l2, l3, l4, some (.int v), l6] st h K ↔ tm_A d 149 14 [l0, l1, l2, l3, l4, some (.int v), l6] (.int v :: st) h K := tm_s o149_12 rfl rfl rfl
theorem o149_14 : tm_op 149 14 = some (.aload_n 0, (0, 0, 0, 0)) := rfl
theorem r149_14 (d : Nat) (v : Nat) (l1 l2 l3 l4 l5 l6 : Option Value) (st : List Value) (h : tm_H) (K : Option Value → tm_H → Prop) : tm_A d 149 14 [some (.ref v), l1, l2, l3, l4, l5, l6] st h K ↔ tm_A d 149 15 [some (.ref v), l1, l2, l3, l4, l5, l6] (.ref v :: st) h K := tm_s o149_14 rfl rfl rfl
theorem o149_15 : tm_op 149 15 = some (.getfield 53, (2, 10, 23, 0)) := rfl
theorem r149_15 (d : Nat) (a : Nat) (ls : tm_Lo) (st : List Value) (G : tm_G) (I : Nat → Nat → Int32) (J : Nat → Nat → Int64) (R : Nat → Nat → Option Nat) (K : Option Value → tm_H → Prop) : tm_A d 149 15 ls (.ref a :: st) (G, I, J, R) K ↔ G.2.2 a = (0, 10) ∧ tm_A d 149 18 ls (tm_rf (R a 23) :: st) (G, I, J, R) K := tm_getR o149_15
theorem o149_18 : tm_op 149 18 = some (.iconst 3, (0, 0, 0, 0)) := rfl
theorem r149_18 (d : Nat) (ls : tm_Lo) (st : List Value) (h : tm_H) (K : Option Value → tm_H → Prop) : tm_A d 149 18 ls st h K ↔ tm_A d 149 19 ls (.int (3 : Int32) :: st) h K := tm_ic o149_18 (by decide)
theorem o149_19 : tm_op 149 19 = some (.iload_n 3, (0, 0, 0, 0)) := rfl
theorem r149_19 (d : Nat) (v : Int32) (l0 l1 l2 l4 l5 l6 : Option Value) (st : List Value) (h : tm_H) (K : Option Value → tm_H → Prop) : tm_A d 149 19 [l0, l1, l2, some (.int v), l4, l5, l6] st h K ↔ tm_A d 149 20 [l0, l1, l2, some (.int v), l4, l5, l6] (.int v :: st) h K := tm_s o149_19 rfl rfl rfl
theorem o149_20 : tm_op 149 20 = some (.imul, (0, 0, 0, 0)) := rfl
theorem r149_20 (d : Nat) (u v : Int32) (ls : tm_Lo) (st : List Value) (h : tm_H) (K : Option Value → tm_H → Prop) : tm_A d 149 20 ls (.int u :: .int v :: st) h K ↔ tm_A d 149 21 ls (.int (v * u) :: st) h K := tm_s o149_20 rfl rfl rfl
theorem o149_21 : tm_op 149 21 = some (.iload 4, (0, 0, 0, 0)) := rfl
theorem r149_21 (d : Nat) (v : Int32) (l0 l1 l2 l3 l5 l6 : Option Value) (st : List Value) (h : tm_H) (K : Option Value → tm_H → Prop) : tm_A d 149 21 [l0, l1, l2, l3, some (.int v), l5, l6] st h K ↔ tm_A d 149 23 [l0, l1, l2, l3, some (.int v), l5, l6] (.int v :: st) h K := tm_s o149_21 rfl rfl rfl
theorem o149_23 : tm_op 149 23 = some (.iadd, (0, 0, 0, 0)) := rfl
theorem r149_23 (d : Nat) (u v : Int32) (ls : tm_Lo) (st : List Value) (h : tm_H) (K : Option Value → tm_H → Prop) : tm_A d 149 23 ls (.int u :: .int v :: st) h K ↔ tm_A d 149 24 ls (.int (v + u) :: st) h K := tm_s o149_23 rfl rfl rfl
theorem o149_24 : tm_op 149 24 = some (.iaload, (0, 0, 0, 0)) := rfl
theorem r149_24 (d : Nat) (v : Int32) (a : Nat) (ls : tm_Lo) (st : List Value) (G : tm_G) (I : Nat → Nat → Int32) (J : Nat → Nat → Int64) (R : Nat → Nat → Option Nat) (K : Option Value → tm_H → Prop) : tm_A d 149 24 ls (.int v :: .ref a :: st) (G, I, J, R) K ↔ ((G.2.2 a).1 = 1 ∧ tm_in v (G.2.2 a).2) ∧ tm_A d 149 25 ls (.int (I a (tm_ix v)) :: st) (G, I, J, R) K := tm_iald o149_24
theorem o149_25 : tm_op 149 25 = some (.if_icmp .eq 5, (0, 0, 0, 0)) := rfl
theorem r149_25 (d : Nat) (y x : Int32) (ls : tm_Lo) (st : List Value) (h : tm_H) (K : Option Value → tm_H → Prop) : tm_A d 149 25 ls (.int y :: .int x :: st) h K ↔ if x = y then tm_A d 149 30 ls st h K else tm_A d 149 28 ls st h K := tm_b o149_25 rfl rfl rfl rfl
theorem o149_28 : tm_op 149 28 = some (.iconst 0, (0, 0, 0, 0)) := rfl
theorem r149_28 (d : Nat) (ls : tm_Lo) (st : List Value) (h : tm_H) (K : Option Value → tm_H → Prop) : tm_A d 149 28 ls st h K ↔ tm_A d 149 29 ls (.int (0 : Int32) :: st) h K := tm_ic o149_28 (by decide)
theorem o149_29 : tm_op 149 29 = some (.ireturn, (0, 0, 0, 0)) := rfl
theorem r149_29 (d : Nat) (v : Int32) (ls : tm_Lo) (h : tm_H) (K : Option Value → tm_H → Prop) : tm_A d 149 29 ls [.int v] h K ↔ (v = 0 ∨ v = 1) ∧ K (some (.int v)) h := tm_retz o149_29 rfl
theorem o149_30 : tm_op 149 30 = some (.iconst 0, (0, 0, 0, 0)) := rfl
theorem r149_30 (d : Nat) (ls : tm_Lo) (st : List Value) (h : tm_H) (K : Option Value → tm_H → Prop) : tm_A d 149 30 ls st h K ↔ tm_A d 149 31 ls (.int (0 : Int32) :: st) h K := tm_ic o149_30 (by decide)
theorem o149_31 : tm_op 149 31 = some (.istore 6, (0, 0, 0, 0)) := rfl
theorem r149_31 (d : Nat) (v : Int32) (l0 l1 l2 l3 l4 l5 l6 : Option Value) (st : List Value) (h : tm_H) (K : Option Value → tm_H → Prop) : tm_A d 149 31 [l0, l1, l2, l3, l4, l5, l6] (.int v :: st) h K ↔ tm_A d 149 33 [l0, l1, l2, l3, l4, l5, some (.int v)] st h K := tm_s o149_31 rfl rfl rfl
theorem o149_33 : tm_op 149 33 = some (.iload 6, (0, 0, 0, 0)) := rfl
theorem r149_33 (d : Nat) (v : Int32) (l0 l1 l2 l3 l4 l5 : Option Value) (st : List Value) (h : tm_H) (K : Option Value → tm_H → Prop) : tm_A d 149 33 [l0, l1, l2, l3, l4, l5, some (.int v)] st h K ↔ tm_A d 149 35 [l0, l1, l2, l3, l4, l5, some (.int v)] (.int v :: st) h K := tm_s o149_33 rfl rfl rfl
theorem o149_35 : tm_op 149 35 = some (.iload 5, (0, 0, 0, 0)) := rfl
theorem r149_35 (d : Nat) (v : Int32) (l0 l1 l2 l3 l4 l6 : Option Value) (st : List Value) (h : tm_H) (K : Option Value → tm_H → Prop) : tm_A d 149 35 [l0, l1, l2, l3, l4, some (.int v), l6] st h K ↔ tm_A d 149 37 [l0, l1, l2, l3, l4, some (.int v), l6] (.int v :: st) h K := tm_s o149_35 rfl rfl rfl
theorem o149_37 : tm_op 149 37 = some (.if_icmp .ge 47, (0, 0, 0, 0)) := rfl
theorem r149_37 (d : Nat) (y x : Int32) (ls : tm_Lo) (st : List Value) (h : tm_H) (K : Option Value → tm_H → Prop) : tm_A d 149 37 ls (.int y :: .int x :: st) h K ↔ if y ≤ x then tm_A d 149 84 ls st h K else tm_A d 149 40 ls st h K := tm_b o149_37 rfl rfl rfl rfl
theorem o149_40 : tm_op 149 40 = some (.aload_n 0, (0, 0, 0, 0)) := rfl
theorem r149_40 (d : Nat) (v : Nat) (l1 l2 l3 l4 l5 l6 : Option Value) (st : List Value) (h : tm_H) (K : Option Value → tm_H → Prop) : tm_A d 149 40 [some (.ref v), l1, l2, l3, l4, l5, l6] st h K ↔ tm_A d 149 41 [some (.ref v), l1, l2, l3, l4, l5, l6] (.ref v :: st) h K := tm_s o149_40 rfl rfl rfl
theorem o149_41 : tm_op 149 41 = some (.getfield 50, (2, 10, 22, 0)) := rfl
theorem r149_41 (d : Nat) (a : Nat) (ls : tm_Lo) (st : List Value) (G : tm_G) (I : Nat → Nat → Int32) (J : Nat → Nat → Int64) (R : Nat → Nat → Option Nat) (K : Option Value → tm_H → Prop) : tm_A d 149 41 ls (.ref a :: st) (G, I, J, R) K ↔ G.2.2 a = (0, 10) ∧ tm_A d 149 44 ls (tm_rf (R a 22) :: st) (G, I, J, R) K := tm_getR o149_41
theorem o149_44 : tm_op 149 44 = some (.iconst 3, (0, 0, 0, 0)) := rfl
theorem r149_44 (d : Nat) (ls : tm_Lo) (st : List Value) (h : tm_H) (K : Option Value → tm_H → Prop) : tm_A d 149 44 ls st h K ↔ tm_A d 149 45 ls (.int (3 : Int32) :: st) h K := tm_ic o149_44 (by decide)
theorem o149_45 : tm_op 149 45 = some (.iload_n 1, (0, 0, 0, 0)) := rfl
theorem r149_45 (d : Nat) (v : Int32) (l0 l2 l3 l4 l5 l6 : Option Value) (st : List Value) (h : tm_H) (K : Option Value → tm_H → Prop) : tm_A d 149 45 [l0, some (.int v), l2, l3, l4, l5, l6] st h K ↔ tm_A d 149 46 [l0, some (.int v), l2, l3, l4, l5, l6] (.int v :: st) h K := tm_s o149_45 rfl rfl rfl
theorem o149_46 : tm_op 149 46 = some (.imul, (0, 0, 0, 0)) := rfl
theorem r149_46 (d : Nat) (u v : Int32) (ls : tm_Lo) (st : List Value) (h : tm_H) (K : Option Value → tm_H → Prop) : tm_A d 149 46 ls (.int u :: .int v :: st) h K ↔ tm_A d 149 47 ls (.int (v * u) :: st) h K := tm_s o149_46 rfl rfl rfl
theorem o149_47 : tm_op 149 47 = some (.iload_n 2, (0, 0, 0, 0)) := rfl
theorem r149_47 (d : Nat) (v : Int32) (l0 l1 l3 l4 l5 l6 : Option Value) (st : List Value) (h : tm_H) (K : Option Value → tm_H → Prop) : tm_A d 149 47 [l0, l1, some (.int v), l3, l4, l5, l6] st h K ↔ tm_A d 149 48 [l0, l1, some (.int v), l3, l4, l5, l6] (.int v :: st) h K := tm_s o149_47 rfl rfl rfl
theorem o149_48 : tm_op 149 48 = some (.iadd, (0, 0, 0, 0)) := rfl
theorem r149_48 (d : Nat) (u v : Int32) (ls : tm_Lo) (st : List Value) (h : tm_H) (K : Option Value → tm_H → Prop) : tm_A d 149 48 ls (.int u :: .int v :: st) h K ↔ tm_A d 149 49 ls (.int (v + u) :: st) h K := tm_s o149_48 rfl rfl rfl
theorem o149_49 : tm_op 149 49 = some (.bipush 6, (0, 0, 0, 0)) := rfl
theorem r149_49 (d : Nat) (ls : tm_Lo) (st : List Value) (h : tm_H) (K : Option Value → tm_H → Prop) : tm_A d 149 49 ls st h K ↔ tm_A d 149 51 ls (.int (6 : Int32) :: st) h K := tm_bp o149_49 (by decide)
theorem o149_51 : tm_op 149 51 = some (.imul, (0, 0, 0, 0)) := rfl
theorem r149_51 (d : Nat) (u v : Int32) (ls : tm_Lo) (st : List Value) (h : tm_H) (K : Option Value → tm_H → Prop) : tm_A d 149 51 ls (.int u :: .int v :: st) h K ↔ tm_A d 149 52 ls (.int (v * u) :: st) h K := tm_s o149_51 rfl rfl rfl
theorem o149_52 : tm_op 149 52 = some (.iload 6, (0, 0, 0, 0)) := rfl
theorem r149_52 (d : Nat) (v : Int32) (l0 l1 l2 l3 l4 l5 : Option Value) (st : List Value) (h : tm_H) (K : Option Value → tm_H → Prop) : tm_A d 149 52 [l0, l1, l2, l3, l4, l5, some (.int v)] st h K ↔ tm_A d 149 54 [l0, l1, l2, l3, l4, l5, some (.int v)] (.int v :: st) h K := tm_s o149_52 rfl rfl rfl
theorem o149_54 : tm_op 149 54 = some (.iadd, (0, 0, 0, 0)) := rfl
theorem r149_54 (d : Nat) (u v : Int32) (ls : tm_Lo) (st : List Value) (h : tm_H) (K : Option Value → tm_H → Prop) : tm_A d 149 54 ls (.int u :: .int v :: st) h K ↔ tm_A d 149 55 ls (.int (v + u) :: st) h K := tm_s o149_54 rfl rfl rfl
theorem o149_55 : tm_op 149 55 = some (.iaload, (0, 0, 0, 0)) := rfl
theorem r149_55 (d : Nat) (v : Int32) (a : Nat) (ls : tm_Lo) (st : List Value) (G : tm_G) (I : Nat → Nat → Int32) (J : Nat → Nat → Int64) (R : Nat → Nat → Option Nat) (K : Option Value → tm_H → Prop) : tm_A d 149 55 ls (.int v :: .ref a :: st) (G, I, J, R) K ↔ ((G.2.2 a).1 = 1 ∧ tm_in v (G.2.2 a).2) ∧ tm_A d 149 56 ls (.int (I a (tm_ix v)) :: st) (G, I, J, R) K := tm_iald o149_55
theorem o149_56 : tm_op 149 56 = some (.aload_n 0, (0, 0, 0, 0)) := rfl
theorem r149_56 (d : Nat) (v : Nat) (l1 l2 l3 l4 l5 l6 : Option Value) (st : List Value) (h : tm_H) (K : Option Value → tm_H → Prop) : tm_A d 149 56 [some (.ref v), l1, l2, l3, l4, l5, l6] st h K ↔ tm_A d 149 57 [some (.ref v), l1, l2, l3, l4, l5, l6] (.ref v :: st) h K := tm_s o149_56 rfl rfl rfl
theorem o149_57 : tm_op 149 57 = some (.getfield 50, (2, 10, 22, 0)) := rfl
theorem r149_57 (d : Nat) (a : Nat) (ls : tm_Lo) (st : List Value) (G : tm_G) (I : Nat → Nat → Int32) (J : Nat → Nat → Int64) (R : Nat → Nat → Option Nat) (K : Option Value → tm_H → Prop) : tm_A d 149 57 ls (.ref a :: st) (G, I, J, R) K ↔ G.2.2 a = (0, 10) ∧ tm_A d 149 60 ls (tm_rf (R a 22) :: st) (G, I, J, R) K := tm_getR o149_57
theorem o149_60 : tm_op 149 60 = some (.iconst 3, (0, 0, 0, 0)) := rfl
theorem r149_60 (d : Nat) (ls : tm_Lo) (st : List Value) (h : tm_H) (K : Option Value → tm_H → Prop) : tm_A d 149 60 ls st h K ↔ tm_A d 149 61 ls (.int (3 : Int32) :: st) h K := tm_ic o149_60 (by decide)
theorem o149_61 : tm_op 149 61 = some (.iload_n 3, (0, 0, 0, 0)) := rfl
theorem r149_61 (d : Nat) (v : Int32) (l0 l1 l2 l4 l5 l6 : Option Value) (st : List Value) (h : tm_H) (K : Option Value → tm_H → Prop) : tm_A d 149 61 [l0, l1, l2, some (.int v), l4, l5, l6] st h K ↔ tm_A d 149 62 [l0, l1, l2, some (.int v), l4, l5, l6] (.int v :: st) h K := tm_s o149_61 rfl rfl rfl
theorem o149_62 : tm_op 149 62 = some (.imul, (0, 0, 0, 0)) := rfl
theorem r149_62 (d : Nat) (u v : Int32) (ls : tm_Lo) (st : List Value) (h : tm_H) (K : Option Value → tm_H → Prop) : tm_A d 149 62 ls (.int u :: .int v :: st) h K ↔ tm_A d 149 63 ls (.int (v * u) :: st) h K := tm_s o149_62 rfl rfl rfl
theorem o149_63 : tm_op 149 63 = some (.iload 4, (0, 0, 0, 0)) := rfl
theorem r149_63 (d : Nat) (v : Int32) (l0 l1 l2 l3 l5 l6 : Option Value) (st : List Value) (h : tm_H) (K : Option Value → tm_H → Prop) : tm_A d 149 63 [l0, l1, l2, l3, some (.int v), l5, l6] st h K ↔ tm_A d 149 65 [l0, l1, l2, l3, some (.int v), l5, l6] (.int v :: st) h K := tm_s o149_63 rfl rfl rfl
theorem o149_65 : tm_op 149 65 = some (.iadd, (0, 0, 0, 0)) := rfl
theorem r149_65 (d : Nat) (u v : Int32) (ls : tm_Lo) (st : List Value) (h : tm_H) (K : Option Value → tm_H → Prop) : tm_A d 149 65 ls (.int u :: .int v :: st) h K ↔ tm_A d 149 66 ls (.int (v + u) :: st) h K := tm_s o149_65 rfl rfl rfl
theorem o149_66 : tm_op 149 66 = some (.bipush 6, (0, 0, 0, 0)) := rfl
theorem r149_66 (d : Nat) (ls : tm_Lo) (st : List Value) (h : tm_H) (K : Option Value → tm_H → Prop) : tm_A d 149 66 ls st h K ↔ tm_A d 149 68 ls (.int (6 : Int32) :: st) h K := tm_bp o149_66 (by decide)
theorem o149_68 : tm_op 149 68 = some (.imul, (0, 0, 0, 0)) := rfl
theorem r149_68 (d : Nat) (u v : Int32) (ls : tm_Lo) (st : List Value) (h : tm_H) (K : Option Value → tm_H → Prop) : tm_A d 149 68 ls (.int u :: .int v :: st) h K ↔ tm_A d 149 69 ls (.int (v * u) :: st) h K := tm_s o149_68 rfl rfl rfl
theorem o149_69 : tm_op 149 69 = some (.iload 6, (0, 0, 0, 0)) := rfl
theorem r149_69 (d : Nat) (v : Int32) (l0 l1 l2 l3 l4 l5 : Option Value) (st : List Value) (h : tm_H) (K : Option Value → tm_H → Prop) : tm_A d 149 69 [l0, l1, l2, l3, l4, l5, some (.int v)] st h K ↔ tm_A d 149 71 [l0, l1, l2, l3, l4, l5, some (.int v)] (.int v :: st) h K := tm_s o149_69 rfl rfl rfl
theorem o149_71 : tm_op 149 71 = some (.iadd, (0, 0, 0, 0)) := rfl
theorem r149_71 (d : Nat) (u v : Int32) (ls : tm_Lo) (st : List Value) (h : tm_H) (K : Option Value → tm_H → Prop) : tm_A d 149 71 ls (.int u :: .int v :: st) h K ↔ tm_A d 149 72 ls (.int (v + u) :: st) h K := tm_s o149_71 rfl rfl rfl
theorem o149_72 : tm_op 149 72 = some (.iaload, (0, 0, 0, 0)) := rfl
theorem r149_72 (d : Nat) (v : Int32) (a : Nat) (ls : tm_Lo) (st : List Value) (G : tm_G) (I : Nat → Nat → Int32) (J : Nat → Nat → Int64) (R : Nat → Nat → Option Nat) (K : Option Value → tm_H → Prop) : tm_A d 149 72 ls (.int v :: .ref a :: st) (G, I, J, R) K ↔ ((G.2.2 a).1 = 1 ∧ tm_in v (G.2.2 a).2) ∧ tm_A d 149 73 ls (.int (I a (tm_ix v)) :: st) (G, I, J, R) K := tm_iald o149_72
theorem o149_73 : tm_op 149 73 = some (.if_icmp .eq 5, (0, 0, 0, 0)) := rfl
theorem r149_73 (d : Nat) (y x : Int32) (ls : tm_Lo) (st : List Value) (h : tm_H) (K : Option Value → tm_H → Prop) : tm_A d 149 73 ls (.int y :: .int x :: st) h K ↔ if x = y then tm_A d 149 78 ls st h K else tm_A d 149 76 ls st h K := tm_b o149_73 rfl rfl rfl rfl
theorem o149_76 : tm_op 149 76 = some (.iconst 0, (0, 0, 0, 0)) := rfl
theorem r149_76 (d : Nat) (ls : tm_Lo) (st : List Value) (h : tm_H) (K : Option Value → tm_H → Prop) : tm_A d 149 76 ls st h K ↔ tm_A d 149 77 ls (.int (0 : Int32) :: st) h K := tm_ic o149_76 (by decide)
theorem o149_77 : tm_op 149 77 = some (.ireturn, (0, 0, 0, 0)) := rfl
theorem r149_77 (d : Nat) (v : Int32) (ls : tm_Lo) (h : tm_H) (K : Option Value → tm_H → Prop) : tm_A d 149 77 ls [.int v] h K ↔ (v = 0 ∨ v = 1) ∧ K (some (.int v)) h := tm_retz o149_77 rfl
theorem o149_78 : tm_op 149 78 = some (.iinc 6 1, (0, 0, 0, 0)) := rfl
theorem r149_78 (d : Nat) (v : Int32) (l0 l1 l2 l3 l4 l5 : Option Value) (st : List Value) (h : tm_H) (K : Option Value → tm_H → Prop) : tm_A d 149 78 [l0, l1, l2, l3, l4, l5, some (.int v)] st h K ↔ tm_A d 149 81 [l0, l1, l2, l3, l4, l5, some (.int (v + (1 : Int32)))] st h K := tm_s o149_78 rfl rfl rfl
theorem o149_81 : tm_op 149 81 = some (.goto (-48), (0, 0, 0, 0)) := rfl
theorem r149_81 (d : Nat) (ls : tm_Lo) (st : List Value) (h : tm_H) (K : Option Value → tm_H → Prop) : tm_A d 149 81 ls st h K ↔ tm_A d 149 33 ls st h K := tm_s o149_81 rfl rfl rfl
theorem o149_84 : tm_op 149 84 = some (.iconst 1, (0, 0, 0, 0)) := rfl
theorem r149_84 (d : Nat) (ls : tm_Lo) (st : List Value) (h : tm_H) (K : Option Value → tm_H → Prop) : tm_A d 149 84 ls st h K ↔ tm_A d 149 85 ls (.int (1 : Int32) :: st) h K := tm_ic o149_84 (by decide)
theorem o149_85 : tm_op 149 85 = some (.ireturn, (0, 0, 0, 0)) := rfl
theorem r149_85 (d : Nat) (v : Int32) (ls : tm_Lo) (h : tm_H) (K : Option Value → tm_H → Prop) : tm_A d 149 85 ls [.int v] h K ↔ (v = 0 ∨ v = 1) ∧ K (some (.int v)) h := tm_retz o149_85 rfl
theorem o150_0 : tm_op 150 0 = some (.aload_n 0, (0, 0, 0, 0)) := rfl
theorem r150_0 (d : Nat) (v : Nat) (l1 l2 l3 l4 l5 : Option Value) (st : List Value) (h : tm_H) (K : Option Value → tm_H → Prop) : tm_A d 150 0 [some (.ref v), l1, l2, l3, l4, l5] st h K ↔ tm_A d 150 1 [some (.ref v), l1, l2, l3, l4, l5] (.ref v :: st) h K := tm_s o150_0 rfl rfl rfl
theorem o150_1 : tm_op 150 1 = some (.getfield 59, (2, 10, 25, 0)) := rfl
theorem r150_1 (d : Nat) (a : Nat) (ls : tm_Lo) (st : List Value) (G : tm_G) (I : Nat → Nat → Int32) (J : Nat → Nat → Int64) (R : Nat → Nat → Option Nat) (K : Option Value → tm_H → Prop) : tm_A d 150 1 ls (.ref a :: st) (G, I, J, R) K ↔ G.2.2 a = (0, 10) ∧ tm_A d 150 4 ls (tm_rf (R a 25) :: st) (G, I, J, R) K := tm_getR o150_1
theorem o150_4 : tm_op 150 4 = some (.iconst 5, (0, 0, 0, 0)) := rfl
theorem r150_4 (d : Nat) (ls : tm_Lo) (st : List Value) (h : tm_H) (K : Option Value → tm_H → Prop) : tm_A d 150 4 ls st h K ↔ tm_A d 150 5 ls (.int (5 : Int32) :: st) h K := tm_ic o150_4 (by decide)
theorem o150_5 : tm_op 150 5 = some (.iload_n 1, (0, 0, 0, 0)) := rfl
theorem r150_5 (d : Nat) (v : Int32) (l0 l2 l3 l4 l5 : Option Value) (st : List Value) (h : tm_H) (K : Option Value → tm_H → Prop) : tm_A d 150 5 [l0, some (.int v), l2, l3, l4, l5] st h K ↔ tm_A d 150 6 [l0, some (.int v), l2, l3, l4, l5] (.int v :: st) h K := tm_s o150_5 rfl rfl rfl
theorem o150_6 : tm_op 150 6 = some (.imul, (0, 0, 0, 0)) := rfl
theorem r150_6 (d : Nat) (u v : Int32) (ls : tm_Lo) (st : List Value) (h : tm_H) (K : Option Value → tm_H → Prop) : tm_A d 150 6 ls (.int u :: .int v :: st) h K ↔ tm_A d 150 7 ls (.int (v * u) :: st) h K := tm_s o150_6 rfl rfl rfl
theorem o150_7 : tm_op 150 7 = some (.iconst 3, (0, 0, 0, 0)) := rfl
theorem r150_7 (d : Nat) (ls : tm_Lo) (st : List Value) (h : tm_H) (K : Option Value → tm_H → Prop) : tm_A d 150 7 ls st h K ↔ tm_A d 150 8 ls (.int (3 : Int32) :: st) h K := tm_ic o150_7 (by decide)
theorem o150_8 : tm_op 150 8 = some (.iadd, (0, 0, 0, 0)) := rfl
theorem r150_8 (d : Nat) (u v : Int32) (ls : tm_Lo) (st : List Value) (h : tm_H) (K : Option Value → tm_H → Prop) : tm_A d 150 8 ls (.int u :: .int v :: st) h K ↔ tm_A d 150 9 ls (.int (v + u) :: st) h K := tm_s o150_8 rfl rfl rfl
theorem o150_9 : tm_op 150 9 = some (.iaload, (0, 0, 0, 0)) := rfl
theorem r150_9 (d : Nat) (v : Int32) (a : Nat) (ls : tm_Lo) (st : List Value) (G : tm_G) (I : Nat → Nat → Int32) (J : Nat → Nat → Int64) (R : Nat → Nat → Option Nat) (K : Option Value → tm_H → Prop) : tm_A d 150 9 ls (.int v :: .ref a :: st) (G, I, J, R) K ↔ ((G.2.2 a).1 = 1 ∧ tm_in v (G.2.2 a).2) ∧ tm_A d 150 10 ls (.int (I a (tm_ix v)) :: st) (G, I, J, R) K := tm_iald o150_9
theorem o150_10 : tm_op 150 10 = some (.istore 4, (0, 0, 0, 0)) := rfl
theorem r150_10 (d : Nat) (v : Int32) (l0 l1 l2 l3 l4 l5 : Option Value) (st : List Value) (h : tm_H) (K : Option Value → tm_H → Prop) : tm_A d 150 10 [l0, l1, l2, l3, l4, l5] (.int v :: st) h K ↔ tm_A d 150 12 [l0, l1, l2, l3, some (.int v), l5] st h K := tm_s o150_10 rfl rfl rfl
theorem o150_12 : tm_op 150 12 = some (.iconst 0, (0, 0, 0, 0)) := rfl
theorem r150_12 (d : Nat) (ls : tm_Lo) (st : List Value) (h : tm_H) (K : Option Value → tm_H → Prop) : tm_A d 150 12 ls st h K ↔ tm_A d 150 13 ls (.int (0 : Int32) :: st) h K := tm_ic o150_12 (by decide)
theorem o150_13 : tm_op 150 13 = some (.istore 5, (0, 0, 0, 0)) := rfl
theorem r150_13 (d : Nat) (v : Int32) (l0 l1 l2 l3 l4 l5 : Option Value) (st : List Value) (h : tm_H) (K : Option Value → tm_H → Prop) : tm_A d 150 13 [l0, l1, l2, l3, l4, l5] (.int v :: st) h K ↔ tm_A d 150 15 [l0, l1, l2, l3, l4, some (.int v)] st h K := tm_s o150_13 rfl rfl rfl
theorem o150_15 : tm_op 150 15 = some (.iload 4, (0, 0, 0, 0)) := rfl
theorem r150_15 (d : Nat) (v : Int32) (l0 l1 l2 l3 l5 : Option Value) (st : List Value) (h : tm_H) (K : Option Value → tm_H → Prop) : tm_A d 150 15 [l0, l1, l2, l3, some (.int v), l5] st h K ↔ tm_A d 150 17 [l0, l1, l2, l3, some (.int v), l5] (.int v :: st) h K := tm_s o150_15 rfl rfl rfl
theorem o150_17 : tm_op 150 17 = some (.iconst (-1), (0, 0, 0, 0)) := rfl
theorem r150_17 (d : Nat) (ls : tm_Lo) (st : List Value) (h : tm_H) (K : Option Value → tm_H → Prop) : tm_A d 150 17 ls st h K ↔ tm_A d 150 18 ls (.int (-1 : Int32) :: st) h K := tm_ic o150_17 (by decide)
theorem o150_18 : tm_op 150 18 = some (.if_icmp .eq 36, (0, 0, 0, 0)) := rfl
theorem r150_18 (d : Nat) (y x : Int32) (ls : tm_Lo) (st : List Value) (h : tm_H) (K : Option Value → tm_H → Prop) : tm_A d 150 18 ls (.int y :: .int x :: st) h K ↔ if x = y then tm_A d 150 54 ls st h K else tm_A d 150 21 ls st h K := tm_b o150_18 rfl rfl rfl rfl
theorem o150_21 : tm_op 150 21 = some (.iload 5, (0, 0, 0, 0)) := rfl
theorem r150_21 (d : Nat) (v : Int32) (l0 l1 l2 l3 l4 : Option Value) (st : List Value) (h : tm_H) (K : Option Value → tm_H → Prop) : tm_A d 150 21 [l0, l1, l2, l3, l4, some (.int v)] st h K ↔ tm_A d 150 23 [l0, l1, l2, l3, l4, some (.int v)] (.int v :: st) h K := tm_s o150_21 rfl rfl rfl
theorem o150_23 : tm_op 150 23 = some (.aload_n 0, (0, 0, 0, 0)) := rfl
theorem r150_23 (d : Nat) (v : Nat) (l1 l2 l3 l4 l5 : Option Value) (st : List Value) (h : tm_H) (K : Option Value → tm_H → Prop) : tm_A d 150 23 [some (.ref v), l1, l2, l3, l4, l5] st h K ↔ tm_A d 150 24 [some (.ref v), l1, l2, l3, l4, l5] (.ref v :: st) h K := tm_s o150_23 rfl rfl rfl
theorem o150_24 : tm_op 150 24 = some (.getfield 47, (2, 10, 21, 0)) := rfl
theorem r150_24 (d : Nat) (a : Nat) (ls : tm_Lo) (st : List Value) (G : tm_G) (I : Nat → Nat → Int32) (J : Nat → Nat → Int64) (R : Nat → Nat → Option Nat) (K : Option Value → tm_H → Prop) : tm_A d 150 24 ls (.ref a :: st) (G, I, J, R) K ↔ G.2.2 a = (0, 10) ∧ tm_A d 150 27 ls (tm_rf (R a 21) :: st) (G, I, J, R) K := tm_getR o150_24
theorem o150_27 : tm_op 150 27 = some (.iload 4, (0, 0, 0, 0)) := rfl
theorem r150_27 (d : Nat) (v : Int32) (l0 l1 l2 l3 l5 : Option Value) (st : List Value) (h : tm_H) (K : Option Value → tm_H → Prop) : tm_A d 150 27 [l0, l1, l2, l3, some (.int v), l5] st h K ↔ tm_A d 150 29 [l0, l1, l2, l3, some (.int v), l5] (.int v :: st) h K := tm_s o150_27 rfl rfl rfl
theorem o150_29 : tm_op 150 29 = some (.iaload, (0, 0, 0, 0)) := rfl
theorem r150_29 (d : Nat) (v : Int32) (a : Nat) (ls : tm_Lo) (st : List Value) (G : tm_G) (I : Nat → Nat → Int32) (J : Nat → Nat → Int64) (R : Nat → Nat → Option Nat) (K : Option Value → tm_H → Prop) : tm_A d 150 29 ls (.int v :: .ref a :: st) (G, I, J, R) K ↔ ((G.2.2 a).1 = 1 ∧ tm_in v (G.2.2 a).2) ∧ tm_A d 150 30 ls (.int (I a (tm_ix v)) :: st) (G, I, J, R) K := tm_iald o150_29
theorem o150_30 : tm_op 150 30 = some (.if_icmp .ge 24, (0, 0, 0, 0)) := rfl
theorem r150_30 (d : Nat) (y x : Int32) (ls : tm_Lo) (st : List Value) (h : tm_H) (K : Option Value → tm_H → Prop) : tm_A d 150 30 ls (.int y :: .int x :: st) h K ↔ if y ≤ x then tm_A d 150 54 ls st h K else tm_A d 150 33 ls st h K := tm_b o150_30 rfl rfl rfl rfl
theorem o150_33 : tm_op 150 33 = some (.aload_n 0, (0, 0, 0, 0)) := rfl
theorem r150_33 (d : Nat) (v : Nat) (l1 l2 l3 l4 l5 : Option Value) (st : List Value) (h : tm_H) (K : Option Value → tm_H → Prop) : tm_A d 150 33 [some (.ref v), l1, l2, l3, l4, l5] st h K ↔ tm_A d 150 34 [some (.ref v), l1, l2, l3, l4, l5] (.ref v :: st) h K := tm_s o150_33 rfl rfl rfl
theorem o150_34 : tm_op 150 34 = some (.iload_n 2, (0, 0, 0, 0)) := rfl
theorem r150_34 (d : Nat) (v : Int32) (l0 l1 l3 l4 l5 : Option Value) (st : List Value) (h : tm_H) (K : Option Value → tm_H → Prop) : tm_A d 150 34 [l0, l1, some (.int v), l3, l4, l5] st h K ↔ tm_A d 150 35 [l0, l1, some (.int v), l3, l4, l5] (.int v :: st) h K := tm_s o150_34 rfl rfl rfl
theorem o150_35 : tm_op 150 35 = some (.iload_n 3, (0, 0, 0, 0)) := rfl
theorem r150_35 (d : Nat) (v : Int32) (l0 l1 l2 l4 l5 : Option Value) (st : List Value) (h : tm_H) (K : Option Value → tm_H → Prop) : tm_A d 150 35 [l0, l1, l2, some (.int v), l4, l5] st h K ↔ tm_A d 150 36 [l0, l1, l2, some (.int v), l4, l5] (.int v :: st) h K := tm_s o150_35 rfl rfl rfl
theorem o150_36 : tm_op 150 36 = some (.iload 4, (0, 0, 0, 0)) := rfl
theorem r150_36 (d : Nat) (v : Int32) (l0 l1 l2 l3 l5 : Option Value) (st : List Value) (h : tm_H) (K : Option Value → tm_H → Prop) : tm_A d 150 36 [l0, l1, l2, l3, some (.int v), l5] st h K ↔ tm_A d 150 38 [l0, l1, l2, l3, some (.int v), l5] (.int v :: st) h K := tm_s o150_36 rfl rfl rfl
theorem o150_38 : tm_op 150 38 = some (.iload 5, (0, 0, 0, 0)) := rfl
theorem r150_38 (d : Nat) (v : Int32) (l0 l1 l2 l3 l4 : Option Value) (st : List Value) (h : tm_H) (K : Option Value → tm_H → Prop) : tm_A d 150 38 [l0, l1, l2, l3, l4, some (.int v)] st h K ↔ tm_A d 150 40 [l0, l1, l2, l3, l4, some (.int v)] (.int v :: st) h K := tm_s o150_38 rfl rfl rfl
theorem o150_40 : tm_op 150 40 = some (.invokevirtual 169, (2, 149, 5, 10)) := rfl
theorem r150_40 (d : Nat) (v1 : Int32) (v2 : Int32) (v3 : Int32) (v4 : Int32) (a : Nat) (ls : tm_Lo) (st : List Value) (h : tm_H) (K : Option Value → tm_H → Prop) : tm_A (d + 1) 150 40 ls (.int v4 :: .int v3 :: .int v2 :: .int v1 :: .ref a :: st) h K ↔ (h.1.2.2 a = (0, 10) ∧ tm_cs st) ∧ tm_R d 149 [.ref a, .int v1, .int v2, .int v3, .int v4] h (fun r h' => tm_A (d + 1) 150 43 ls (r.toList ++ st) h' K) := tm_callV (as := [.int v1, .int v2, .int v3, .int v4]) o150_40 rfl rfl rfl rfl
theorem o150_43 : tm_op 150 43 = some (.ifCond .eq 5, (0, 0, 0, 0)) := rfl
theorem r150_43 (d : Nat) (x : Int32) (ls : tm_Lo) (st : List Value) (h : tm_H) (K : Option Value → tm_H → Prop) : tm_A d 150 43 ls (.int x :: st) h K ↔ if x = 0 then tm_A d 150 48 ls st h K else tm_A d 150 46 ls st h K := tm_b o150_43 rfl rfl rfl rfl
theorem o150_46 : tm_op 150 46 = some (.iconst 1, (0, 0, 0, 0)) := rfl
theorem r150_46 (d : Nat) (ls : tm_Lo) (st : List Value) (h : tm_H) (K : Option Value → tm_H → Prop) : tm_A d 150 46 ls st h K ↔ tm_A d 150 47 ls (.int (1 : Int32) :: st) h K := tm_ic o150_46 (by decide)
theorem o150_47 : tm_op 150 47 = some (.ireturn, (0, 0, 0, 0)) := rfl
theorem r150_47 (d : Nat) (v : Int32) (ls : tm_Lo) (h : tm_H) (K : Option Value → tm_H → Prop) : tm_A d 150 47 ls [.int v] h K ↔ (v = 0 ∨ v = 1) ∧ K (some (.int v)) h := tm_retz o150_47 rfl
theorem o150_48 : tm_op 150 48 = some (.iinc 5 1, (0, 0, 0, 0)) := rfl
theorem r150_48 (d : Nat) (v : Int32) (l0 l1 l2 l3 l4 : Option Value) (st : List Value) (h : tm_H) (K : Option Value → tm_H → Prop) : tm_A d 150 48 [l0, l1, l2, l3, l4, some (.int v)] st h K ↔ tm_A d 150 51 [l0, l1, l2, l3, l4, some (.int (v + (1 : Int32)))] st h K := tm_s o150_48 rfl rfl rfl
theorem o150_51 : tm_op 150 51 = some (.goto (-36), (0, 0, 0, 0)) := rfl
theorem r150_51 (d : Nat) (ls : tm_Lo) (st : List Value) (h : tm_H) (K : Option Value → tm_H → Prop) : tm_A d 150 51 ls st h K ↔ tm_A d 150 15 ls st h K := tm_s o150_51 rfl rfl rfl
theorem o150_54 : tm_op 150 54 = some (.iconst 0, (0, 0, 0, 0)) := rfl
theorem r150_54 (d : Nat) (ls : tm_Lo) (st : List Value) (h : tm_H) (K : Option Value → tm_H → Prop) : tm_A d 150 54 ls st h K ↔ tm_A d 150 55 ls (.int (0 : Int32) :: st) h K := tm_ic o150_54 (by decide)
theorem o150_55 : tm_op 150 55 = some (.ireturn, (0, 0, 0, 0)) := rfl
theorem r150_55 (d : Nat) (v : Int32) (ls : tm_Lo) (h : tm_H) (K : Option Value → tm_H → Prop) : tm_A d 150 55 ls [.int v] h K ↔ (v = 0 ∨ v = 1) ∧ K (some (.int v)) h := tm_retz o150_55 rfl
theorem o151_0 : tm_op 151 0 = some (.aload_n 0, (0, 0, 0, 0)) := rfl
theorem r151_0 (d : Nat) (v : Nat) (l1 l2 l3 l4 l5 l6 l7 : Option Value) (st : List Value) (h : tm_H) (K : Option Value → tm_H → Prop) : tm_A d 151 0 [some (.ref v), l1, l2, l3, l4, l5, l6, l7] st h K ↔ tm_A d 151 1 [some (.ref v), l1, l2, l3, l4, l5, l6, l7] (.ref v :: st) h K := tm_s o151_0 rfl rfl rfl
theorem o151_1 : tm_op 151 1 = some (.getfield 59, (2, 10, 25, 0)) := rfl
theorem r151_1 (d : Nat) (a : Nat) (ls : tm_Lo) (st : List Value) (G : tm_G) (I : Nat → Nat → Int32) (J : Nat → Nat → Int64) (R : Nat → Nat → Option Nat) (K : Option Value → tm_H → Prop) : tm_A d 151 1 ls (.ref a :: st) (G, I, J, R) K ↔ G.2.2 a = (0, 10) ∧ tm_A d 151 4 ls (tm_rf (R a 25) :: st) (G, I, J, R) K := tm_getR o151_1
theorem o151_4 : tm_op 151 4 = some (.iconst 5, (0, 0, 0, 0)) := rfl
theorem r151_4 (d : Nat) (ls : tm_Lo) (st : List Value) (h : tm_H) (K : Option Value → tm_H → Prop) : tm_A d 151 4 ls st h K ↔ tm_A d 151 5 ls (.int (5 : Int32) :: st) h K := tm_ic o151_4 (by decide)
theorem o151_5 : tm_op 151 5 = some (.iload_n 1, (0, 0, 0, 0)) := rfl
theorem r151_5 (d : Nat) (v : Int32) (l0 l2 l3 l4 l5 l6 l7 : Option Value) (st : List Value) (h : tm_H) (K : Option Value → tm_H → Prop) : tm_A d 151 5 [l0, some (.int v), l2, l3, l4, l5, l6, l7] st h K ↔ tm_A d 151 6 [l0, some (.int v), l2, l3, l4, l5, l6, l7] (.int v :: st) h K := tm_s o151_5 rfl rfl rfl
theorem o151_6 : tm_op 151 6 = some (.imul, (0, 0, 0, 0)) := rfl
theorem r151_6 (d : Nat) (u v : Int32) (ls : tm_Lo) (st : List Value) (h : tm_H) (K : Option Value → tm_H → Prop) : tm_A d 151 6 ls (.int u :: .int v :: st) h K ↔ tm_A d 151 7 ls (.int (v * u) :: st) h K := tm_s o151_6 rfl rfl rfl
theorem o151_7 : tm_op 151 7 = some (.iconst 3, (0, 0, 0, 0)) := rfl
theorem r151_7 (d : Nat) (ls : tm_Lo) (st : List Value) (h : tm_H) (K : Option Value → tm_H → Prop) : tm_A d 151 7 ls st h K ↔ tm_A d 151 8 ls (.int (3 : Int32) :: st) h K := tm_ic o151_7 (by decide)
theorem o151_8 : tm_op 151 8 = some (.iadd, (0, 0, 0, 0)) := rfl
theorem r151_8 (d : Nat) (u v : Int32) (ls : tm_Lo) (st : List Value) (h : tm_H) (K : Option Value → tm_H → Prop) : tm_A d 151 8 ls (.int u :: .int v :: st) h K ↔ tm_A d 151 9 ls (.int (v + u) :: st) h K := tm_s o151_8 rfl rfl rfl
theorem o151_9 : tm_op 151 9 = some (.iaload, (0, 0, 0, 0)) := rfl
theorem r151_9 (d : Nat) (v : Int32) (a : Nat) (ls : tm_Lo) (st : List Value) (G : tm_G) (I : Nat → Nat → Int32) (J : Nat → Nat → Int64) (R : Nat → Nat → Option Nat) (K : Option Value → tm_H → Prop) : tm_A d 151 9 ls (.int v :: .ref a :: st) (G, I, J, R) K ↔ ((G.2.2 a).1 = 1 ∧ tm_in v (G.2.2 a).2) ∧ tm_A d 151 10 ls (.int (I a (tm_ix v)) :: st) (G, I, J, R) K := tm_iald o151_9
theorem o151_10 : tm_op 151 10 = some (.istore_n 3, (0, 0, 0, 0)) := rfl
theorem r151_10 (d : Nat) (v : Int32) (l0 l1 l2 l3 l4 l5 l6 l7 : Option Value) (st : List Value) (h : tm_H) (K : Option Value → tm_H → Prop) : tm_A d 151 10 [l0, l1, l2, l3, l4, l5, l6, l7] (.int v :: st) h K ↔ tm_A d 151 11 [l0, l1, l2, some (.int v), l4, l5, l6, l7] st h K := tm_s o151_10 rfl rfl rfl
theorem o151_11 : tm_op 151 11 = some (.iconst 0, (0, 0, 0, 0)) := rfl
theorem r151_11 (d : Nat) (ls : tm_Lo) (st : List Value) (h : tm_H) (K : Option Value → tm_H → Prop) : tm_A d 151 11 ls st h K ↔ tm_A d 151 12 ls (.int (0 : Int32) :: st) h K := tm_ic o151_11 (by decide)
theorem o151_12 : tm_op 151 12 = some (.istore 4, (0, 0, 0, 0)) := rfl
theorem r151_12 (d : Nat) (v : Int32) (l0 l1 l2 l3 l4 l5 l6 l7 : Option Value) (st : List Value) (h : tm_H) (K : Option Value → tm_H → Prop) : tm_A d 151 12 [l0, l1, l2, l3, l4, l5, l6, l7] (.int v :: st) h K ↔ tm_A d 151 14 [l0, l1, l2, l3, some (.int v), l5, l6, l7] st h K := tm_s o151_12 rfl rfl rfl
theorem o151_14 : tm_op 151 14 = some (.iconst 0, (0, 0, 0, 0)) := rfl
theorem r151_14 (d : Nat) (ls : tm_Lo) (st : List Value) (h : tm_H) (K : Option Value → tm_H → Prop) : tm_A d 151 14 ls st h K ↔ tm_A d 151 15 ls (.int (0 : Int32) :: st) h K := tm_ic o151_14 (by decide)
theorem o151_15 : tm_op 151 15 = some (.istore 5, (0, 0, 0, 0)) := rfl
theorem r151_15 (d : Nat) (v : Int32) (l0 l1 l2 l3 l4 l5 l6 l7 : Option Value) (st : List Value) (h : tm_H) (K : Option Value → tm_H → Prop) : tm_A d 151 15 [l0, l1, l2, l3, l4, l5, l6, l7] (.int v :: st) h K ↔ tm_A d 151 17 [l0, l1, l2, l3, l4, some (.int v), l6, l7] st h K := tm_s o151_15 rfl rfl rfl
theorem o151_17 : tm_op 151 17 = some (.iload_n 3, (0, 0, 0, 0)) := rfl
theorem r151_17 (d : Nat) (v : Int32) (l0 l1 l2 l4 l5 l6 l7 : Option Value) (st : List Value) (h : tm_H) (K : Option Value → tm_H → Prop) : tm_A d 151 17 [l0, l1, l2, some (.int v), l4, l5, l6, l7] st h K ↔ tm_A d 151 18 [l0, l1, l2, some (.int v), l4, l5, l6, l7] (.int v :: st) h K := tm_s o151_17 rfl rfl rfl
theorem o151_18 : tm_op 151 18 = some (.iconst (-1), (0, 0, 0, 0)) := rfl
theorem r151_18 (d : Nat) (ls : tm_Lo) (st : List Value) (h : tm_H) (K : Option Value → tm_H → Prop) : tm_A d 151 18 ls st h K ↔ tm_A d 151 19 ls (.int (-1 : Int32) :: st) h K := tm_ic o151_18 (by decide)
theorem o151_19 : tm_op 151 19 = some (.if_icmp .eq 102, (0, 0, 0, 0)) := rfl
theorem r151_19 (d : Nat) (y x : Int32) (ls : tm_Lo) (st : List Value) (h : tm_H) (K : Option Value → tm_H → Prop) : tm_A d 151 19 ls (.int y :: .int x :: st) h K ↔ if x = y then tm_A d 151 121 ls st h K else tm_A d 151 22 ls st h K := tm_b o151_19 rfl rfl rfl rfl
theorem o151_22 : tm_op 151 22 = some (.iload 5, (0, 0, 0, 0)) := rfl
theorem r151_22 (d : Nat) (v : Int32) (l0 l1 l2 l3 l4 l6 l7 : Option Value) (st : List Value) (h : tm_H) (K : Option Value → tm_H → Prop) : tm_A d 151 22 [l0, l1, l2, l3, l4, some (.int v), l6, l7] st h K ↔ tm_A d 151 24 [l0, l1, l2, l3, l4, some (.int v), l6, l7] (.int v :: st) h K := tm_s o151_22 rfl rfl rfl
theorem o151_24 : tm_op 151 24 = some (.aload_n 0, (0, 0, 0, 0)) := rfl
theorem r151_24 (d : Nat) (v : Nat) (l1 l2 l3 l4 l5 l6 l7 : Option Value) (st : List Value) (h : tm_H) (K : Option Value → tm_H → Prop) : tm_A d 151 24 [some (.ref v), l1, l2, l3, l4, l5, l6, l7] st h K ↔ tm_A d 151 25 [some (.ref v), l1, l2, l3, l4, l5, l6, l7] (.ref v :: st) h K := tm_s o151_24 rfl rfl rfl
theorem o151_25 : tm_op 151 25 = some (.getfield 47, (2, 10, 21, 0)) := rfl
theorem r151_25 (d : Nat) (a : Nat) (ls : tm_Lo) (st : List Value) (G : tm_G) (I : Nat → Nat → Int32) (J : Nat → Nat → Int64) (R : Nat → Nat → Option Nat) (K : Option Value → tm_H → Prop) : tm_A d 151 25 ls (.ref a :: st) (G, I, J, R) K ↔ G.2.2 a = (0, 10) ∧ tm_A d 151 28 ls (tm_rf (R a 21) :: st) (G, I, J, R) K := tm_getR o151_25
theorem o151_28 : tm_op 151 28 = some (.iload_n 3, (0, 0, 0, 0)) := rfl
theorem r151_28 (d : Nat) (v : Int32) (l0 l1 l2 l4 l5 l6 l7 : Option Value) (st : List Value) (h : tm_H) (K : Option Value → tm_H → Prop) : tm_A d 151 28 [l0, l1, l2, some (.int v), l4, l5, l6, l7] st h K ↔ tm_A d 151 29 [l0, l1, l2, some (.int v), l4, l5, l6, l7] (.int v :: st) h K := tm_s o151_28 rfl rfl rfl
theorem o151_29 : tm_op 151 29 = some (.iaload, (0, 0, 0, 0)) := rfl
theorem r151_29 (d : Nat) (v : Int32) (a : Nat) (ls : tm_Lo) (st : List Value) (G : tm_G) (I : Nat → Nat → Int32) (J : Nat → Nat → Int64) (R : Nat → Nat → Option Nat) (K : Option Value → tm_H → Prop) : tm_A d 151 29 ls (.int v :: .ref a :: st) (G, I, J, R) K ↔ ((G.2.2 a).1 = 1 ∧ tm_in v (G.2.2 a).2) ∧ tm_A d 151 30 ls (.int (I a (tm_ix v)) :: st) (G, I, J, R) K := tm_iald o151_29
theorem o151_30 : tm_op 151 30 = some (.if_icmp .ge 91, (0, 0, 0, 0)) := rfl
theorem r151_30 (d : Nat) (y x : Int32) (ls : tm_Lo) (st : List Value) (h : tm_H) (K : Option Value → tm_H → Prop) : tm_A d 151 30 ls (.int y :: .int x :: st) h K ↔ if y ≤ x then tm_A d 151 121 ls st h K else tm_A d 151 33 ls st h K := tm_b o151_30 rfl rfl rfl rfl
theorem o151_33 : tm_op 151 33 = some (.aload_n 0, (0, 0, 0, 0)) := rfl
theorem r151_33 (d : Nat) (v : Nat) (l1 l2 l3 l4 l5 l6 l7 : Option Value) (st : List Value) (h : tm_H) (K : Option Value → tm_H → Prop) : tm_A d 151 33 [some (.ref v), l1, l2, l3, l4, l5, l6, l7] st h K ↔ tm_A d 151 34 [some (.ref v), l1, l2, l3, l4, l5, l6, l7] (.ref v :: st) h K := tm_s o151_33 rfl rfl rfl
theorem o151_34 : tm_op 151 34 = some (.iload_n 2, (0, 0, 0, 0)) := rfl
theorem r151_34 (d : Nat) (v : Int32) (l0 l1 l3 l4 l5 l6 l7 : Option Value) (st : List Value) (h : tm_H) (K : Option Value → tm_H → Prop) : tm_A d 151 34 [l0, l1, some (.int v), l3, l4, l5, l6, l7] st h K ↔ tm_A d 151 35 [l0, l1, some (.int v), l3, l4, l5, l6, l7] (.int v :: st) h K := tm_s o151_34 rfl rfl rfl
theorem o151_35 : tm_op 151 35 = some (.iload_n 3, (0, 0, 0, 0)) := rfl
theorem r151_35 (d : Nat) (v : Int32) (l0 l1 l2 l4 l5 l6 l7 : Option Value) (st : List Value) (h : tm_H) (K : Option Value → tm_H → Prop) : tm_A d 151 35 [l0, l1, l2, some (.int v), l4, l5, l6, l7] st h K ↔ tm_A d 151 36 [l0, l1, l2, some (.int v), l4, l5, l6, l7] (.int v :: st) h K := tm_s o151_35 rfl rfl rfl
theorem o151_36 : tm_op 151 36 = some (.iload 5, (0, 0, 0, 0)) := rfl
theorem r151_36 (d : Nat) (v : Int32) (l0 l1 l2 l3 l4 l6 l7 : Option Value) (st : List Value) (h : tm_H) (K : Option Value → tm_H → Prop) : tm_A d 151 36 [l0, l1, l2, l3, l4, some (.int v), l6, l7] st h K ↔ tm_A d 151 38 [l0, l1, l2, l3, l4, some (.int v), l6, l7] (.int v :: st) h K := tm_s o151_36 rfl rfl rfl
theorem o151_38 : tm_op 151 38 = some (.invokevirtual 173, (2, 150, 4, 10)) := rfl
theorem r151_38 (d : Nat) (v1 : Int32) (v2 : Int32) (v3 : Int32) (a : Nat) (ls : tm_Lo) (st : List Value) (h : tm_H) (K : Option Value → tm_H → Prop) : tm_A (d + 1) 151 38 ls (.int v3 :: .int v2 :: .int v1 :: .ref a :: st) h K ↔ (h.1.2.2 a = (0, 10) ∧ tm_cs st) ∧ tm_R d 150 [.ref a, .int v1, .int v2, .int v3] h (fun r h' => tm_A (d + 1) 151 41 ls (r.toList ++ st) h' K) := tm_callV (as := [.int v1, .int v2, .int v3]) o151_38 rfl rfl rfl rfl
theorem o151_41 : tm_op 151 41 = some (.ifCond .ne 6, (0, 0, 0, 0)) := rfl
theorem r151_41 (d : Nat) (x : Int32) (ls : tm_Lo) (st : List Value) (h : tm_H) (K : Option Value → tm_H → Prop) : tm_A d 151 41 ls (.int x :: st) h K ↔ if ¬ x = 0 then tm_A d 151 47 ls st h K else tm_A d 151 44 ls st h K := tm_b o151_41 rfl rfl rfl rfl
theorem o151_44 : tm_op 151 44 = some (.goto 71, (0, 0, 0, 0)) := rfl
theorem r151_44 (d : Nat) (ls : tm_Lo) (st : List Value) (h : tm_H) (K : Option Value → tm_H → Prop) : tm_A d 151 44 ls st h K ↔ tm_A d 151 115 ls st h K := tm_s o151_44 rfl rfl rfl
theorem o151_47 : tm_op 151 47 = some (.iconst 0, (0, 0, 0, 0)) := rfl
theorem r151_47 (d : Nat) (ls : tm_Lo) (st : List Value) (h : tm_H) (K : Option Value → tm_H → Prop) : tm_A d 151 47 ls st h K ↔ tm_A d 151 48 ls (.int (0 : Int32) :: st) h K := tm_ic o151_47 (by decide)
theorem o151_48 : tm_op 151 48 = some (.istore 6, (0, 0, 0, 0)) := rfl
theorem r151_48 (d : Nat) (v : Int32) (l0 l1 l2 l3 l4 l5 l6 l7 : Option Value) (st : List Value) (h : tm_H) (K : Option Value → tm_H → Prop) : tm_A d 151 48 [l0, l1, l2, l3, l4, l5, l6, l7] (.int v :: st) h K ↔ tm_A d 151 50 [l0, l1, l2, l3, l4, l5, some (.int v), l7] st h K := tm_s o151_48 rfl rfl rfl
theorem o151_50 : tm_op 151 50 = some (.iconst 0, (0, 0, 0, 0)) := rfl
theorem r151_50 (d : Nat) (ls : tm_Lo) (st : List Value) (h : tm_H) (K : Option Value → tm_H → Prop) : tm_A d 151 50 ls st h K ↔ tm_A d 151 51 ls (.int (0 : Int32) :: st) h K := tm_ic o151_50 (by decide)
theorem o151_51 : tm_op 151 51 = some (.istore 7, (0, 0, 0, 0)) := rfl
theorem r151_51 (d : Nat) (v : Int32) (l0 l1 l2 l3 l4 l5 l6 l7 : Option Value) (st : List Value) (h : tm_H) (K : Option Value → tm_H → Prop) : tm_A d 151 51 [l0, l1, l2, l3, l4, l5, l6, l7] (.int v :: st) h K ↔ tm_A d 151 53 [l0, l1, l2, l3, l4, l5, l6, some (.int v)] st h K := tm_s o151_51 rfl rfl rfl
theorem o151_53 : tm_op 151 53 = some (.iload 7, (0, 0, 0, 0)) := rfl
theorem r151_53 (d : Nat) (v : Int32) (l0 l1 l2 l3 l4 l5 l6 : Option Value) (st : List Value) (h : tm_H) (K : Option Value → tm_H → Prop) : tm_A d 151 53 [l0, l1, l2, l3, l4, l5, l6, some (.int v)] st h K ↔ tm_A d 151 55 [l0, l1, l2, l3, l4, l5, l6, some (.int v)] (.int v :: st) h K := tm_s o151_53 rfl rfl rfl
theorem o151_55 : tm_op 151 55 = some (.aload_n 0, (0, 0, 0, 0)) := rfl
theorem r151_55 (d : Nat) (v : Nat) (l1 l2 l3 l4 l5 l6 l7 : Option Value) (st : List Value) (h : tm_H) (K : Option Value → tm_H → Prop) : tm_A d 151 55 [some (.ref v), l1, l2, l3, l4, l5, l6, l7] st h K ↔ tm_A d 151 56 [some (.ref v), l1, l2, l3, l4, l5, l6, l7] (.ref v :: st) h K := tm_s o151_55 rfl rfl rfl
theorem o151_56 : tm_op 151 56 = some (.getfield 159, (0, 10, 26, 0)) := rfl
theorem r151_56 (d : Nat) (a : Nat) (ls : tm_Lo) (st : List Value) (G : tm_G) (I : Nat → Nat → Int32) (J : Nat → Nat → Int64) (R : Nat → Nat → Option Nat) (K : Option Value → tm_H → Prop) : tm_A d 151 56 ls (.ref a :: st) (G, I, J, R) K ↔ G.2.2 a = (0, 10) ∧ tm_A d 151 59 ls (.int (I a 26) :: st) (G, I, J, R) K := tm_getI o151_56
theorem o151_59 : tm_op 151 59 = some (.if_icmp .ge 36, (0, 0, 0, 0)) := rfl
theorem r151_59 (d : Nat) (y x : Int32) (ls : tm_Lo) (st : List Value) (h : tm_H) (K : Option Value → tm_H → Prop) : tm_A d 151 59 ls (.int y :: .int x :: st) h K ↔ if y ≤ x then tm_A d 151 95 ls st h K else tm_A d 151 62 ls st h K := tm_b o151_59 rfl rfl rfl rfl
theorem o151_62 : tm_op 151 62 = some (.iload 6, (0, 0, 0, 0)) := rfl
theorem r151_62 (d : Nat) (v : Int32) (l0 l1 l2 l3 l4 l5 l7 : Option Value) (st : List Value) (h : tm_H) (K : Option Value → tm_H → Prop) : tm_A d 151 62 [l0, l1, l2, l3, l4, l5, some (.int v), l7] st h K ↔ tm_A d 151 64 [l0, l1, l2, l3, l4, l5, some (.int v), l7] (.int v :: st) h K := tm_s o151_62 rfl rfl rfl
theorem o151_64 : tm_op 151 64 = some (.aload_n 0, (0, 0, 0, 0)) := rfl
theorem r151_64 (d : Nat) (v : Nat) (l1 l2 l3 l4 l5 l6 l7 : Option Value) (st : List Value) (h : tm_H) (K : Option Value → tm_H → Prop) : tm_A d 151 64 [some (.ref v), l1, l2, l3, l4, l5, l6, l7] st h K ↔ tm_A d 151 65 [some (.ref v), l1, l2, l3, l4, l5, l6, l7] (.ref v :: st) h K := tm_s o151_64 rfl rfl rfl
theorem o151_65 : tm_op 151 65 = some (.aload_n 0, (0, 0, 0, 0)) := rfl
theorem r151_65 (d : Nat) (v : Nat) (l1 l2 l3 l4 l5 l6 l7 : Option Value) (st : List Value) (h : tm_H) (K : Option Value → tm_H → Prop) : tm_A d 151 65 [some (.ref v), l1, l2, l3, l4, l5, l6, l7] st h K ↔ tm_A d 151 66 [some (.ref v), l1, l2, l3, l4, l5, l6, l7] (.ref v :: st) h K := tm_s o151_65 rfl rfl rfl
theorem o151_66 : tm_op 151 66 = some (.getfield 62, (2, 10, 27, 0)) := rfl
theorem r151_66 (d : Nat) (a : Nat) (ls : tm_Lo) (st : List Value) (G : tm_G) (I : Nat → Nat → Int32) (J : Nat → Nat → Int64) (R : Nat → Nat → Option Nat) (K : Option Value → tm_H → Prop) : tm_A d 151 66 ls (.ref a :: st) (G, I, J, R) K ↔ G.2.2 a = (0, 10) ∧ tm_A d 151 69 ls (tm_rf (R a 27) :: st) (G, I, J, R) K := tm_getR o151_66
theorem o151_69 : tm_op 151 69 = some (.iload 7, (0, 0, 0, 0)) := rfl
theorem r151_69 (d : Nat) (v : Int32) (l0 l1 l2 l3 l4 l5 l6 : Option Value) (st : List Value) (h : tm_H) (K : Option Value → tm_H → Prop) : tm_A d 151 69 [l0, l1, l2, l3, l4, l5, l6, some (.int v)] st h K ↔ tm_A d 151 71 [l0, l1, l2, l3, l4, l5, l6, some (.int v)] (.int v :: st) h K := tm_s o151_69 rfl rfl rfl
theorem o151_71 : tm_op 151 71 = some (.iaload, (0, 0, 0, 0)) := rfl
theorem r151_71 (d : Nat) (v : Int32) (a : Nat) (ls : tm_Lo) (st : List Value) (G : tm_G) (I : Nat → Nat → Int32) (J : Nat → Nat → Int64) (R : Nat → Nat → Option Nat) (K : Option Value → tm_H → Prop) : tm_A d 151 71 ls (.int v :: .ref a :: st) (G, I, J, R) K ↔ ((G.2.2 a).1 = 1 ∧ tm_in v (G.2.2 a).2) ∧ tm_A d 151 72 ls (.int (I a (tm_ix v)) :: st) (G, I, J, R) K := tm_iald o151_71
theorem o151_72 : tm_op 151 72 = some (.iload_n 3, (0, 0, 0, 0)) := rfl
theorem r151_72 (d : Nat) (v : Int32) (l0 l1 l2 l4 l5 l6 l7 : Option Value) (st : List Value) (h : tm_H) (K : Option Value → tm_H → Prop) : tm_A d 151 72 [l0, l1, l2, some (.int v), l4, l5, l6, l7] st h K ↔ tm_A d 151 73 [l0, l1, l2, some (.int v), l4, l5, l6, l7] (.int v :: st) h K := tm_s o151_72 rfl rfl rfl
theorem o151_73 : tm_op 151 73 = some (.iload 5, (0, 0, 0, 0)) := rfl
theorem r151_73 (d : Nat) (v : Int32) (l0 l1 l2 l3 l4 l6 l7 : Option Value) (st : List Value) (h : tm_H) (K : Option Value → tm_H → Prop) : tm_A d 151 73 [l0, l1, l2, l3, l4, some (.int v), l6, l7] st h K ↔ tm_A d 151 75 [l0, l1, l2, l3, l4, some (.int v), l6, l7] (.int v :: st) h K := tm_s o151_73 rfl rfl rfl
theorem o151_75 : tm_op 151 75 = some (.invokevirtual 173, (2, 150, 4, 10)) := rfl
theorem r151_75 (d : Nat) (v1 : Int32) (v2 : Int32) (v3 : Int32) (a : Nat) (ls : tm_Lo) (st : List Value) (h : tm_H) (K : Option Value → tm_H → Prop) : tm_A (d + 1) 151 75 ls (.int v3 :: .int v2 :: .int v1 :: .ref a :: st) h K ↔ (h.1.2.2 a = (0, 10) ∧ tm_cs st) ∧ tm_R d 150 [.ref a, .int v1, .int v2, .int v3] h (fun r h' => tm_A (d + 1) 151 78 ls (r.toList ++ st) h' K) := tm_callV (as := [.int v1, .int v2, .int v3]) o151_75 rfl rfl rfl rfl
theorem o151_78 : tm_op 151 78 = some (.ifCond .eq 7, (0, 0, 0, 0)) := rfl
theorem r151_78 (d : Nat) (x : Int32) (ls : tm_Lo) (st : List Value) (h : tm_H) (K : Option Value → tm_H → Prop) : tm_A d 151 78 ls (.int x :: st) h K ↔ if x = 0 then tm_A d 151 85 ls st h K else tm_A d 151 81 ls st h K := tm_b o151_78 rfl rfl rfl rfl
theorem o151_81 : tm_op 151 81 = some (.iconst 1, (0, 0, 0, 0)) := rfl
theorem r151_81 (d : Nat) (ls : tm_Lo) (st : List Value) (h : tm_H) (K : Option Value → tm_H → Prop) : tm_A d 151 81 ls st h K ↔ tm_A d 151 82 ls (.int (1 : Int32) :: st) h K := tm_ic o151_81 (by decide)
theorem o151_82 : tm_op 151 82 = some (.goto 4, (0, 0, 0, 0)) := rfl
theorem r151_82 (d : Nat) (ls : tm_Lo) (st : List Value) (h : tm_H) (K : Option Value → tm_H → Prop) : tm_A d 151 82 ls st h K ↔ tm_A d 151 86 ls st h K := tm_s o151_82 rfl rfl rfl
theorem o151_85 : tm_op 151 85 = some (.iconst 0, (0, 0, 0, 0)) := rfl
theorem r151_85 (d : Nat) (ls : tm_Lo) (st : List Value) (h : tm_H) (K : Option Value → tm_H → Prop) : tm_A d 151 85 ls st h K ↔ tm_A d 151 86 ls (.int (0 : Int32) :: st) h K := tm_ic o151_85 (by decide)
theorem o151_86 : tm_op 151 86 = some (.iadd, (0, 0, 0, 0)) := rfl
theorem r151_86 (d : Nat) (u v : Int32) (ls : tm_Lo) (st : List Value) (h : tm_H) (K : Option Value → tm_H → Prop) : tm_A d 151 86 ls (.int u :: .int v :: st) h K ↔ tm_A d 151 87 ls (.int (v + u) :: st) h K := tm_s o151_86 rfl rfl rfl
theorem o151_87 : tm_op 151 87 = some (.istore 6, (0, 0, 0, 0)) := rfl
theorem r151_87 (d : Nat) (v : Int32) (l0 l1 l2 l3 l4 l5 l6 l7 : Option Value) (st : List Value) (h : tm_H) (K : Option Value → tm_H → Prop) : tm_A d 151 87 [l0, l1, l2, l3, l4, l5, l6, l7] (.int v :: st) h K ↔ tm_A d 151 89 [l0, l1, l2, l3, l4, l5, some (.int v), l7] st h K := tm_s o151_87 rfl rfl rfl
theorem o151_89 : tm_op 151 89 = some (.iinc 7 1, (0, 0, 0, 0)) := rfl
theorem r151_89 (d : Nat) (v : Int32) (l0 l1 l2 l3 l4 l5 l6 : Option Value) (st : List Value) (h : tm_H) (K : Option Value → tm_H → Prop) : tm_A d 151 89 [l0, l1, l2, l3, l4, l5, l6, some (.int v)] st h K ↔ tm_A d 151 92 [l0, l1, l2, l3, l4, l5, l6, some (.int (v + (1 : Int32)))] st h K := tm_s o151_89 rfl rfl rfl
theorem o151_92 : tm_op 151 92 = some (.goto (-39), (0, 0, 0, 0)) := rfl
theorem r151_92 (d : Nat) (ls : tm_Lo) (st : List Value) (h : tm_H) (K : Option Value → tm_H → Prop) : tm_A d 151 92 ls st h K ↔ tm_A d 151 53 ls st h K := tm_s o151_92 rfl rfl rfl
theorem o151_95 : tm_op 151 95 = some (.iload 4, (0, 0, 0, 0)) := rfl
theorem r151_95 (d : Nat) (v : Int32) (l0 l1 l2 l3 l5 l6 l7 : Option Value) (st : List Value) (h : tm_H) (K : Option Value → tm_H → Prop) : tm_A d 151 95 [l0, l1, l2, l3, some (.int v), l5, l6, l7] st h K ↔ tm_A d 151 97 [l0, l1, l2, l3, some (.int v), l5, l6, l7] (.int v :: st) h K := tm_s o151_95 rfl rfl rfl
theorem o151_97 : tm_op 151 97 = some (.iload 6, (0, 0, 0, 0)) := rfl
theorem r151_97 (d : Nat) (v : Int32) (l0 l1 l2 l3 l4 l5 l7 : Option Value) (st : List Value) (h : tm_H) (K : Option Value → tm_H → Prop) : tm_A d 151 97 [l0, l1, l2, l3, l4, l5, some (.int v), l7] st h K ↔ tm_A d 151 99 [l0, l1, l2, l3, l4, l5, some (.int v), l7] (.int v :: st) h K := tm_s o151_97 rfl rfl rfl
theorem o151_99 : tm_op 151 99 = some (.iconst 4, (0, 0, 0, 0)) := rfl
theorem r151_99 (d : Nat) (ls : tm_Lo) (st : List Value) (h : tm_H) (K : Option Value → tm_H → Prop) : tm_A d 151 99 ls st h K ↔ tm_A d 151 100 ls (.int (4 : Int32) :: st) h K := tm_ic o151_99 (by decide)
theorem o151_100 : tm_op 151 100 = some (.if_icmp .le 7, (0, 0, 0, 0)) := rfl
theorem r151_100 (d : Nat) (y x : Int32) (ls : tm_Lo) (st : List Value) (h : tm_H) (K : Option Value → tm_H → Prop) : tm_A d 151 100 ls (.int y :: .int x :: st) h K ↔ if x ≤ y then tm_A d 151 107 ls st h K else tm_A d 151 103 ls st h K := tm_b o151_100 rfl rfl rfl rfl
theorem o151_103 : tm_op 151 103 = some (.iconst 0, (0, 0, 0, 0)) := rfl
theorem r151_103 (d : Nat) (ls : tm_Lo) (st : List Value) (h : tm_H) (K : Option Value → tm_H → Prop) : tm_A d 151 103 ls st h K ↔ tm_A d 151 104 ls (.int (0 : Int32) :: st) h K := tm_ic o151_103 (by decide)
theorem o151_104 : tm_op 151 104 = some (.goto 8, (0, 0, 0, 0)) := rfl
theorem r151_104 (d : Nat) (ls : tm_Lo) (st : List Value) (h : tm_H) (K : Option Value → tm_H → Prop) : tm_A d 151 104 ls st h K ↔ tm_A d 151 112 ls st h K := tm_s o151_104 rfl rfl rfl
theorem o151_107 : tm_op 151 107 = some (.bipush 12, (0, 0, 0, 0)) := rfl
theorem r151_107 (d : Nat) (ls : tm_Lo) (st : List Value) (h : tm_H) (K : Option Value → tm_H → Prop) : tm_A d 151 107 ls st h K ↔ tm_A d 151 109 ls (.int (12 : Int32) :: st) h K := tm_bp o151_107 (by decide)
theorem o151_109 : tm_op 151 109 = some (.iload 6, (0, 0, 0, 0)) := rfl
theorem r151_109 (d : Nat) (v : Int32) (l0 l1 l2 l3 l4 l5 l7 : Option Value) (st : List Value) (h : tm_H) (K : Option Value → tm_H → Prop) : tm_A d 151 109 [l0, l1, l2, l3, l4, l5, some (.int v), l7] st h K ↔ tm_A d 151 111 [l0, l1, l2, l3, l4, l5, some (.int v), l7] (.int v :: st) h K := tm_s o151_109 rfl rfl rfl
theorem o151_111 : tm_op 151 111 = some (.idiv, (0, 0, 0, 0)) := rfl
theorem r151_111 (d : Nat) (u v : Int32) (ls : tm_Lo) (st : List Value) (h : tm_H) (K : Option Value → tm_H → Prop) : tm_A d 151 111 ls (.int u :: .int v :: st) h K ↔ ¬ u = 0 ∧ tm_A d 151 112 ls (.int (v / u) :: st) h K := tm_idv o151_111
theorem o151_112 : tm_op 151 112 = some (.iadd, (0, 0, 0, 0)) := rfl
theorem r151_112 (d : Nat) (u v : Int32) (ls : tm_Lo) (st : List Value) (h : tm_H) (K : Option Value → tm_H → Prop) : tm_A d 151 112 ls (.int u :: .int v :: st) h K ↔ tm_A d 151 113 ls (.int (v + u) :: st) h K := tm_s o151_112 rfl rfl rfl
theorem o151_113 : tm_op 151 113 = some (.istore 4, (0, 0, 0, 0)) := rfl
theorem r151_113 (d : Nat) (v : Int32) (l0 l1 l2 l3 l4 l5 l6 l7 : Option Value) (st : List Value) (h : tm_H) (K : Option Value → tm_H → Prop) : tm_A d 151 113 [l0, l1, l2, l3, l4, l5, l6, l7] (.int v :: st) h K ↔ tm_A d 151 115 [l0, l1, l2, l3, some (.int v), l5, l6, l7] st h K := tm_s o151_113 rfl rfl rfl
theorem o151_115 : tm_op 151 115 = some (.iinc 5 1, (0, 0, 0, 0)) := rfl
theorem r151_115 (d : Nat) (v : Int32) (l0 l1 l2 l3 l4 l6 l7 : Option Value) (st : List Value) (h : tm_H) (K : Option Value → tm_H → Prop) : tm_A d 151 115 [l0, l1, l2, l3, l4, some (.int v), l6, l7] st h K ↔ tm_A d 151 118 [l0, l1, l2, l3, l4, some (.int (v + (1 : Int32))), l6, l7] st h K := tm_s o151_115 rfl rfl rfl
theorem o151_118 : tm_op 151 118 = some (.goto (-101), (0, 0, 0, 0)) := rfl
theorem r151_118 (d : Nat) (ls : tm_Lo) (st : List Value) (h : tm_H) (K : Option Value → tm_H → Prop) : tm_A d 151 118 ls st h K ↔ tm_A d 151 17 ls st h K := tm_s o151_118 rfl rfl rfl
theorem o151_121 : tm_op 151 121 = some (.iload 4, (0, 0, 0, 0)) := rfl
theorem r151_121 (d : Nat) (v : Int32) (l0 l1 l2 l3 l5 l6 l7 : Option Value) (st : List Value) (h : tm_H) (K : Option Value → tm_H → Prop) : tm_A d 151 121 [l0, l1, l2, l3, some (.int v), l5, l6, l7] st h K ↔ tm_A d 151 123 [l0, l1, l2, l3, some (.int v), l5, l6, l7] (.int v :: st) h K := tm_s o151_121 rfl rfl rfl
theorem o151_123 : tm_op 151 123 = some (.ireturn, (0, 0, 0, 0)) := rfl
theorem r151_123 (d : Nat) (v : Int32) (ls : tm_Lo) (h : tm_H) (K : Option Value → tm_H → Prop) : tm_A d 151 123 ls [.int v] h K ↔ K (some (.int v)) h := tm_reti o151_123 rfl
theorem o152_0 : tm_op 152 0 = some (.aload_n 0, (0, 0, 0, 0)) := rfl
theorem r152_0 (d : Nat) (v : Nat) (l1 l2 l3 : Option Value) (st : List Value) (h : tm_H) (K : Option Value → tm_H → Prop) : tm_A d 152 0 [some (.ref v), l1, l2, l3] st h K ↔ tm_A d 152 1 [some (.ref v), l1, l2, l3] (.ref v :: st) h K := tm_s o152_0 rfl rfl rfl
theorem o152_1 : tm_op 152 1 = some (.getfield 65, (2, 10, 28, 0)) := rfl
theorem r152_1 (d : Nat) (a : Nat) (ls : tm_Lo) (st : List Value) (G : tm_G) (I : Nat → Nat → Int32) (J : Nat → Nat → Int64) (R : Nat → Nat → Option Nat) (K : Option Value → tm_H → Prop) : tm_A d 152 1 ls (.ref a :: st) (G, I, J, R) K ↔ G.2.2 a = (0, 10) ∧ tm_A d 152 4 ls (tm_rf (R a 28) :: st) (G, I, J, R) K := tm_getR o152_1
theorem o152_4 : tm_op 152 4 = some (.bipush 10, (0, 0, 0, 0)) := rfl
theorem r152_4 (d : Nat) (ls : tm_Lo) (st : List Value) (h : tm_H) (K : Option Value → tm_H → Prop) : tm_A d 152 4 ls st h K ↔ tm_A d 152 6 ls (.int (10 : Int32) :: st) h K := tm_bp o152_4 (by decide)
theorem o152_6 : tm_op 152 6 = some (.iload_n 1, (0, 0, 0, 0)) := rfl
theorem r152_6 (d : Nat) (v : Int32) (l0 l2 l3 : Option Value) (st : List Value) (h : tm_H) (K : Option Value → tm_H → Prop) : tm_A d 152 6 [l0, some (.int v), l2, l3] st h K ↔ tm_A d 152 7 [l0, some (.int v), l2, l3] (.int v :: st) h K := tm_s o152_6 rfl rfl rfl
theorem o152_7 : tm_op 152 7 = some (.imul, (0, 0, 0, 0)) := rfl
theorem r152_7 (d : Nat) (u v : Int32) (ls : tm_Lo) (st : List Value) (h : tm_H) (K : Option Value → tm_H → Prop) : tm_A d 152 7 ls (.int u :: .int v :: st) h K ↔ tm_A d 152 8 ls (.int (v * u) :: st) h K := tm_s o152_7 rfl rfl rfl
theorem o152_8 : tm_op 152 8 = some (.iload_n 2, (0, 0, 0, 0)) := rfl
theorem r152_8 (d : Nat) (v : Int32) (l0 l1 l3 : Option Value) (st : List Value) (h : tm_H) (K : Option Value → tm_H → Prop) : tm_A d 152 8 [l0, l1, some (.int v), l3] st h K ↔ tm_A d 152 9 [l0, l1, some (.int v), l3] (.int v :: st) h K := tm_s o152_8 rfl rfl rfl
theorem o152_9 : tm_op 152 9 = some (.iadd, (0, 0, 0, 0)) := rfl
theorem r152_9 (d : Nat) (u v : Int32) (ls : tm_Lo) (st : List Value) (h : tm_H) (K : Option Value → tm_H → Prop) : tm_A d 152 9 ls (.int u :: .int v :: st) h K ↔ tm_A d 152 10 ls (.int (v + u) :: st) h K := tm_s o152_9 rfl rfl rfl
theorem o152_10 : tm_op 152 10 = some (.iaload, (0, 0, 0, 0)) := rfl
theorem r152_10 (d : Nat) (v : Int32) (a : Nat) (ls : tm_Lo) (st : List Value) (G : tm_G) (I : Nat → Nat → Int32) (J : Nat → Nat → Int64) (R : Nat → Nat → Option Nat) (K : Option Value → tm_H → Prop) : tm_A d 152 10 ls (.int v :: .ref a :: st) (G, I, J, R) K ↔ ((G.2.2 a).1 = 1 ∧ tm_in v (G.2.2 a).2) ∧ tm_A d 152 11 ls (.int (I a (tm_ix v)) :: st) (G, I, J, R) K := tm_iald o152_10
theorem o152_11 : tm_op 152 11 = some (.iconst 2, (0, 0, 0, 0)) := rfl
theorem r152_11 (d : Nat) (ls : tm_Lo) (st : List Value) (h : tm_H) (K : Option Value → tm_H → Prop) : tm_A d 152 11 ls st h K ↔ tm_A d 152 12 ls (.int (2 : Int32) :: st) h K := tm_ic o152_11 (by decide)
theorem o152_12 : tm_op 152 12 = some (.if_icmp .eq 36, (0, 0, 0, 0)) := rfl
theorem r152_12 (d : Nat) (y x : Int32) (ls : tm_Lo) (st : List Value) (h : tm_H) (K : Option Value → tm_H → Prop) : tm_A d 152 12 ls (.int y :: .int x :: st) h K ↔ if x = y then tm_A d 152 48 ls st h K else tm_A d 152 15 ls st h K := tm_b o152_12 rfl rfl rfl rfl
theorem o152_15 : tm_op 152 15 = some (.aload_n 0, (0, 0, 0, 0)) := rfl
theorem r152_15 (d : Nat) (v : Nat) (l1 l2 l3 : Option Value) (st : List Value) (h : tm_H) (K : Option Value → tm_H → Prop) : tm_A d 152 15 [some (.ref v), l1, l2, l3] st h K ↔ tm_A d 152 16 [some (.ref v), l1, l2, l3] (.ref v :: st) h K := tm_s o152_15 rfl rfl rfl
theorem o152_16 : tm_op 152 16 = some (.iload_n 1, (0, 0, 0, 0)) := rfl
theorem r152_16 (d : Nat) (v : Int32) (l0 l2 l3 : Option Value) (st : List Value) (h : tm_H) (K : Option Value → tm_H → Prop) : tm_A d 152 16 [l0, some (.int v), l2, l3] st h K ↔ tm_A d 152 17 [l0, some (.int v), l2, l3] (.int v :: st) h K := tm_s o152_16 rfl rfl rfl
theorem o152_17 : tm_op 152 17 = some (.iconst 4, (0, 0, 0, 0)) := rfl
theorem r152_17 (d : Nat) (ls : tm_Lo) (st : List Value) (h : tm_H) (K : Option Value → tm_H → Prop) : tm_A d 152 17 ls st h K ↔ tm_A d 152 18 ls (.int (4 : Int32) :: st) h K := tm_ic o152_17 (by decide)
theorem o152_18 : tm_op 152 18 = some (.invokevirtual 176, (2, 140, 3, 10)) := rfl
theorem r152_18 (d : Nat) (v1 : Int32) (v2 : Int32) (a : Nat) (ls : tm_Lo) (st : List Value) (h : tm_H) (K : Option Value → tm_H → Prop) : tm_A (d + 1) 152 18 ls (.int v2 :: .int v1 :: .ref a :: st) h K ↔ (h.1.2.2 a = (0, 10) ∧ tm_cs st) ∧ tm_R d 140 [.ref a, .int v1, .int v2] h (fun r h' => tm_A (d + 1) 152 21 ls (r.toList ++ st) h' K) := tm_callV (as := [.int v1, .int v2]) o152_18 rfl rfl rfl rfl
theorem o152_21 : tm_op 152 21 = some (.ifCond .eq 31, (0, 0, 0, 0)) := rfl
theorem r152_21 (d : Nat) (x : Int32) (ls : tm_Lo) (st : List Value) (h : tm_H) (K : Option Value → tm_H → Prop) : tm_A d 152 21 ls (.int x :: st) h K ↔ if x = 0 then tm_A d 152 52 ls st h K else tm_A d 152 24 ls st h K := tm_b o152_21 rfl rfl rfl rfl
theorem o152_24 : tm_op 152 24 = some (.aload_n 0, (0, 0, 0, 0)) := rfl
theorem r152_24 (d : Nat) (v : Nat) (l1 l2 l3 : Option Value) (st : List Value) (h : tm_H) (K : Option Value → tm_H → Prop) : tm_A d 152 24 [some (.ref v), l1, l2, l3] st h K ↔ tm_A d 152 25 [some (.ref v), l1, l2, l3] (.ref v :: st) h K := tm_s o152_24 rfl rfl rfl
theorem o152_25 : tm_op 152 25 = some (.iload_n 2, (0, 0, 0, 0)) := rfl
theorem r152_25 (d : Nat) (v : Int32) (l0 l1 l3 : Option Value) (st : List Value) (h : tm_H) (K : Option Value → tm_H → Prop) : tm_A d 152 25 [l0, l1, some (.int v), l3] st h K ↔ tm_A d 152 26 [l0, l1, some (.int v), l3] (.int v :: st) h K := tm_s o152_25 rfl rfl rfl
theorem o152_26 : tm_op 152 26 = some (.iconst 4, (0, 0, 0, 0)) := rfl
theorem r152_26 (d : Nat) (ls : tm_Lo) (st : List Value) (h : tm_H) (K : Option Value → tm_H → Prop) : tm_A d 152 26 ls st h K ↔ tm_A d 152 27 ls (.int (4 : Int32) :: st) h K := tm_ic o152_26 (by decide)
theorem o152_27 : tm_op 152 27 = some (.invokevirtual 176, (2, 140, 3, 10)) := rfl
theorem r152_27 (d : Nat) (v1 : Int32) (v2 : Int32) (a : Nat) (ls : tm_Lo) (st : List Value) (h : tm_H) (K : Option Value → tm_H → Prop) : tm_A (d + 1) 152 27 ls (.int v2 :: .int v1 :: .ref a :: st) h K ↔ (h.1.2.2 a = (0, 10) ∧ tm_cs st) ∧ tm_R d 140 [.ref a, .int v1, .int v2] h (fun r h' => tm_A (d + 1) 152 30 ls (r.toList ++ st) h' K) := tm_callV (as := [.int v1, .int v2]) o152_27 rfl rfl rfl rfl
theorem o152_30 : tm_op 152 30 = some (.ifCond .eq 22, (0, 0, 0, 0)) := rfl
theorem r152_30 (d : Nat) (x : Int32) (ls : tm_Lo) (st : List Value) (h : tm_H) (K : Option Value → tm_H → Prop) : tm_A d 152 30 ls (.int x :: st) h K ↔ if x = 0 then tm_A d 152 52 ls st h K else tm_A d 152 33 ls st h K := tm_b o152_30 rfl rfl rfl rfl
theorem o152_33 : tm_op 152 33 = some (.aload_n 0, (0, 0, 0, 0)) := rfl
theorem r152_33 (d : Nat) (v : Nat) (l1 l2 l3 : Option Value) (st : List Value) (h : tm_H) (K : Option Value → tm_H → Prop) : tm_A d 152 33 [some (.ref v), l1, l2, l3] st h K ↔ tm_A d 152 34 [some (.ref v), l1, l2, l3] (.ref v :: st) h K := tm_s o152_33 rfl rfl rfl
theorem o152_34 : tm_op 152 34 = some (.iload_n 1, (0, 0, 0, 0)) := rfl
theorem r152_34 (d : Nat) (v : Int32) (l0 l2 l3 : Option Value) (st : List Value) (h : tm_H) (K : Option Value → tm_H → Prop) : tm_A d 152 34 [l0, some (.int v), l2, l3] st h K ↔ tm_A d 152 35 [l0, some (.int v), l2, l3] (.int v :: st) h K := tm_s o152_34 rfl rfl rfl
theorem o152_35 : tm_op 152 35 = some (.iconst 4, (0, 0, 0, 0)) := rfl
theorem r152_35 (d : Nat) (ls : tm_Lo) (st : List Value) (h : tm_H) (K : Option Value → tm_H → Prop) : tm_A d 152 35 ls st h K ↔ tm_A d 152 36 ls (.int (4 : Int32) :: st) h K := tm_ic o152_35 (by decide)
theorem o152_36 : tm_op 152 36 = some (.invokevirtual 179, (2, 141, 3, 10)) := rfl
theorem r152_36 (d : Nat) (v1 : Int32) (v2 : Int32) (a : Nat) (ls : tm_Lo) (st : List Value) (h : tm_H) (K : Option Value → tm_H → Prop) : tm_A (d + 1) 152 36 ls (.int v2 :: .int v1 :: .ref a :: st) h K ↔ (h.1.2.2 a = (0, 10) ∧ tm_cs st) ∧ tm_R d 141 [.ref a, .int v1, .int v2] h (fun r h' => tm_A (d + 1) 152 39 ls (r.toList ++ st) h' K) := tm_callV (as := [.int v1, .int v2]) o152_36 rfl rfl rfl rfl
theorem o152_39 : tm_op 152 39 = some (.aload_n 0, (0, 0, 0, 0)) := rfl
theorem r152_39 (d : Nat) (v : Nat) (l1 l2 l3 : Option Value) (st : List Value) (h : tm_H) (K : Option Value → tm_H → Prop) : tm_A d 152 39 [some (.ref v), l1, l2, l3] st h K ↔ tm_A d 152 40 [some (.ref v), l1, l2, l3] (.ref v :: st) h K := tm_s o152_39 rfl rfl rfl
theorem o152_40 : tm_op 152 40 = some (.iload_n 2, (0, 0, 0, 0)) := rfl
theorem r152_40 (d : Nat) (v : Int32) (l0 l1 l3 : Option Value) (st : List Value) (h : tm_H) (K : Option Value → tm_H → Prop) : tm_A d 152 40 [l0, l1, some (.int v), l3] st h K ↔ tm_A d 152 41 [l0, l1, some (.int v), l3] (.int v :: st) h K := tm_s o152_40 rfl rfl rfl
theorem o152_41 : tm_op 152 41 = some (.iconst 4, (0, 0, 0, 0)) := rfl
theorem r152_41 (d : Nat) (ls : tm_Lo) (st : List Value) (h : tm_H) (K : Option Value → tm_H → Prop) : tm_A d 152 41 ls st h K ↔ tm_A d 152 42 ls (.int (4 : Int32) :: st) h K := tm_ic o152_41 (by decide)
theorem o152_42 : tm_op 152 42 = some (.invokevirtual 179, (2, 141, 3, 10)) := rfl
theorem r152_42 (d : Nat) (v1 : Int32) (v2 : Int32) (a : Nat) (ls : tm_Lo) (st : List Value) (h : tm_H) (K : Option Value → tm_H → Prop) : tm_A (d + 1) 152 42 ls (.int v2 :: .int v1 :: .ref a :: st) h K ↔ (h.1.2.2 a = (0, 10) ∧ tm_cs st) ∧ tm_R d 141 [.ref a, .int v1, .int v2] h (fun r h' => tm_A (d + 1) 152 45 ls (r.toList ++ st) h' K) := tm_callV (as := [.int v1, .int v2]) o152_42 rfl rfl rfl rfl
theorem o152_45 : tm_op 152 45 = some (.if_icmp .eq 7, (0, 0, 0, 0)) := rfl
theorem r152_45 (d : Nat) (y x : Int32) (ls : tm_Lo) (st : List Value) (h : tm_H) (K : Option Value → tm_H → Prop) : tm_A d 152 45 ls (.int y :: .int x :: st) h K ↔ if x = y then tm_A d 152 52 ls st h K else tm_A d 152 48 ls st h K := tm_b o152_45 rfl rfl rfl rfl
theorem o152_48 : tm_op 152 48 = some (.sipush 1000, (0, 0, 0, 0)) := rfl
theorem r152_48 (d : Nat) (ls : tm_Lo) (st : List Value) (h : tm_H) (K : Option Value → tm_H → Prop) : tm_A d 152 48 ls st h K ↔ tm_A d 152 51 ls (.int (1000 : Int32) :: st) h K := tm_sp o152_48 (by decide)
theorem o152_51 : tm_op 152 51 = some (.ireturn, (0, 0, 0, 0)) := rfl
theorem r152_51 (d : Nat) (v : Int32) (ls : tm_Lo) (h : tm_H) (K : Option Value → tm_H → Prop) : tm_A d 152 51 ls [.int v] h K ↔ K (some (.int v)) h := tm_reti o152_51 rfl
theorem o152_52 : tm_op 152 52 = some (.iconst 0, (0, 0, 0, 0)) := rfl
theorem r152_52 (d : Nat) (ls : tm_Lo) (st : List Value) (h : tm_H) (K : Option Value → tm_H → Prop) : tm_A d 152 52 ls st h K ↔ tm_A d 152 53 ls (.int (0 : Int32) :: st) h K := tm_ic o152_52 (by decide)
theorem o152_53 : tm_op 152 53 = some (.istore_n 3, (0, 0, 0, 0)) := rfl
theorem r152_53 (d : Nat) (v : Int32) (l0 l1 l2 l3 : Option Value) (st : List Value) (h : tm_H) (K : Option Value → tm_H → Prop) : tm_A d 152 53 [l0, l1, l2, l3] (.int v :: st) h K ↔ tm_A d 152 54 [l0, l1, l2, some (.int v)] st h K := tm_s o152_53 rfl rfl rfl
theorem o152_54 : tm_op 152 54 = some (.aload_n 0, (0, 0, 0, 0)) := rfl
theorem r152_54 (d : Nat) (v : Nat) (l1 l2 l3 : Option Value) (st : List Value) (h : tm_H) (K : Option Value → tm_H → Prop) : tm_A d 152 54 [some (.ref v), l1, l2, l3] st h K ↔ tm_A d 152 55 [some (.ref v), l1, l2, l3] (.ref v :: st) h K := tm_s o152_54 rfl rfl rfl
theorem o152_55 : tm_op 152 55 = some (.iload_n 1, (0, 0, 0, 0)) := rfl
theorem r152_55 (d : Nat) (v : Int32) (l0 l2 l3 : Option Value) (st : List Value) (h : tm_H) (K : Option Value → tm_H → Prop) : tm_A d 152 55 [l0, some (.int v), l2, l3] st h K ↔ tm_A d 152 56 [l0, some (.int v), l2, l3] (.int v :: st) h K := tm_s o152_55 rfl rfl rfl
theorem o152_56 : tm_op 152 56 = some (.iconst 1, (0, 0, 0, 0)) := rfl
theorem r152_56 (d : Nat) (ls : tm_Lo) (st : List Value) (h : tm_H) (K : Option Value → tm_H → Prop) : tm_A d 152 56 ls st h K ↔ tm_A d 152 57 ls (.int (1 : Int32) :: st) h K := tm_ic o152_56 (by decide)
theorem o152_57 : tm_op 152 57 = some (.invokevirtual 176, (2, 140, 3, 10)) := rfl
theorem r152_57 (d : Nat) (v1 : Int32) (v2 : Int32) (a : Nat) (ls : tm_Lo) (st : List Value) (h : tm_H) (K : Option Value → tm_H → Prop) : tm_A (d + 1) 152 57 ls (.int v2 :: .int v1 :: .ref a :: st) h K ↔ (h.1.2.2 a = (0, 10) ∧ tm_cs st) ∧ tm_R d 140 [.ref a, .int v1, .int v2] h (fun r h' => tm_A (d + 1) 152 60 ls (r.toList ++ st) h' K) := tm_callV (as := [.int v1, .int v2]) o152_57 rfl rfl rfl rfl
theorem o152_60 : tm_op 152 60 = some (.ifCond .eq 39, (0, 0, 0, 0)) := rfl
theorem r152_60 (d : Nat) (x : Int32) (ls : tm_Lo) (st : List Value) (h : tm_H) (K : Option Value → tm_H → Prop) : tm_A d 152 60 ls (.int x :: st) h K ↔ if x = 0 then tm_A d 152 99 ls st h K else tm_A d 152 63 ls st h K := tm_b o152_60 rfl rfl rfl rfl
theorem o152_63 : tm_op 152 63 = some (.aload_n 0, (0, 0, 0, 0)) := rfl
theorem r152_63 (d : Nat) (v : Nat) (l1 l2 l3 : Option Value) (st : List Value) (h : tm_H) (K : Option Value → tm_H → Prop) : tm_A d 152 63 [some (.ref v), l1, l2, l3] st h K ↔ tm_A d 152 64 [some (.ref v), l1, l2, l3] (.ref v :: st) h K := tm_s o152_63 rfl rfl rfl
theorem o152_64 : tm_op 152 64 = some (.iload_n 2, (0, 0, 0, 0)) := rfl
theorem r152_64 (d : Nat) (v : Int32) (l0 l1 l3 : Option Value) (st : List Value) (h : tm_H) (K : Option Value → tm_H → Prop) : tm_A d 152 64 [l0, l1, some (.int v), l3] st h K ↔ tm_A d 152 65 [l0, l1, some (.int v), l3] (.int v :: st) h K := tm_s o152_64 rfl rfl rfl
theorem o152_65 : tm_op 152 65 = some (.iconst 1, (0, 0, 0, 0)) := rfl
theorem r152_65 (d : Nat) (ls : tm_Lo) (st : List Value) (h : tm_H) (K : Option Value → tm_H → Prop) : tm_A d 152 65 ls st h K ↔ tm_A d 152 66 ls (.int (1 : Int32) :: st) h K := tm_ic o152_65 (by decide)
theorem o152_66 : tm_op 152 66 = some (.invokevirtual 176, (2, 140, 3, 10)) := rfl
theorem r152_66 (d : Nat) (v1 : Int32) (v2 : Int32) (a : Nat) (ls : tm_Lo) (st : List Value) (h : tm_H) (K : Option Value → tm_H → Prop) : tm_A (d + 1) 152 66 ls (.int v2 :: .int v1 :: .ref a :: st) h K ↔ (h.1.2.2 a = (0, 10) ∧ tm_cs st) ∧ tm_R d 140 [.ref a, .int v1, .int v2] h (fun r h' => tm_A (d + 1) 152 69 ls (r.toList ++ st) h' K) := tm_callV (as := [.int v1, .int v2]) o152_66 rfl rfl rfl rfl
theorem o152_69 : tm_op 152 69 = some (.ifCond .eq 30, (0, 0, 0, 0)) := rfl
theorem r152_69 (d : Nat) (x : Int32) (ls : tm_Lo) (st : List Value) (h : tm_H) (K : Option Value → tm_H → Prop) : tm_A d 152 69 ls (.int x :: st) h K ↔ if x = 0 then tm_A d 152 99 ls st h K else tm_A d 152 72 ls st h K := tm_b o152_69 rfl rfl rfl rfl
theorem o152_72 : tm_op 152 72 = some (.aload_n 0, (0, 0, 0, 0)) := rfl
theorem r152_72 (d : Nat) (v : Nat) (l1 l2 l3 : Option Value) (st : List Value) (h : tm_H) (K : Option Value → tm_H → Prop) : tm_A d 152 72 [some (.ref v), l1, l2, l3] st h K ↔ tm_A d 152 73 [some (.ref v), l1, l2, l3] (.ref v :: st) h K := tm_s o152_72 rfl rfl rfl
theorem o152_73 : tm_op 152 73 = some (.iload_n 1, (0, 0, 0, 0)) := rfl
theorem r152_73 (d : Nat) (v : Int32) (l0 l2 l3 : Option Value) (st : List Value) (h : tm_H) (K : Option Value → tm_H → Prop) : tm_A d 152 73 [l0, some (.int v), l2, l3] st h K ↔ tm_A d 152 74 [l0, some (.int v), l2, l3] (.int v :: st) h K := tm_s o152_73 rfl rfl rfl
theorem o152_74 : tm_op 152 74 = some (.iconst 1, (0, 0, 0, 0)) := rfl
theorem r152_74 (d : Nat) (ls : tm_Lo) (st : List Value) (h : tm_H) (K : Option Value → tm_H → Prop) : tm_A d 152 74 ls st h K ↔ tm_A d 152 75 ls (.int (1 : Int32) :: st) h K := tm_ic o152_74 (by decide)
theorem o152_75 : tm_op 152 75 = some (.invokevirtual 179, (2, 141, 3, 10)) := rfl
theorem r152_75 (d : Nat) (v1 : Int32) (v2 : Int32) (a : Nat) (ls : tm_Lo) (st : List Value) (h : tm_H) (K : Option Value → tm_H → Prop) : tm_A (d + 1) 152 75 ls (.int v2 :: .int v1 :: .ref a :: st) h K ↔ (h.1.2.2 a = (0, 10) ∧ tm_cs st) ∧ tm_R d 141 [.ref a, .int v1, .int v2] h (fun r h' => tm_A (d + 1) 152 78 ls (r.toList ++ st) h' K) := tm_callV (as := [.int v1, .int v2]) o152_75 rfl rfl rfl rfl
theorem o152_78 : tm_op 152 78 = some (.aload_n 0, (0, 0, 0, 0)) := rfl
theorem r152_78 (d : Nat) (v : Nat) (l1 l2 l3 : Option Value) (st : List Value) (h : tm_H) (K : Option Value → tm_H → Prop) : tm_A d 152 78 [some (.ref v), l1, l2, l3] st h K ↔ tm_A d 152 79 [some (.ref v), l1, l2, l3] (.ref v :: st) h K := tm_s o152_78 rfl rfl rfl
theorem o152_79 : tm_op 152 79 = some (.iload_n 2, (0, 0, 0, 0)) := rfl
theorem r152_79 (d : Nat) (v : Int32) (l0 l1 l3 : Option Value) (st : List Value) (h : tm_H) (K : Option Value → tm_H → Prop) : tm_A d 152 79 [l0, l1, some (.int v), l3] st h K ↔ tm_A d 152 80 [l0, l1, some (.int v), l3] (.int v :: st) h K := tm_s o152_79 rfl rfl rfl
theorem o152_80 : tm_op 152 80 = some (.iconst 1, (0, 0, 0, 0)) := rfl
theorem r152_80 (d : Nat) (ls : tm_Lo) (st : List Value) (h : tm_H) (K : Option Value → tm_H → Prop) : tm_A d 152 80 ls st h K ↔ tm_A d 152 81 ls (.int (1 : Int32) :: st) h K := tm_ic o152_80 (by decide)
theorem o152_81 : tm_op 152 81 = some (.invokevirtual 179, (2, 141, 3, 10)) := rfl
theorem r152_81 (d : Nat) (v1 : Int32) (v2 : Int32) (a : Nat) (ls : tm_Lo) (st : List Value) (h : tm_H) (K : Option Value → tm_H → Prop) : tm_A (d + 1) 152 81 ls (.int v2 :: .int v1 :: .ref a :: st) h K ↔ (h.1.2.2 a = (0, 10) ∧ tm_cs st) ∧ tm_R d 141 [.ref a, .int v1, .int v2] h (fun r h' => tm_A (d + 1) 152 84 ls (r.toList ++ st) h' K) := tm_callV (as := [.int v1, .int v2]) o152_81 rfl rfl rfl rfl
theorem o152_84 : tm_op 152 84 = some (.isub, (0, 0, 0, 0)) := rfl
theorem r152_84 (d : Nat) (u v : Int32) (ls : tm_Lo) (st : List Value) (h : tm_H) (K : Option Value → tm_H → Prop) : tm_A d 152 84 ls (.int u :: .int v :: st) h K ↔ tm_A d 152 85 ls (.int (v - u) :: st) h K := tm_s o152_84 rfl rfl rfl
theorem o152_85 : tm_op 152 85 = some (.invokestatic 183, (6, 0, 0, 0)) := rfl
theorem r152_85 (d : Nat) (v0 : Int32) (ls : tm_Lo) (st : List Value) (h : tm_H) (K : Option Value → tm_H → Prop) : tm_A (d + 1) 152 85 ls (.int v0 :: st) h K ↔ tm_cs st ∧ tm_A (d + 1) 152 88 ls (.int (if 0 ≤ v0 then v0 else 0 - v0) :: st) h K := tm_abs o152_85 rfl rfl
theorem o152_88 : tm_op 152 88 = some (.istore_n 3, (0, 0, 0, 0)) := rfl
theorem r152_88 (d : Nat) (v : Int32) (l0 l1 l2 l3 : Option Value) (st : List Value) (h : tm_H) (K : Option Value → tm_H → Prop) : tm_A d 152 88 [l0, l1, l2, l3] (.int v :: st) h K ↔ tm_A d 152 89 [l0, l1, l2, some (.int v)] st h K := tm_s o152_88 rfl rfl rfl
theorem o152_89 : tm_op 152 89 = some (.iload_n 3, (0, 0, 0, 0)) := rfl
theorem r152_89 (d : Nat) (v : Int32) (l0 l1 l2 : Option Value) (st : List Value) (h : tm_H) (K : Option Value → tm_H → Prop) : tm_A d 152 89 [l0, l1, l2, some (.int v)] st h K ↔ tm_A d 152 90 [l0, l1, l2, some (.int v)] (.int v :: st) h K := tm_s o152_89 rfl rfl rfl
theorem o152_90 : tm_op 152 90 = some (.bipush 9, (0, 0, 0, 0)) := rfl
theorem r152_90 (d : Nat) (ls : tm_Lo) (st : List Value) (h : tm_H) (K : Option Value → tm_H → Prop) : tm_A d 152 90 ls st h K ↔ tm_A d 152 92 ls (.int (9 : Int32) :: st) h K := tm_bp o152_90 (by decide)
theorem o152_92 : tm_op 152 92 = some (.if_icmp .le 7, (0, 0, 0, 0)) := rfl
theorem r152_92 (d : Nat) (y x : Int32) (ls : tm_Lo) (st : List Value) (h : tm_H) (K : Option Value → tm_H → Prop) : tm_A d 152 92 ls (.int y :: .int x :: st) h K ↔ if x ≤ y then tm_A d 152 99 ls st h K else tm_A d 152 95 ls st h K := tm_b o152_92 rfl rfl rfl rfl
theorem o152_95 : tm_op 152 95 = some (.sipush 1000, (0, 0, 0, 0)) := rfl
theorem r152_95 (d : Nat) (ls : tm_Lo) (st : List Value) (h : tm_H) (K : Option Value → tm_H → Prop) : tm_A d 152 95 ls st h K ↔ tm_A d 152 98 ls (.int (1000 : Int32) :: st) h K := tm_sp o152_95 (by decide)
theorem o152_98 : tm_op 152 98 = some (.ireturn, (0, 0, 0, 0)) := rfl
theorem r152_98 (d : Nat) (v : Int32) (ls : tm_Lo) (h : tm_H) (K : Option Value → tm_H → Prop) : tm_A d 152 98 ls [.int v] h K ↔ K (some (.int v)) h := tm_reti o152_98 rfl
theorem o152_99 : tm_op 152 99 = some (.iload_n 3, (0, 0, 0, 0)) := rfl
theorem r152_99 (d : Nat) (v : Int32) (l0 l1 l2 : Option Value) (st : List Value) (h : tm_H) (K : Option Value → tm_H → Prop) : tm_A d 152 99 [l0, l1, l2, some (.int v)] st h K ↔ tm_A d 152 100 [l0, l1, l2, some (.int v)] (.int v :: st) h K := tm_s o152_99 rfl rfl rfl
theorem o152_100 : tm_op 152 100 = some (.aload_n 0, (0, 0, 0, 0)) := rfl
theorem r152_100 (d : Nat) (v : Nat) (l1 l2 l3 : Option Value) (st : List Value) (h : tm_H) (K : Option Value → tm_H → Prop) : tm_A d 152 100 [some (.ref v), l1, l2, l3] st h K ↔ tm_A d 152 101 [some (.ref v), l1, l2, l3] (.ref v :: st) h K := tm_s o152_100 rfl rfl rfl
theorem o152_101 : tm_op 152 101 = some (.iload_n 1, (0, 0, 0, 0)) := rfl
theorem r152_101 (d : Nat) (v : Int32) (l0 l2 l3 : Option Value) (st : List Value) (h : tm_H) (K : Option Value → tm_H → Prop) : tm_A d 152 101 [l0, some (.int v), l2, l3] st h K ↔ tm_A d 152 102 [l0, some (.int v), l2, l3] (.int v :: st) h K := tm_s o152_101 rfl rfl rfl
theorem o152_102 : tm_op 152 102 = some (.iconst 0, (0, 0, 0, 0)) := rfl
theorem r152_102 (d : Nat) (ls : tm_Lo) (st : List Value) (h : tm_H) (K : Option Value → tm_H → Prop) : tm_A d 152 102 ls st h K ↔ tm_A d 152 103 ls (.int (0 : Int32) :: st) h K := tm_ic o152_102 (by decide)
theorem o152_103 : tm_op 152 103 = some (.invokevirtual 176, (2, 140, 3, 10)) := rfl
theorem r152_103 (d : Nat) (v1 : Int32) (v2 : Int32) (a : Nat) (ls : tm_Lo) (st : List Value) (h : tm_H) (K : Option Value → tm_H → Prop) : tm_A (d + 1) 152 103 ls (.int v2 :: .int v1 :: .ref a :: st) h K ↔ (h.1.2.2 a = (0, 10) ∧ tm_cs st) ∧ tm_R d 140 [.ref a, .int v1, .int v2] h (fun r h' => tm_A (d + 1) 152 106 ls (r.toList ++ st) h' K) := tm_callV (as := [.int v1, .int v2]) o152_103 rfl rfl rfl rfl
theorem o152_106 : tm_op 152 106 = some (.ifCond .eq 32, (0, 0, 0, 0)) := rfl
theorem r152_106 (d : Nat) (x : Int32) (ls : tm_Lo) (st : List Value) (h : tm_H) (K : Option Value → tm_H → Prop) : tm_A d 152 106 ls (.int x :: st) h K ↔ if x = 0 then tm_A d 152 138 ls st h K else tm_A d 152 109 ls st h K := tm_b o152_106 rfl rfl rfl rfl
theorem o152_109 : tm_op 152 109 = some (.aload_n 0, (0, 0, 0, 0)) := rfl
theorem r152_109 (d : Nat) (v : Nat) (l1 l2 l3 : Option Value) (st : List Value) (h : tm_H) (K : Option Value → tm_H → Prop) : tm_A d 152 109 [some (.ref v), l1, l2, l3] st h K ↔ tm_A d 152 110 [some (.ref v), l1, l2, l3] (.ref v :: st) h K := tm_s o152_109 rfl rfl rfl
theorem o152_110 : tm_op 152 110 = some (.iload_n 2, (0, 0, 0, 0)) := rfl
theorem r152_110 (d : Nat) (v : Int32) (l0 l1 l3 : Option Value) (st : List Value) (h : tm_H) (K : Option Value → tm_H → Prop) : tm_A d 152 110 [l0, l1, some (.int v), l3] st h K ↔ tm_A d 152 111 [l0, l1, some (.int v), l3] (.int v :: st) h K := tm_s o152_110 rfl rfl rfl
theorem o152_111 : tm_op 152 111 = some (.iconst 0, (0, 0, 0, 0)) := rfl
theorem r152_111 (d : Nat) (ls : tm_Lo) (st : List Value) (h : tm_H) (K : Option Value → tm_H → Prop) : tm_A d 152 111 ls st h K ↔ tm_A d 152 112 ls (.int (0 : Int32) :: st) h K := tm_ic o152_111 (by decide)
theorem o152_112 : tm_op 152 112 = some (.invokevirtual 176, (2, 140, 3, 10)) := rfl
theorem r152_112 (d : Nat) (v1 : Int32) (v2 : Int32) (a : Nat) (ls : tm_Lo) (st : List Value) (h : tm_H) (K : Option Value → tm_H → Prop) : tm_A (d + 1) 152 112 ls (.int v2 :: .int v1 :: .ref a :: st) h K ↔ (h.1.2.2 a = (0, 10) ∧ tm_cs st) ∧ tm_R d 140 [.ref a, .int v1, .int v2] h (fun r h' => tm_A (d + 1) 152 115 ls (r.toList ++ st) h' K) := tm_callV (as := [.int v1, .int v2]) o152_112 rfl rfl rfl rfl
theorem o152_115 : tm_op 152 115 = some (.ifCond .eq 23, (0, 0, 0, 0)) := rfl
theorem r152_115 (d : Nat) (x : Int32) (ls : tm_Lo) (st : List Value) (h : tm_H) (K : Option Value → tm_H → Prop) : tm_A d 152 115 ls (.int x :: st) h K ↔ if x = 0 then tm_A d 152 138 ls st h K else tm_A d 152 118 ls st h K := tm_b o152_115 rfl rfl rfl rfl
theorem o152_118 : tm_op 152 118 = some (.aload_n 0, (0, 0, 0, 0)) := rfl
theorem r152_118 (d : Nat) (v : Nat) (l1 l2 l3 : Option Value) (st : List Value) (h : tm_H) (K : Option Value → tm_H → Prop) : tm_A d 152 118 [some (.ref v), l1, l2, l3] st h K ↔ tm_A d 152 119 [some (.ref v), l1, l2, l3] (.ref v :: st) h K := tm_s o152_118 rfl rfl rfl
theorem o152_119 : tm_op 152 119 = some (.iload_n 1, (0, 0, 0, 0)) := rfl
theorem r152_119 (d : Nat) (v : Int32) (l0 l2 l3 : Option Value) (st : List Value) (h : tm_H) (K : Option Value → tm_H → Prop) : tm_A d 152 119 [l0, some (.int v), l2, l3] st h K ↔ tm_A d 152 120 [l0, some (.int v), l2, l3] (.int v :: st) h K := tm_s o152_119 rfl rfl rfl
theorem o152_120 : tm_op 152 120 = some (.iconst 0, (0, 0, 0, 0)) := rfl
theorem r152_120 (d : Nat) (ls : tm_Lo) (st : List Value) (h : tm_H) (K : Option Value → tm_H → Prop) : tm_A d 152 120 ls st h K ↔ tm_A d 152 121 ls (.int (0 : Int32) :: st) h K := tm_ic o152_120 (by decide)
theorem o152_121 : tm_op 152 121 = some (.invokevirtual 179, (2, 141, 3, 10)) := rfl
theorem r152_121 (d : Nat) (v1 : Int32) (v2 : Int32) (a : Nat) (ls : tm_Lo) (st : List Value) (h : tm_H) (K : Option Value → tm_H → Prop) : tm_A (d + 1) 152 121 ls (.int v2 :: .int v1 :: .ref a :: st) h K ↔ (h.1.2.2 a = (0, 10) ∧ tm_cs st) ∧ tm_R d 141 [.ref a, .int v1, .int v2] h (fun r h' => tm_A (d + 1) 152 124 ls (r.toList ++ st) h' K) := tm_callV (as := [.int v1, .int v2]) o152_121 rfl rfl rfl rfl
theorem o152_124 : tm_op 152 124 = some (.aload_n 0, (0, 0, 0, 0)) := rfl
theorem r152_124 (d : Nat) (v : Nat) (l1 l2 l3 : Option Value) (st : List Value) (h : tm_H) (K : Option Value → tm_H → Prop) : tm_A d 152 124 [some (.ref v), l1, l2, l3] st h K ↔ tm_A d 152 125 [some (.ref v), l1, l2, l3] (.ref v :: st) h K := tm_s o152_124 rfl rfl rfl
theorem o152_125 : tm_op 152 125 = some (.iload_n 2, (0, 0, 0, 0)) := rfl
theorem r152_125 (d : Nat) (v : Int32) (l0 l1 l3 : Option Value) (st : List Value) (h : tm_H) (K : Option Value → tm_H → Prop) : tm_A d 152 125 [l0, l1, some (.int v), l3] st h K ↔ tm_A d 152 126 [l0, l1, some (.int v), l3] (.int v :: st) h K := tm_s o152_125 rfl rfl rfl
theorem o152_126 : tm_op 152 126 = some (.iconst 0, (0, 0, 0, 0)) := rfl
theorem r152_126 (d : Nat) (ls : tm_Lo) (st : List Value) (h : tm_H) (K : Option Value → tm_H → Prop) : tm_A d 152 126 ls st h K ↔ tm_A d 152 127 ls (.int (0 : Int32) :: st) h K := tm_ic o152_126 (by decide)
theorem o152_127 : tm_op 152 127 = some (.invokevirtual 179, (2, 141, 3, 10)) := rfl
theorem r152_127 (d : Nat) (v1 : Int32) (v2 : Int32) (a : Nat) (ls : tm_Lo) (st : List Value) (h : tm_H) (K : Option Value → tm_H → Prop) : tm_A (d + 1) 152 127 ls (.int v2 :: .int v1 :: .ref a :: st) h K ↔ (h.1.2.2 a = (0, 10) ∧ tm_cs st) ∧ tm_R d 141 [.ref a, .int v1, .int v2] h (fun r h' => tm_A (d + 1) 152 130 ls (r.toList ++ st) h' K) := tm_callV (as := [.int v1, .int v2]) o152_127 rfl rfl rfl rfl
theorem o152_130 : tm_op 152 130 = some (.if_icmp .eq 8, (0, 0, 0, 0)) := rfl
theorem r152_130 (d : Nat) (y x : Int32) (ls : tm_Lo) (st : List Value) (h : tm_H) (K : Option Value → tm_H → Prop) : tm_A d 152 130 ls (.int y :: .int x :: st) h K ↔ if x = y then tm_A d 152 138 ls st h K else tm_A d 152 133 ls st h K := tm_b o152_130 rfl rfl rfl rfl
theorem o152_133 : tm_op 152 133 = some (.bipush 6, (0, 0, 0, 0)) := rfl
theorem r152_133 (d : Nat) (ls : tm_Lo) (st : List Value) (h : tm_H) (K : Option Value → tm_H → Prop) : tm_A d 152 133 ls st h K ↔ tm_A d 152 135 ls (.int (6 : Int32) :: st) h K := tm_bp o152_133 (by decide)
theorem o152_135 : tm_op 152 135 = some (.goto 4, (0, 0, 0, 0)) := rfl
theorem r152_135 (d : Nat) (ls : tm_Lo) (st : List Value) (h : tm_H) (K : Option Value → tm_H → Prop) : tm_A d 152 135 ls st h K ↔ tm_A d 152 139 ls st h K := tm_s o152_135 rfl rfl rfl
theorem o152_138 : tm_op 152 138 = some (.iconst 0, (0, 0, 0, 0)) := rfl
theorem r152_138 (d : Nat) (ls : tm_Lo) (st : List Value) (h : tm_H) (K : Option Value → tm_H → Prop) : tm_A d 152 138 ls st h K ↔ tm_A d 152 139 ls (.int (0 : Int32) :: st) h K := tm_ic o152_138 (by decide)
theorem o152_139 : tm_op 152 139 = some (.iadd, (0, 0, 0, 0)) := rfl
theorem r152_139 (d : Nat) (u v : Int32) (ls : tm_Lo) (st : List Value) (h : tm_H) (K : Option Value → tm_H → Prop) : tm_A d 152 139 ls (.int u :: .int v :: st) h K ↔ tm_A d 152 140 ls (.int (v + u) :: st) h K := tm_s o152_139 rfl rfl rfl
theorem o152_140 : tm_op 152 140 = some (.istore_n 3, (0, 0, 0, 0)) := rfl
theorem r152_140 (d : Nat) (v : Int32) (l0 l1 l2 l3 : Option Value) (st : List Value) (h : tm_H) (K : Option Value → tm_H → Prop) : tm_A d 152 140 [l0, l1, l2, l3] (.int v :: st) h K ↔ tm_A d 152 141 [l0, l1, l2, some (.int v)] st h K := tm_s o152_140 rfl rfl rfl
theorem o152_141 : tm_op 152 141 = some (.iload_n 3, (0, 0, 0, 0)) := rfl
theorem r152_141 (d : Nat) (v : Int32) (l0 l1 l2 : Option Value) (st : List Value) (h : tm_H) (K : Option Value → tm_H → Prop) : tm_A d 152 141 [l0, l1, l2, some (.int v)] st h K ↔ tm_A d 152 142 [l0, l1, l2, some (.int v)] (.int v :: st) h K := tm_s o152_141 rfl rfl rfl
theorem o152_142 : tm_op 152 142 = some (.aload_n 0, (0, 0, 0, 0)) := rfl
theorem r152_142 (d : Nat) (v : Nat) (l1 l2 l3 : Option Value) (st : List Value) (h : tm_H) (K : Option Value → tm_H → Prop) : tm_A d 152 142 [some (.ref v), l1, l2, l3] st h K ↔ tm_A d 152 143 [some (.ref v), l1, l2, l3] (.ref v :: st) h K := tm_s o152_142 rfl rfl rfl
theorem o152_143 : tm_op 152 143 = some (.iload_n 1, (0, 0, 0, 0)) := rfl
theorem r152_143 (d : Nat) (v : Int32) (l0 l2 l3 : Option Value) (st : List Value) (h : tm_H) (K : Option Value → tm_H → Prop) : tm_A d 152 143 [l0, some (.int v), l2, l3] st h K ↔ tm_A d 152 144 [l0, some (.int v), l2, l3] (.int v :: st) h K := tm_s o152_143 rfl rfl rfl
theorem o152_144 : tm_op 152 144 = some (.iconst 2, (0, 0, 0, 0)) := rfl
theorem r152_144 (d : Nat) (ls : tm_Lo) (st : List Value) (h : tm_H) (K : Option Value → tm_H → Prop) : tm_A d 152 144 ls st h K ↔ tm_A d 152 145 ls (.int (2 : Int32) :: st) h K := tm_ic o152_144 (by decide)
theorem o152_145 : tm_op 152 145 = some (.invokevirtual 176, (2, 140, 3, 10)) := rfl
theorem r152_145 (d : Nat) (v1 : Int32) (v2 : Int32) (a : Nat) (ls : tm_Lo) (st : List Value) (h : tm_H) (K : Option Value → tm_H → Prop) : tm_A (d + 1) 152 145 ls (.int v2 :: .int v1 :: .ref a :: st) h K ↔ (h.1.2.2 a = (0, 10) ∧ tm_cs st) ∧ tm_R d 140 [.ref a, .int v1, .int v2] h (fun r h' => tm_A (d + 1) 152 148 ls (r.toList ++ st) h' K) := tm_callV (as := [.int v1, .int v2]) o152_145 rfl rfl rfl rfl
theorem o152_148 : tm_op 152 148 = some (.ifCond .eq 44, (0, 0, 0, 0)) := rfl
theorem r152_148 (d : Nat) (x : Int32) (ls : tm_Lo) (st : List Value) (h : tm_H) (K : Option Value → tm_H → Prop) : tm_A d 152 148 ls (.int x :: st) h K ↔ if x = 0 then tm_A d 152 192 ls st h K else tm_A d 152 151 ls st h K := tm_b o152_148 rfl rfl rfl rfl
theorem o152_151 : tm_op 152 151 = some (.aload_n 0, (0, 0, 0, 0)) := rfl
theorem r152_151 (d : Nat) (v : Nat) (l1 l2 l3 : Option Value) (st : List Value) (h : tm_H) (K : Option Value → tm_H → Prop) : tm_A d 152 151 [some (.ref v), l1, l2, l3] st h K ↔ tm_A d 152 152 [some (.ref v), l1, l2, l3] (.ref v :: st) h K := tm_s o152_151 rfl rfl rfl
theorem o152_152 : tm_op 152 152 = some (.iload_n 2, (0, 0, 0, 0)) := rfl
theorem r152_152 (d : Nat) (v : Int32) (l0 l1 l3 : Option Value) (st : List Value) (h : tm_H) (K : Option Value → tm_H → Prop) : tm_A d 152 152 [l0, l1, some (.int v), l3] st h K ↔ tm_A d 152 153 [l0, l1, some (.int v), l3] (.int v :: st) h K := tm_s o152_152 rfl rfl rfl
theorem o152_153 : tm_op 152 153 = some (.iconst 2, (0, 0, 0, 0)) := rfl
theorem r152_153 (d : Nat) (ls : tm_Lo) (st : List Value) (h : tm_H) (K : Option Value → tm_H → Prop) : tm_A d 152 153 ls st h K ↔ tm_A d 152 154 ls (.int (2 : Int32) :: st) h K := tm_ic o152_153 (by decide)
theorem o152_154 : tm_op 152 154 = some (.invokevirtual 176, (2, 140, 3, 10)) := rfl
theorem r152_154 (d : Nat) (v1 : Int32) (v2 : Int32) (a : Nat) (ls : tm_Lo) (st : List Value) (h : tm_H) (K : Option Value → tm_H → Prop) : tm_A (d + 1) 152 154 ls (.int v2 :: .int v1 :: .ref a :: st) h K ↔ (h.1.2.2 a = (0, 10) ∧ tm_cs st) ∧ tm_R d 140 [.ref a, .int v1, .int v2] h (fun r h' => tm_A (d + 1) 152 157 ls (r.toList ++ st) h' K) := tm_callV (as := [.int v1, .int v2]) o152_154 rfl rfl rfl rfl
theorem o152_157 : tm_op 152 157 = some (.ifCond .eq 35, (0, 0, 0, 0)) := rfl
theorem r152_157 (d : Nat) (x : Int32) (ls : tm_Lo) (st : List Value) (h : tm_H) (K : Option Value → tm_H → Prop) : tm_A d 152 157 ls (.int x :: st) h K ↔ if x = 0 then tm_A d 152 192 ls st h K else tm_A d 152 160 ls st h K := tm_b o152_157 rfl rfl rfl rfl
theorem o152_160 : tm_op 152 160 = some (.aload_n 0, (0, 0, 0, 0)) := rfl
theorem r152_160 (d : Nat) (v : Nat) (l1 l2 l3 : Option Value) (st : List Value) (h : tm_H) (K : Option Value → tm_H → Prop) : tm_A d 152 160 [some (.ref v), l1, l2, l3] st h K ↔ tm_A d 152 161 [some (.ref v), l1, l2, l3] (.ref v :: st) h K := tm_s o152_160 rfl rfl rfl
theorem o152_161 : tm_op 152 161 = some (.iload_n 1, (0, 0, 0, 0)) := rfl
theorem r152_161 (d : Nat) (v : Int32) (l0 l2 l3 : Option Value) (st : List Value) (h : tm_H) (K : Option Value → tm_H → Prop) : tm_A d 152 161 [l0, some (.int v), l2, l3] st h K ↔ tm_A d 152 162 [l0, some (.int v), l2, l3] (.int v :: st) h K := tm_s o152_161 rfl rfl rfl
theorem o152_162 : tm_op 152 162 = some (.iconst 2, (0, 0, 0, 0)) := rfl
theorem r152_162 (d : Nat) (ls : tm_Lo) (st : List Value) (h : tm_H) (K : Option Value → tm_H → Prop) : tm_A d 152 162 ls st h K ↔ tm_A d 152 163 ls (.int (2 : Int32) :: st) h K := tm_ic o152_162 (by decide)
theorem o152_163 : tm_op 152 163 = some (.invokevirtual 179, (2, 141, 3, 10)) := rfl
theorem r152_163 (d : Nat) (v1 : Int32) (v2 : Int32) (a : Nat) (ls : tm_Lo) (st : List Value) (h : tm_H) (K : Option Value → tm_H → Prop) : tm_A (d + 1) 152 163 ls (.int v2 :: .int v1 :: .ref a :: st) h K ↔ (h.1.2.2 a = (0, 10) ∧ tm_cs st) ∧ tm_R d 141 [.ref a, .int v1, .int v2] h (fun r h' => tm_A (d + 1) 152 166 ls (r.toList ++ st) h' K) := tm_callV (as := [.int v1, .int v2]) o152_163 rfl rfl rfl rfl
theorem o152_166 : tm_op 152 166 = some (.aload_n 0, (0, 0, 0, 0)) := rfl
theorem r152_166 (d : Nat) (v : Nat) (l1 l2 l3 : Option Value) (st : List Value) (h : tm_H) (K : Option Value → tm_H → Prop) : tm_A d 152 166 [some (.ref v), l1, l2, l3] st h K ↔ tm_A d 152 167 [some (.ref v), l1, l2, l3] (.ref v :: st) h K := tm_s o152_166 rfl rfl rfl
theorem o152_167 : tm_op 152 167 = some (.iload_n 2, (0, 0, 0, 0)) := rfl
theorem r152_167 (d : Nat) (v : Int32) (l0 l1 l3 : Option Value) (st : List Value) (h : tm_H) (K : Option Value → tm_H → Prop) : tm_A d 152 167 [l0, l1, some (.int v), l3] st h K ↔ tm_A d 152 168 [l0, l1, some (.int v), l3] (.int v :: st) h K := tm_s o152_167 rfl rfl rfl
theorem o152_168 : tm_op 152 168 = some (.invokevirtual 188, (2, 142, 2, 10)) := rfl
theorem r152_168 (d : Nat) (v1 : Int32) (a : Nat) (ls : tm_Lo) (st : List Value) (h : tm_H) (K : Option Value → tm_H → Prop) : tm_A (d + 1) 152 168 ls (.int v1 :: .ref a :: st) h K ↔ (h.1.2.2 a = (0, 10) ∧ tm_cs st) ∧ tm_R d 142 [.ref a, .int v1] h (fun r h' => tm_A (d + 1) 152 171 ls (r.toList ++ st) h' K) := tm_callV (as := [.int v1]) o152_168 rfl rfl rfl rfl
theorem o152_171 : tm_op 152 171 = some (.if_icmp .gt 17, (0, 0, 0, 0)) := rfl
theorem r152_171 (d : Nat) (y x : Int32) (ls : tm_Lo) (st : List Value) (h : tm_H) (K : Option Value → tm_H → Prop) : tm_A d 152 171 ls (.int y :: .int x :: st) h K ↔ if y < x then tm_A d 152 188 ls st h K else tm_A d 152 174 ls st h K := tm_b o152_171 rfl rfl rfl rfl
theorem o152_174 : tm_op 152 174 = some (.aload_n 0, (0, 0, 0, 0)) := rfl
theorem r152_174 (d : Nat) (v : Nat) (l1 l2 l3 : Option Value) (st : List Value) (h : tm_H) (K : Option Value → tm_H → Prop) : tm_A d 152 174 [some (.ref v), l1, l2, l3] st h K ↔ tm_A d 152 175 [some (.ref v), l1, l2, l3] (.ref v :: st) h K := tm_s o152_174 rfl rfl rfl
theorem o152_175 : tm_op 152 175 = some (.iload_n 2, (0, 0, 0, 0)) := rfl
theorem r152_175 (d : Nat) (v : Int32) (l0 l1 l3 : Option Value) (st : List Value) (h : tm_H) (K : Option Value → tm_H → Prop) : tm_A d 152 175 [l0, l1, some (.int v), l3] st h K ↔ tm_A d 152 176 [l0, l1, some (.int v), l3] (.int v :: st) h K := tm_s o152_175 rfl rfl rfl
theorem o152_176 : tm_op 152 176 = some (.iconst 2, (0, 0, 0, 0)) := rfl
theorem r152_176 (d : Nat) (ls : tm_Lo) (st : List Value) (h : tm_H) (K : Option Value → tm_H → Prop) : tm_A d 152 176 ls st h K ↔ tm_A d 152 177 ls (.int (2 : Int32) :: st) h K := tm_ic o152_176 (by decide)
theorem o152_177 : tm_op 152 177 = some (.invokevirtual 179, (2, 141, 3, 10)) := rfl
theorem r152_177 (d : Nat) (v1 : Int32) (v2 : Int32) (a : Nat) (ls : tm_Lo) (st : List Value) (h : tm_H) (K : Option Value → tm_H → Prop) : tm_A (d + 1) 152 177 ls (.int v2 :: .int v1 :: .ref a :: st) h K ↔ (h.1.2.2 a = (0, 10) ∧ tm_cs st) ∧ tm_R d 141 [.ref a, .int v1, .int v2] h (fun r h' => tm_A (d + 1) 152 180 ls (r.toList ++ st) h' K) := tm_callV (as := [.int v1, .int v2]) o152_177 rfl rfl rfl rfl
theorem o152_180 : tm_op 152 180 = some (.aload_n 0, (0, 0, 0, 0)) := rfl
theorem r152_180 (d : Nat) (v : Nat) (l1 l2 l3 : Option Value) (st : List Value) (h : tm_H) (K : Option Value → tm_H → Prop) : tm_A d 152 180 [some (.ref v), l1, l2, l3] st h K ↔ tm_A d 152 181 [some (.ref v), l1, l2, l3] (.ref v :: st) h K := tm_s o152_180 rfl rfl rfl
theorem o152_181 : tm_op 152 181 = some (.iload_n 1, (0, 0, 0, 0)) := rfl
theorem r152_181 (d : Nat) (v : Int32) (l0 l2 l3 : Option Value) (st : List Value) (h : tm_H) (K : Option Value → tm_H → Prop) : tm_A d 152 181 [l0, some (.int v), l2, l3] st h K ↔ tm_A d 152 182 [l0, some (.int v), l2, l3] (.int v :: st) h K := tm_s o152_181 rfl rfl rfl
theorem o152_182 : tm_op 152 182 = some (.invokevirtual 188, (2, 142, 2, 10)) := rfl
theorem r152_182 (d : Nat) (v1 : Int32) (a : Nat) (ls : tm_Lo) (st : List Value) (h : tm_H) (K : Option Value → tm_H → Prop) : tm_A (d + 1) 152 182 ls (.int v1 :: .ref a :: st) h K ↔ (h.1.2.2 a = (0, 10) ∧ tm_cs st) ∧ tm_R d 142 [.ref a, .int v1] h (fun r h' => tm_A (d + 1) 152 185 ls (r.toList ++ st) h' K) := tm_callV (as := [.int v1]) o152_182 rfl rfl rfl rfl
theorem o152_185 : tm_op 152 185 = some (.if_icmp .le 7, (0, 0, 0, 0)) := rfl
theorem r152_185 (d : Nat) (y x : Int32) (ls : tm_Lo) (st : List Value) (h : tm_H) (K : Option Value → tm_H → Prop) : tm_A d 152 185 ls (.int y :: .int x :: st) h K ↔ if x ≤ y then tm_A d 152 192 ls st h K else tm_A d 152 188 ls st h K := tm_b o152_185 rfl rfl rfl rfl
theorem o152_188 : tm_op 152 188 = some (.iconst 4, (0, 0, 0, 0)) := rfl
theorem r152_188 (d : Nat) (ls : tm_Lo) (st : List Value) (h : tm_H) (K : Option Value → tm_H → Prop) : tm_A d 152 188 ls st h K ↔ tm_A d 152 189 ls (.int (4 : Int32) :: st) h K := tm_ic o152_188 (by decide)
theorem o152_189 : tm_op 152 189 = some (.goto 4, (0, 0, 0, 0)) := rfl
theorem r152_189 (d : Nat) (ls : tm_Lo) (st : List Value) (h : tm_H) (K : Option Value → tm_H → Prop) : tm_A d 152 189 ls st h K ↔ tm_A d 152 193 ls st h K := tm_s o152_189 rfl rfl rfl
theorem o152_192 : tm_op 152 192 = some (.iconst 0, (0, 0, 0, 0)) := rfl
theorem r152_192 (d : Nat) (ls : tm_Lo) (st : List Value) (h : tm_H) (K : Option Value → tm_H → Prop) : tm_A d 152 192 ls st h K ↔ tm_A d 152 193 ls (.int (0 : Int32) :: st) h K := tm_ic o152_192 (by decide)
theorem o152_193 : tm_op 152 193 = some (.iadd, (0, 0, 0, 0)) := rfl
theorem r152_193 (d : Nat) (u v : Int32) (ls : tm_Lo) (st : List Value) (h : tm_H) (K : Option Value → tm_H → Prop) : tm_A d 152 193 ls (.int u :: .int v :: st) h K ↔ tm_A d 152 194 ls (.int (v + u) :: st) h K := tm_s o152_193 rfl rfl rfl
theorem o152_194 : tm_op 152 194 = some (.istore_n 3, (0, 0, 0, 0)) := rfl
theorem r152_194 (d : Nat) (v : Int32) (l0 l1 l2 l3 : Option Value) (st : List Value) (h : tm_H) (K : Option Value → tm_H → Prop) : tm_A d 152 194 [l0, l1, l2, l3] (.int v :: st) h K ↔ tm_A d 152 195 [l0, l1, l2, some (.int v)] st h K := tm_s o152_194 rfl rfl rfl
theorem o152_195 : tm_op 152 195 = some (.iload_n 3, (0, 0, 0, 0)) := rfl
theorem r152_195 (d : Nat) (v : Int32) (l0 l1 l2 : Option Value) (st : List Value) (h : tm_H) (K : Option Value → tm_H → Prop) : tm_A d 152 195 [l0, l1, l2, some (.int v)] st h K ↔ tm_A d 152 196 [l0, l1, l2, some (.int v)] (.int v :: st) h K := tm_s o152_195 rfl rfl rfl
theorem o152_196 : tm_op 152 196 = some (.aload_n 0, (0, 0, 0, 0)) := rfl
theorem r152_196 (d : Nat) (v : Nat) (l1 l2 l3 : Option Value) (st : List Value) (h : tm_H) (K : Option Value → tm_H → Prop) : tm_A d 152 196 [some (.ref v), l1, l2, l3] st h K ↔ tm_A d 152 197 [some (.ref v), l1, l2, l3] (.ref v :: st) h K := tm_s o152_196 rfl rfl rfl
theorem o152_197 : tm_op 152 197 = some (.iload_n 1, (0, 0, 0, 0)) := rfl
theorem r152_197 (d : Nat) (v : Int32) (l0 l2 l3 : Option Value) (st : List Value) (h : tm_H) (K : Option Value → tm_H → Prop) : tm_A d 152 197 [l0, some (.int v), l2, l3] st h K ↔ tm_A d 152 198 [l0, some (.int v), l2, l3] (.int v :: st) h K := tm_s o152_197 rfl rfl rfl
theorem o152_198 : tm_op 152 198 = some (.iload_n 2, (0, 0, 0, 0)) := rfl
theorem r152_198 (d : Nat) (v : Int32) (l0 l1 l3 : Option Value) (st : List Value) (h : tm_H) (K : Option Value → tm_H → Prop) : tm_A d 152 198 [l0, l1, some (.int v), l3] st h K ↔ tm_A d 152 199 [l0, l1, some (.int v), l3] (.int v :: st) h K := tm_s o152_198 rfl rfl rfl
theorem o152_199 : tm_op 152 199 = some (.invokevirtual 191, (2, 151, 3, 10)) := rfl
theorem r152_199 (d : Nat) (v1 : Int32) (v2 : Int32) (a : Nat) (ls : tm_Lo) (st : List Value) (h : tm_H) (K : Option Value → tm_H → Prop) : tm_A (d + 1) 152 199 ls (.int v2 :: .int v1 :: .ref a :: st) h K ↔ (h.1.2.2 a = (0, 10) ∧ tm_cs st) ∧ tm_R d 151 [.ref a, .int v1, .int v2] h (fun r h' => tm_A (d + 1) 152 202 ls (r.toList ++ st) h' K) := tm_callV (as := [.int v1, .int v2]) o152_199 rfl rfl rfl rfl
theorem o152_202 : tm_op 152 202 = some (.isub, (0, 0, 0, 0)) := rfl
theorem r152_202 (d : Nat) (u v : Int32) (ls : tm_Lo) (st : List Value) (h : tm_H) (K : Option Value → tm_H → Prop) : tm_A d 152 202 ls (.int u :: .int v :: st) h K ↔ tm_A d 152 203 ls (.int (v - u) :: st) h K := tm_s o152_202 rfl rfl rfl
theorem o152_203 : tm_op 152 203 = some (.ireturn, (0, 0, 0, 0)) := rfl
theorem r152_203 (d : Nat) (v : Int32) (ls : tm_Lo) (h : tm_H) (K : Option Value → tm_H → Prop) : tm_A d 152 203 ls [.int v] h K ↔ K (some (.int v)) h := tm_reti o152_203 rfl
theorem o153_0 : tm_op 153 0 = some (.aload_n 0, (0, 0, 0, 0)) := rfl
theorem r153_0 (d : Nat) (v : Nat) (l1 l2 l3 : Option Value) (st : List Value) (h : tm_H) (K : Option Value → tm_H → Prop) : tm_A d 153 0 [some (.ref v), l1, l2, l3] st h K ↔ tm_A d 153 1 [some (.ref v), l1, l2, l3] (.ref v :: st) h K := tm_s o153_0 rfl rfl rfl
theorem o153_1 : tm_op 153 1 = some (.iload_n 1, (0, 0, 0, 0)) := rfl
theorem r153_1 (d : Nat) (v : Int32) (l0 l2 l3 : Option Value) (st : List Value) (h : tm_H) (K : Option Value → tm_H → Prop) : tm_A d 153 1 [l0, some (.int v), l2, l3] st h K ↔ tm_A d 153 2 [l0, some (.int v), l2, l3] (.int v :: st) h K := tm_s o153_1 rfl rfl rfl
theorem o153_2 : tm_op 153 2 = some (.iload_n 3, (0, 0, 0, 0)) := rfl
theorem r153_2 (d : Nat) (v : Int32) (l0 l1 l2 : Option Value) (st : List Value) (h : tm_H) (K : Option Value → tm_H → Prop) : tm_A d 153 2 [l0, l1, l2, some (.int v)] st h K ↔ tm_A d 153 3 [l0, l1, l2, some (.int v)] (.int v :: st) h K := tm_s o153_2 rfl rfl rfl
theorem o153_3 : tm_op 153 3 = some (.invokevirtual 166, (2, 138, 3, 10)) := rfl
theorem r153_3 (d : Nat) (v1 : Int32) (v2 : Int32) (a : Nat) (ls : tm_Lo) (st : List Value) (h : tm_H) (K : Option Value → tm_H → Prop) : tm_A (d + 1) 153 3 ls (.int v2 :: .int v1 :: .ref a :: st) h K ↔ (h.1.2.2 a = (0, 10) ∧ tm_cs st) ∧ tm_R d 138 [.ref a, .int v1, .int v2] h (fun r h' => tm_A (d + 1) 153 6 ls (r.toList ++ st) h' K) := tm_callV (as := [.int v1, .int v2]) o153_3 rfl rfl rfl rfl
theorem o153_6 : tm_op 153 6 = some (.ifCond .eq 17, (0, 0, 0, 0)) := rfl
theorem r153_6 (d : Nat) (x : Int32) (ls : tm_Lo) (st : List Value) (h : tm_H) (K : Option Value → tm_H → Prop) : tm_A d 153 6 ls (.int x :: st) h K ↔ if x = 0 then tm_A d 153 23 ls st h K else tm_A d 153 9 ls st h K := tm_b o153_6 rfl rfl rfl rfl
theorem o153_9 : tm_op 153 9 = some (.aload_n 0, (0, 0, 0, 0)) := rfl
theorem r153_9 (d : Nat) (v : Nat) (l1 l2 l3 : Option Value) (st : List Value) (h : tm_H) (K : Option Value → tm_H → Prop) : tm_A d 153 9 [some (.ref v), l1, l2, l3] st h K ↔ tm_A d 153 10 [some (.ref v), l1, l2, l3] (.ref v :: st) h K := tm_s o153_9 rfl rfl rfl
theorem o153_10 : tm_op 153 10 = some (.iload_n 2, (0, 0, 0, 0)) := rfl
theorem r153_10 (d : Nat) (v : Int32) (l0 l1 l3 : Option Value) (st : List Value) (h : tm_H) (K : Option Value → tm_H → Prop) : tm_A d 153 10 [l0, l1, some (.int v), l3] st h K ↔ tm_A d 153 11 [l0, l1, some (.int v), l3] (.int v :: st) h K := tm_s o153_10 rfl rfl rfl
theorem o153_11 : tm_op 153 11 = some (.iload_n 3, (0, 0, 0, 0)) := rfl
theorem r153_11 (d : Nat) (v : Int32) (l0 l1 l2 : Option Value) (st : List Value) (h : tm_H) (K : Option Value → tm_H → Prop) : tm_A d 153 11 [l0, l1, l2, some (.int v)] st h K ↔ tm_A d 153 12 [l0, l1, l2, some (.int v)] (.int v :: st) h K := tm_s o153_11 rfl rfl rfl
theorem o153_12 : tm_op 153 12 = some (.invokevirtual 166, (2, 138, 3, 10)) := rfl
theorem r153_12 (d : Nat) (v1 : Int32) (v2 : Int32) (a : Nat) (ls : tm_Lo) (st : List Value) (h : tm_H) (K : Option Value → tm_H → Prop) : tm_A (d + 1) 153 12 ls (.int v2 :: .int v1 :: .ref a :: st) h K ↔ (h.1.2.2 a = (0, 10) ∧ tm_cs st) ∧ tm_R d 138 [.ref a, .int v1, .int v2] h (fun r h' => tm_A (d + 1) 153 15 ls (r.toList ++ st) h' K) := tm_callV (as := [.int v1, .int v2]) o153_12 rfl rfl rfl rfl
theorem o153_15 : tm_op 153 15 = some (.ifCond .eq 8, (0, 0, 0, 0)) := rfl
theorem r153_15 (d : Nat) (x : Int32) (ls : tm_Lo) (st : List Value) (h : tm_H) (K : Option Value → tm_H → Prop) : tm_A d 153 15 ls (.int x :: st) h K ↔ if x = 0 then tm_A d 153 23 ls st h K else tm_A d 153 18 ls st h K := tm_b o153_15 rfl rfl rfl rfl
theorem o153_18 : tm_op 153 18 = some (.iload_n 1, (0, 0, 0, 0)) := rfl
theorem r153_18 (d : Nat) (v : Int32) (l0 l2 l3 : Option Value) (st : List Value) (h : tm_H) (K : Option Value → tm_H → Prop) : tm_A d 153 18 [l0, some (.int v), l2, l3] st h K ↔ tm_A d 153 19 [l0, some (.int v), l2, l3] (.int v :: st) h K := tm_s o153_18 rfl rfl rfl
theorem o153_19 : tm_op 153 19 = some (.iload_n 2, (0, 0, 0, 0)) := rfl
theorem r153_19 (d : Nat) (v : Int32) (l0 l1 l3 : Option Value) (st : List Value) (h : tm_H) (K : Option Value → tm_H → Prop) : tm_A d 153 19 [l0, l1, some (.int v), l3] st h K ↔ tm_A d 153 20 [l0, l1, some (.int v), l3] (.int v :: st) h K := tm_s o153_19 rfl rfl rfl
theorem o153_20 : tm_op 153 20 = some (.if_icmp .ne 7, (0, 0, 0, 0)) := rfl
theorem r153_20 (d : Nat) (y x : Int32) (ls : tm_Lo) (st : List Value) (h : tm_H) (K : Option Value → tm_H → Prop) : tm_A d 153 20 ls (.int y :: .int x :: st) h K ↔ if ¬ x = y then tm_A d 153 27 ls st h K else tm_A d 153 23 ls st h K := tm_b o153_20 rfl rfl rfl rfl
theorem o153_23 : tm_op 153 23 = some (.sipush (-1000), (0, 0, 0, 0)) := rfl
theorem r153_23 (d : Nat) (ls : tm_Lo) (st : List Value) (h : tm_H) (K : Option Value → tm_H → Prop) : tm_A d 153 23 ls st h K ↔ tm_A d 153 26 ls (.int (-1000 : Int32) :: st) h K := tm_sp o153_23 (by decide)
theorem o153_26 : tm_op 153 26 = some (.ireturn, (0, 0, 0, 0)) := rfl
theorem r153_26 (d : Nat) (v : Int32) (ls : tm_Lo) (h : tm_H) (K : Option Value → tm_H → Prop) : tm_A d 153 26 ls [.int v] h K ↔ K (some (.int v)) h := tm_reti o153_26 rfl
theorem o153_27 : tm_op 153 27 = some (.aload_n 0, (0, 0, 0, 0)) := rfl
theorem r153_27 (d : Nat) (v : Nat) (l1 l2 l3 : Option Value) (st : List Value) (h : tm_H) (K : Option Value → tm_H → Prop) : tm_A d 153 27 [some (.ref v), l1, l2, l3] st h K ↔ tm_A d 153 28 [some (.ref v), l1, l2, l3] (.ref v :: st) h K := tm_s o153_27 rfl rfl rfl
theorem o153_28 : tm_op 153 28 = some (.iload_n 3, (0, 0, 0, 0)) := rfl
theorem r153_28 (d : Nat) (v : Int32) (l0 l1 l2 : Option Value) (st : List Value) (h : tm_H) (K : Option Value → tm_H → Prop) : tm_A d 153 28 [l0, l1, l2, some (.int v)] st h K ↔ tm_A d 153 29 [l0, l1, l2, some (.int v)] (.int v :: st) h K := tm_s o153_28 rfl rfl rfl
theorem o153_29 : tm_op 153 29 = some (.invokevirtual 194, (2, 139, 2, 10)) := rfl
theorem r153_29 (d : Nat) (v1 : Int32) (a : Nat) (ls : tm_Lo) (st : List Value) (h : tm_H) (K : Option Value → tm_H → Prop) : tm_A (d + 1) 153 29 ls (.int v1 :: .ref a :: st) h K ↔ (h.1.2.2 a = (0, 10) ∧ tm_cs st) ∧ tm_R d 139 [.ref a, .int v1] h (fun r h' => tm_A (d + 1) 153 32 ls (r.toList ++ st) h' K) := tm_callV (as := [.int v1]) o153_29 rfl rfl rfl rfl
theorem o153_32 : tm_op 153 32 = some (.aload_n 0, (0, 0, 0, 0)) := rfl
theorem r153_32 (d : Nat) (v : Nat) (l1 l2 l3 : Option Value) (st : List Value) (h : tm_H) (K : Option Value → tm_H → Prop) : tm_A d 153 32 [some (.ref v), l1, l2, l3] st h K ↔ tm_A d 153 33 [some (.ref v), l1, l2, l3] (.ref v :: st) h K := tm_s o153_32 rfl rfl rfl
theorem o153_33 : tm_op 153 33 = some (.iload_n 1, (0, 0, 0, 0)) := rfl
theorem r153_33 (d : Nat) (v : Int32) (l0 l2 l3 : Option Value) (st : List Value) (h : tm_H) (K : Option Value → tm_H → Prop) : tm_A d 153 33 [l0, some (.int v), l2, l3] st h K ↔ tm_A d 153 34 [l0, some (.int v), l2, l3] (.int v :: st) h K := tm_s o153_33 rfl rfl rfl
theorem o153_34 : tm_op 153 34 = some (.iload_n 2, (0, 0, 0, 0)) := rfl
theorem r153_34 (d : Nat) (v : Int32) (l0 l1 l3 : Option Value) (st : List Value) (h : tm_H) (K : Option Value → tm_H → Prop) : tm_A d 153 34 [l0, l1, some (.int v), l3] st h K ↔ tm_A d 153 35 [l0, l1, some (.int v), l3] (.int v :: st) h K := tm_s o153_34 rfl rfl rfl
theorem o153_35 : tm_op 153 35 = some (.invokevirtual 197, (2, 152, 3, 10)) := rfl
theorem r153_35 (d : Nat) (v1 : Int32) (v2 : Int32) (a : Nat) (ls : tm_Lo) (st : List Value) (h : tm_H) (K : Option Value → tm_H → Prop) : tm_A (d + 1) 153 35 ls (.int v2 :: .int v1 :: .ref a :: st) h K ↔ (h.1.2.2 a = (0, 10) ∧ tm_cs st) ∧ tm_R d 152 [.ref a, .int v1, .int v2] h (fun r h' => tm_A (d + 1) 153 38 ls (r.toList ++ st) h' K) := tm_callV (as := [.int v1, .int v2]) o153_35 rfl rfl rfl rfl
theorem o153_38 : tm_op 153 38 = some (.ireturn, (0, 0, 0, 0)) := rfl
theorem r153_38 (d : Nat) (v : Int32) (ls : tm_Lo) (h : tm_H) (K : Option Value → tm_H → Prop) : tm_A d 153 38 ls [.int v] h K ↔ K (some (.int v)) h := tm_reti o153_38 rfl
theorem o154_0 : tm_op 154 0 = some (.iconst 0, (0, 0, 0, 0)) := rfl
theorem r154_0 (d : Nat) (ls : tm_Lo) (st : List Value) (h : tm_H) (K : Option Value → tm_H → Prop) : tm_A d 154 0 ls st h K ↔ tm_A d 154 1 ls (.int (0 : Int32) :: st) h K := tm_ic o154_0 (by decide)
theorem o154_1 : tm_op 154 1 = some (.istore_n 3, (0, 0, 0, 0)) := rfl
theorem r154_1 (d : Nat) (v : Int32) (l0 l1 l2 l3 l4 l5 : Option Value) (st : List Value) (h : tm_H) (K : Option Value → tm_H → Prop) : tm_A d 154 1 [l0, l1, l2, l3, l4, l5] (.int v :: st) h K ↔ tm_A d 154 2 [l0, l1, l2, some (.int v), l4, l5] st h K := tm_s o154_1 rfl rfl rfl
theorem o154_2 : tm_op 154 2 = some (.iconst 0, (0, 0, 0, 0)) := rfl
theorem r154_2 (d : Nat) (ls : tm_Lo) (st : List Value) (h : tm_H) (K : Option Value → tm_H → Prop) : tm_A d 154 2 ls st h K ↔ tm_A d 154 3 ls (.int (0 : Int32) :: st) h K := tm_ic o154_2 (by decide)
theorem o154_3 : tm_op 154 3 = some (.istore 4, (0, 0, 0, 0)) := rfl
theorem r154_3 (d : Nat) (v : Int32) (l0 l1 l2 l3 l4 l5 : Option Value) (st : List Value) (h : tm_H) (K : Option Value → tm_H → Prop) : tm_A d 154 3 [l0, l1, l2, l3, l4, l5] (.int v :: st) h K ↔ tm_A d 154 5 [l0, l1, l2, l3, some (.int v), l5] st h K := tm_s o154_3 rfl rfl rfl
theorem o154_5 : tm_op 154 5 = some (.iload 4, (0, 0, 0, 0)) := rfl
theorem r154_5 (d : Nat) (v : Int32) (l0 l1 l2 l3 l5 : Option Value) (st : List Value) (h : tm_H) (K : Option Value → tm_H → Prop) : tm_A d 154 5 [l0, l1, l2, l3, some (.int v), l5] st h K ↔ tm_A d 154 7 [l0, l1, l2, l3, some (.int v), l5] (.int v :: st) h K := tm_s o154_5 rfl rfl rfl
theorem o154_7 : tm_op 154 7 = some (.iload_n 1, (0, 0, 0, 0)) := rfl
theorem r154_7 (d : Nat) (v : Int32) (l0 l2 l3 l4 l5 : Option Value) (st : List Value) (h : tm_H) (K : Option Value → tm_H → Prop) : tm_A d 154 7 [l0, some (.int v), l2, l3, l4, l5] st h K ↔ tm_A d 154 8 [l0, some (.int v), l2, l3, l4, l5] (.int v :: st) h K := tm_s o154_7 rfl rfl rfl
theorem o154_8 : tm_op 154 8 = some (.if_icmp .ge 100, (0, 0, 0, 0)) := rfl
theorem r154_8 (d : Nat) (y x : Int32) (ls : tm_Lo) (st : List Value) (h : tm_H) (K : Option Value → tm_H → Prop) : tm_A d 154 8 ls (.int y :: .int x :: st) h K ↔ if y ≤ x then tm_A d 154 108 ls st h K else tm_A d 154 11 ls st h K := tm_b o154_8 rfl rfl rfl rfl
theorem o154_11 : tm_op 154 11 = some (.aload_n 0, (0, 0, 0, 0)) := rfl
theorem r154_11 (d : Nat) (v : Nat) (l1 l2 l3 l4 l5 : Option Value) (st : List Value) (h : tm_H) (K : Option Value → tm_H → Prop) : tm_A d 154 11 [some (.ref v), l1, l2, l3, l4, l5] st h K ↔ tm_A d 154 12 [some (.ref v), l1, l2, l3, l4, l5] (.ref v :: st) h K := tm_s o154_11 rfl rfl rfl
theorem o154_12 : tm_op 154 12 = some (.getfield 65, (2, 10, 28, 0)) := rfl
theorem r154_12 (d : Nat) (a : Nat) (ls : tm_Lo) (st : List Value) (G : tm_G) (I : Nat → Nat → Int32) (J : Nat → Nat → Int64) (R : Nat → Nat → Option Nat) (K : Option Value → tm_H → Prop) : tm_A d 154 12 ls (.ref a :: st) (G, I, J, R) K ↔ G.2.2 a = (0, 10) ∧ tm_A d 154 15 ls (tm_rf (R a 28) :: st) (G, I, J, R) K := tm_getR o154_12
theorem o154_15 : tm_op 154 15 = some (.bipush 10, (0, 0, 0, 0)) := rfl
theorem r154_15 (d : Nat) (ls : tm_Lo) (st : List Value) (h : tm_H) (K : Option Value → tm_H → Prop) : tm_A d 154 15 ls st h K ↔ tm_A d 154 17 ls (.int (10 : Int32) :: st) h K := tm_bp o154_15 (by decide)
theorem o154_17 : tm_op 154 17 = some (.aload_n 0, (0, 0, 0, 0)) := rfl
theorem r154_17 (d : Nat) (v : Nat) (l1 l2 l3 l4 l5 : Option Value) (st : List Value) (h : tm_H) (K : Option Value → tm_H → Prop) : tm_A d 154 17 [some (.ref v), l1, l2, l3, l4, l5] st h K ↔ tm_A d 154 18 [some (.ref v), l1, l2, l3, l4, l5] (.ref v :: st) h K := tm_s o154_17 rfl rfl rfl
theorem o154_18 : tm_op 154 18 = some (.getfield 62, (2, 10, 27, 0)) := rfl
theorem r154_18 (d : Nat) (a : Nat) (ls : tm_Lo) (st : List Value) (G : tm_G) (I : Nat → Nat → Int32) (J : Nat → Nat → Int64) (R : Nat → Nat → Option Nat) (K : Option Value → tm_H → Prop) : tm_A d 154 18 ls (.ref a :: st) (G, I, J, R) K ↔ G.2.2 a = (0, 10) ∧ tm_A d 154 21 ls (tm_rf (R a 27) :: st) (G, I, J, R) K := tm_getR o154_18
theorem o154_21 : tm_op 154 21 = some (.iload 4, (0, 0, 0, 0)) := rfl
theorem r154_21 (d : Nat) (v : Int32) (l0 l1 l2 l3 l5 : Option Value) (st : List Value) (h : tm_H) (K : Option Value → tm_H → Prop) : tm_A d 154 21 [l0, l1, l2, l3, some (.int v), l5] st h K ↔ tm_A d 154 23 [l0, l1, l2, l3, some (.int v), l5] (.int v :: st) h K := tm_s o154_21 rfl rfl rfl
theorem o154_23 : tm_op 154 23 = some (.iaload, (0, 0, 0, 0)) := rfl
theorem r154_23 (d : Nat) (v : Int32) (a : Nat) (ls : tm_Lo) (st : List Value) (G : tm_G) (I : Nat → Nat → Int32) (J : Nat → Nat → Int64) (R : Nat → Nat → Option Nat) (K : Option Value → tm_H → Prop) : tm_A d 154 23 ls (.int v :: .ref a :: st) (G, I, J, R) K ↔ ((G.2.2 a).1 = 1 ∧ tm_in v (G.2.2 a).2) ∧ tm_A d 154 24 ls (.int (I a (tm_ix v)) :: st) (G, I, J, R) K := tm_iald o154_23
theorem o154_24 : tm_op 154 24 = some (.imul, (0, 0, 0, 0)) := rfl
theorem r154_24 (d : Nat) (u v : Int32) (ls : tm_Lo) (st : List Value) (h : tm_H) (K : Option Value → tm_H → Prop) : tm_A d 154 24 ls (.int u :: .int v :: st) h K ↔ tm_A d 154 25 ls (.int (v * u) :: st) h K := tm_s o154_24 rfl rfl rfl
theorem o154_25 : tm_op 154 25 = some (.aload_n 0, (0, 0, 0, 0)) := rfl
theorem r154_25 (d : Nat) (v : Nat) (l1 l2 l3 l4 l5 : Option Value) (st : List Value) (h : tm_H) (K : Option Value → tm_H → Prop) : tm_A d 154 25 [some (.ref v), l1, l2, l3, l4, l5] st h K ↔ tm_A d 154 26 [some (.ref v), l1, l2, l3, l4, l5] (.ref v :: st) h K := tm_s o154_25 rfl rfl rfl
theorem o154_26 : tm_op 154 26 = some (.getfield 62, (2, 10, 27, 0)) := rfl
theorem r154_26 (d : Nat) (a : Nat) (ls : tm_Lo) (st : List Value) (G : tm_G) (I : Nat → Nat → Int32) (J : Nat → Nat → Int64) (R : Nat → Nat → Option Nat) (K : Option Value → tm_H → Prop) : tm_A d 154 26 ls (.ref a :: st) (G, I, J, R) K ↔ G.2.2 a = (0, 10) ∧ tm_A d 154 29 ls (tm_rf (R a 27) :: st) (G, I, J, R) K := tm_getR o154_26
theorem o154_29 : tm_op 154 29 = some (.iload_n 1, (0, 0, 0, 0)) := rfl
theorem r154_29 (d : Nat) (v : Int32) (l0 l2 l3 l4 l5 : Option Value) (st : List Value) (h : tm_H) (K : Option Value → tm_H → Prop) : tm_A d 154 29 [l0, some (.int v), l2, l3, l4, l5] st h K ↔ tm_A d 154 30 [l0, some (.int v), l2, l3, l4, l5] (.int v :: st) h K := tm_s o154_29 rfl rfl rfl
theorem o154_30 : tm_op 154 30 = some (.iaload, (0, 0, 0, 0)) := rfl
theorem r154_30 (d : Nat) (v : Int32) (a : Nat) (ls : tm_Lo) (st : List Value) (G : tm_G) (I : Nat → Nat → Int32) (J : Nat → Nat → Int64) (R : Nat → Nat → Option Nat) (K : Option Value → tm_H → Prop) : tm_A d 154 30 ls (.int v :: .ref a :: st) (G, I, J, R) K ↔ ((G.2.2 a).1 = 1 ∧ tm_in v (G.2.2 a).2) ∧ tm_A d 154 31 ls (.int (I a (tm_ix v)) :: st) (G, I, J, R) K := tm_iald o154_30
theorem o154_31 : tm_op 154 31 = some (.iadd, (0, 0, 0, 0)) := rfl
theorem r154_31 (d : Nat) (u v : Int32) (ls : tm_Lo) (st : List Value) (h : tm_H) (K : Option Value → tm_H → Prop) : tm_A d 154 31 ls (.int u :: .int v :: st) h K ↔ tm_A d 154 32 ls (.int (v + u) :: st) h K := tm_s o154_31 rfl rfl rfl
theorem o154_32 : tm_op 154 32 = some (.iaload, (0, 0, 0, 0)) := rfl
theorem r154_32 (d : Nat) (v : Int32) (a : Nat) (ls : tm_Lo) (st : List Value) (G : tm_G) (I : Nat → Nat → Int32) (J : Nat → Nat → Int64) (R : Nat → Nat → Option Nat) (K : Option Value → tm_H → Prop) : tm_A d 154 32 ls (.int v :: .ref a :: st) (G, I, J, R) K ↔ ((G.2.2 a).1 = 1 ∧ tm_in v (G.2.2 a).2) ∧ tm_A d 154 33 ls (.int (I a (tm_ix v)) :: st) (G, I, J, R) K := tm_iald o154_32
theorem o154_33 : tm_op 154 33 = some (.iconst 1, (0, 0, 0, 0)) := rfl
theorem r154_33 (d : Nat) (ls : tm_Lo) (st : List Value) (h : tm_H) (K : Option Value → tm_H → Prop) : tm_A d 154 33 ls st h K ↔ tm_A d 154 34 ls (.int (1 : Int32) :: st) h K := tm_ic o154_33 (by decide)
theorem o154_34 : tm_op 154 34 = some (.if_icmp .ne 7, (0, 0, 0, 0)) := rfl
theorem r154_34 (d : Nat) (y x : Int32) (ls : tm_Lo) (st : List Value) (h : tm_H) (K : Option Value → tm_H → Prop) : tm_A d 154 34 ls (.int y :: .int x :: st) h K ↔ if ¬ x = y then tm_A d 154 41 ls st h K else tm_A d 154 37 ls st h K := tm_b o154_34 rfl rfl rfl rfl
theorem o154_37 : tm_op 154 37 = some (.iconst 1, (0, 0, 0, 0)) := rfl
theorem r154_37 (d : Nat) (ls : tm_Lo) (st : List Value) (h : tm_H) (K : Option Value → tm_H → Prop) : tm_A d 154 37 ls st h K ↔ tm_A d 154 38 ls (.int (1 : Int32) :: st) h K := tm_ic o154_37 (by decide)
theorem o154_38 : tm_op 154 38 = some (.goto 4, (0, 0, 0, 0)) := rfl
theorem r154_38 (d : Nat) (ls : tm_Lo) (st : List Value) (h : tm_H) (K : Option Value → tm_H → Prop) : tm_A d 154 38 ls st h K ↔ tm_A d 154 42 ls st h K := tm_s o154_38 rfl rfl rfl
theorem o154_41 : tm_op 154 41 = some (.iconst 0, (0, 0, 0, 0)) := rfl
theorem r154_41 (d : Nat) (ls : tm_Lo) (st : List Value) (h : tm_H) (K : Option Value → tm_H → Prop) : tm_A d 154 41 ls st h K ↔ tm_A d 154 42 ls (.int (0 : Int32) :: st) h K := tm_ic o154_41 (by decide)
theorem o154_42 : tm_op 154 42 = some (.istore 5, (0, 0, 0, 0)) := rfl
theorem r154_42 (d : Nat) (v : Int32) (l0 l1 l2 l3 l4 l5 : Option Value) (st : List Value) (h : tm_H) (K : Option Value → tm_H → Prop) : tm_A d 154 42 [l0, l1, l2, l3, l4, l5] (.int v :: st) h K ↔ tm_A d 154 44 [l0, l1, l2, l3, l4, some (.int v)] st h K := tm_s o154_42 rfl rfl rfl
theorem o154_44 : tm_op 154 44 = some (.aload_n 0, (0, 0, 0, 0)) := rfl
theorem r154_44 (d : Nat) (v : Nat) (l1 l2 l3 l4 l5 : Option Value) (st : List Value) (h : tm_H) (K : Option Value → tm_H → Prop) : tm_A d 154 44 [some (.ref v), l1, l2, l3, l4, l5] st h K ↔ tm_A d 154 45 [some (.ref v), l1, l2, l3, l4, l5] (.ref v :: st) h K := tm_s o154_44 rfl rfl rfl
theorem o154_45 : tm_op 154 45 = some (.getfield 71, (2, 10, 30, 0)) := rfl
theorem r154_45 (d : Nat) (a : Nat) (ls : tm_Lo) (st : List Value) (G : tm_G) (I : Nat → Nat → Int32) (J : Nat → Nat → Int64) (R : Nat → Nat → Option Nat) (K : Option Value → tm_H → Prop) : tm_A d 154 45 ls (.ref a :: st) (G, I, J, R) K ↔ G.2.2 a = (0, 10) ∧ tm_A d 154 48 ls (tm_rf (R a 30) :: st) (G, I, J, R) K := tm_getR o154_45
theorem o154_48 : tm_op 154 48 = some (.iload 4, (0, 0, 0, 0)) := rfl
theorem r154_48 (d : Nat) (v : Int32) (l0 l1 l2 l3 l5 : Option Value) (st : List Value) (h : tm_H) (K : Option Value → tm_H → Prop) : tm_A d 154 48 [l0, l1, l2, l3, some (.int v), l5] st h K ↔ tm_A d 154 50 [l0, l1, l2, l3, some (.int v), l5] (.int v :: st) h K := tm_s o154_48 rfl rfl rfl
theorem o154_50 : tm_op 154 50 = some (.iaload, (0, 0, 0, 0)) := rfl
theorem r154_50 (d : Nat) (v : Int32) (a : Nat) (ls : tm_Lo) (st : List Value) (G : tm_G) (I : Nat → Nat → Int32) (J : Nat → Nat → Int64) (R : Nat → Nat → Option Nat) (K : Option Value → tm_H → Prop) : tm_A d 154 50 ls (.int v :: .ref a :: st) (G, I, J, R) K ↔ ((G.2.2 a).1 = 1 ∧ tm_in v (G.2.2 a).2) ∧ tm_A d 154 51 ls (.int (I a (tm_ix v)) :: st) (G, I, J, R) K := tm_iald o154_50
theorem o154_51 : tm_op 154 51 = some (.iload_n 2, (0, 0, 0, 0)) := rfl
theorem r154_51 (d : Nat) (v : Int32) (l0 l1 l3 l4 l5 : Option Value) (st : List Value) (h : tm_H) (K : Option Value → tm_H → Prop) : tm_A d 154 51 [l0, l1, some (.int v), l3, l4, l5] st h K ↔ tm_A d 154 52 [l0, l1, some (.int v), l3, l4, l5] (.int v :: st) h K := tm_s o154_51 rfl rfl rfl
theorem o154_52 : tm_op 154 52 = some (.if_icmp .ne 42, (0, 0, 0, 0)) := rfl
theorem r154_52 (d : Nat) (y x : Int32) (ls : tm_Lo) (st : List Value) (h : tm_H) (K : Option Value → tm_H → Prop) : tm_A d 154 52 ls (.int y :: .int x :: st) h K ↔ if ¬ x = y then tm_A d 154 94 ls st h K else tm_A d 154 55 ls st h K := tm_b o154_52 rfl rfl rfl rfl
theorem o154_55 : tm_op 154 55 = some (.aload_n 0, (0, 0, 0, 0)) := rfl
theorem r154_55 (d : Nat) (v : Nat) (l1 l2 l3 l4 l5 : Option Value) (st : List Value) (h : tm_H) (K : Option Value → tm_H → Prop) : tm_A d 154 55 [some (.ref v), l1, l2, l3, l4, l5] st h K ↔ tm_A d 154 56 [some (.ref v), l1, l2, l3, l4, l5] (.ref v :: st) h K := tm_s o154_55 rfl rfl rfl
theorem o154_56 : tm_op 154 56 = some (.getfield 68, (2, 10, 29, 0)) := rfl
theorem r154_56 (d : Nat) (a : Nat) (ls : tm_Lo) (st : List Value) (G : tm_G) (I : Nat → Nat → Int32) (J : Nat → Nat → Int64) (R : Nat → Nat → Option Nat) (K : Option Value → tm_H → Prop) : tm_A d 154 56 ls (.ref a :: st) (G, I, J, R) K ↔ G.2.2 a = (0, 10) ∧ tm_A d 154 59 ls (tm_rf (R a 29) :: st) (G, I, J, R) K := tm_getR o154_56
theorem o154_59 : tm_op 154 59 = some (.bipush 10, (0, 0, 0, 0)) := rfl
theorem r154_59 (d : Nat) (ls : tm_Lo) (st : List Value) (h : tm_H) (K : Option Value → tm_H → Prop) : tm_A d 154 59 ls st h K ↔ tm_A d 154 61 ls (.int (10 : Int32) :: st) h K := tm_bp o154_59 (by decide)
theorem o154_61 : tm_op 154 61 = some (.iload 4, (0, 0, 0, 0)) := rfl
theorem r154_61 (d : Nat) (v : Int32) (l0 l1 l2 l3 l5 : Option Value) (st : List Value) (h : tm_H) (K : Option Value → tm_H → Prop) : tm_A d 154 61 [l0, l1, l2, l3, some (.int v), l5] st h K ↔ tm_A d 154 63 [l0, l1, l2, l3, some (.int v), l5] (.int v :: st) h K := tm_s o154_61 rfl rfl rfl
theorem o154_63 : tm_op 154 63 = some (.imul, (0, 0, 0, 0)) := rfl
theorem r154_63 (d : Nat) (u v : Int32) (ls : tm_Lo) (st : List Value) (h : tm_H) (K : Option Value → tm_H → Prop) : tm_A d 154 63 ls (.int u :: .int v :: st) h K ↔ tm_A d 154 64 ls (.int (v * u) :: st) h K := tm_s o154_63 rfl rfl rfl
theorem o154_64 : tm_op 154 64 = some (.iload_n 1, (0, 0, 0, 0)) := rfl
theorem r154_64 (d : Nat) (v : Int32) (l0 l2 l3 l4 l5 : Option Value) (st : List Value) (h : tm_H) (K : Option Value → tm_H → Prop) : tm_A d 154 64 [l0, some (.int v), l2, l3, l4, l5] st h K ↔ tm_A d 154 65 [l0, some (.int v), l2, l3, l4, l5] (.int v :: st) h K := tm_s o154_64 rfl rfl rfl
theorem o154_65 : tm_op 154 65 = some (.iadd, (0, 0, 0, 0)) := rfl
theorem r154_65 (d : Nat) (u v : Int32) (ls : tm_Lo) (st : List Value) (h : tm_H) (K : Option Value → tm_H → Prop) : tm_A d 154 65 ls (.int u :: .int v :: st) h K ↔ tm_A d 154 66 ls (.int (v + u) :: st) h K := tm_s o154_65 rfl rfl rfl
theorem o154_66 : tm_op 154 66 = some (.iaload, (0, 0, 0, 0)) := rfl
theorem r154_66 (d : Nat) (v : Int32) (a : Nat) (ls : tm_Lo) (st : List Value) (G : tm_G) (I : Nat → Nat → Int32) (J : Nat → Nat → Int64) (R : Nat → Nat → Option Nat) (K : Option Value → tm_H → Prop) : tm_A d 154 66 ls (.int v :: .ref a :: st) (G, I, J, R) K ↔ ((G.2.2 a).1 = 1 ∧ tm_in v (G.2.2 a).2) ∧ tm_A d 154 67 ls (.int (I a (tm_ix v)) :: st) (G, I, J, R) K := tm_iald o154_66
theorem o154_67 : tm_op 154 67 = some (.sipush 1000, (0, 0, 0, 0)) := rfl
theorem r154_67 (d : Nat) (ls : tm_Lo) (st : List Value) (h : tm_H) (K : Option Value → tm_H → Prop) : tm_A d 154 67 ls st h K ↔ tm_A d 154 70 ls (.int (1000 : Int32) :: st) h K := tm_sp o154_67 (by decide)
theorem o154_70 : tm_op 154 70 = some (.if_icmp .ne 6, (0, 0, 0, 0)) := rfl
theorem r154_70 (d : Nat) (y x : Int32) (ls : tm_Lo) (st : List Value) (h : tm_H) (K : Option Value → tm_H → Prop) : tm_A d 154 70 ls (.int y :: .int x :: st) h K ↔ if ¬ x = y then tm_A d 154 76 ls st h K else tm_A d 154 73 ls st h K := tm_b o154_70 rfl rfl rfl rfl
theorem o154_73 : tm_op 154 73 = some (.ldc 200, (0, 1000000, 0, 0)) := rfl
theorem r154_73 (d : Nat) (ls : tm_Lo) (st : List Value) (h : tm_H) (K : Option Value → tm_H → Prop) : tm_A d 154 73 ls st h K ↔ tm_A d 154 75 ls (.int (1000000 : Int32) :: st) h K := tm_s o154_73 rfl rfl rfl
theorem o154_75 : tm_op 154 75 = some (.ireturn, (0, 0, 0, 0)) := rfl
theorem r154_75 (d : Nat) (v : Int32) (ls : tm_Lo) (h : tm_H) (K : Option Value → tm_H → Prop) : tm_A d 154 75 ls [.int v] h K ↔ K (some (.int v)) h := tm_reti o154_75 rfl
theorem o154_76 : tm_op 154 76 = some (.iload_n 3, (0, 0, 0, 0)) := rfl
theorem r154_76 (d : Nat) (v : Int32) (l0 l1 l2 l4 l5 : Option Value) (st : List Value) (h : tm_H) (K : Option Value → tm_H → Prop) : tm_A d 154 76 [l0, l1, l2, some (.int v), l4, l5] st h K ↔ tm_A d 154 77 [l0, l1, l2, some (.int v), l4, l5] (.int v :: st) h K := tm_s o154_76 rfl rfl rfl
theorem o154_77 : tm_op 154 77 = some (.aload_n 0, (0, 0, 0, 0)) := rfl
theorem r154_77 (d : Nat) (v : Nat) (l1 l2 l3 l4 l5 : Option Value) (st : List Value) (h : tm_H) (K : Option Value → tm_H → Prop) : tm_A d 154 77 [some (.ref v), l1, l2, l3, l4, l5] st h K ↔ tm_A d 154 78 [some (.ref v), l1, l2, l3, l4, l5] (.ref v :: st) h K := tm_s o154_77 rfl rfl rfl
theorem o154_78 : tm_op 154 78 = some (.getfield 68, (2, 10, 29, 0)) := rfl
theorem r154_78 (d : Nat) (a : Nat) (ls : tm_Lo) (st : List Value) (G : tm_G) (I : Nat → Nat → Int32) (J : Nat → Nat → Int64) (R : Nat → Nat → Option Nat) (K : Option Value → tm_H → Prop) : tm_A d 154 78 ls (.ref a :: st) (G, I, J, R) K ↔ G.2.2 a = (0, 10) ∧ tm_A d 154 81 ls (tm_rf (R a 29) :: st) (G, I, J, R) K := tm_getR o154_78
theorem o154_81 : tm_op 154 81 = some (.bipush 10, (0, 0, 0, 0)) := rfl
theorem r154_81 (d : Nat) (ls : tm_Lo) (st : List Value) (h : tm_H) (K : Option Value → tm_H → Prop) : tm_A d 154 81 ls st h K ↔ tm_A d 154 83 ls (.int (10 : Int32) :: st) h K := tm_bp o154_81 (by decide)
theorem o154_83 : tm_op 154 83 = some (.iload 4, (0, 0, 0, 0)) := rfl
theorem r154_83 (d : Nat) (v : Int32) (l0 l1 l2 l3 l5 : Option Value) (st : List Value) (h : tm_H) (K : Option Value → tm_H → Prop) : tm_A d 154 83 [l0, l1, l2, l3, some (.int v), l5] st h K ↔ tm_A d 154 85 [l0, l1, l2, l3, some (.int v), l5] (.int v :: st) h K := tm_s o154_83 rfl rfl rfl
theorem o154_85 : tm_op 154 85 = some (.imul, (0, 0, 0, 0)) := rfl
theorem r154_85 (d : Nat) (u v : Int32) (ls : tm_Lo) (st : List Value) (h : tm_H) (K : Option Value → tm_H → Prop) : tm_A d 154 85 ls (.int u :: .int v :: st) h K ↔ tm_A d 154 86 ls (.int (v * u) :: st) h K := tm_s o154_85 rfl rfl rfl
theorem o154_86 : tm_op 154 86 = some (.iload_n 1, (0, 0, 0, 0)) := rfl
theorem r154_86 (d : Nat) (v : Int32) (l0 l2 l3 l4 l5 : Option Value) (st : List Value) (h : tm_H) (K : Option Value → tm_H → Prop) : tm_A d 154 86 [l0, some (.int v), l2, l3, l4, l5] st h K ↔ tm_A d 154 87 [l0, some (.int v), l2, l3, l4, l5] (.int v :: st) h K := tm_s o154_86 rfl rfl rfl
theorem o154_87 : tm_op 154 87 = some (.iadd, (0, 0, 0, 0)) := rfl
theorem r154_87 (d : Nat) (u v : Int32) (ls : tm_Lo) (st : List Value) (h : tm_H) (K : Option Value → tm_H → Prop) : tm_A d 154 87 ls (.int u :: .int v :: st) h K ↔ tm_A d 154 88 ls (.int (v + u) :: st) h K := tm_s o154_87 rfl rfl rfl
theorem o154_88 : tm_op 154 88 = some (.iaload, (0, 0, 0, 0)) := rfl
theorem r154_88 (d : Nat) (v : Int32) (a : Nat) (ls : tm_Lo) (st : List Value) (G : tm_G) (I : Nat → Nat → Int32) (J : Nat → Nat → Int64) (R : Nat → Nat → Option Nat) (K : Option Value → tm_H → Prop) : tm_A d 154 88 ls (.int v :: .ref a :: st) (G, I, J, R) K ↔ ((G.2.2 a).1 = 1 ∧ tm_in v (G.2.2 a).2) ∧ tm_A d 154 89 ls (.int (I a (tm_ix v)) :: st) (G, I, J, R) K := tm_iald o154_88
theorem o154_89 : tm_op 154 89 = some (.iadd, (0, 0, 0, 0)) := rfl
theorem r154_89 (d : Nat) (u v : Int32) (ls : tm_Lo) (st : List Value) (h : tm_H) (K : Option Value → tm_H → Prop) : tm_A d 154 89 ls (.int u :: .int v :: st) h K ↔ tm_A d 154 90 ls (.int (v + u) :: st) h K := tm_s o154_89 rfl rfl rfl
theorem o154_90 : tm_op 154 90 = some (.istore_n 3, (0, 0, 0, 0)) := rfl
theorem r154_90 (d : Nat) (v : Int32) (l0 l1 l2 l3 l4 l5 : Option Value) (st : List Value) (h : tm_H) (K : Option Value → tm_H → Prop) : tm_A d 154 90 [l0, l1, l2, l3, l4, l5] (.int v :: st) h K ↔ tm_A d 154 91 [l0, l1, l2, some (.int v), l4, l5] st h K := tm_s o154_90 rfl rfl rfl
theorem o154_91 : tm_op 154 91 = some (.goto 11, (0, 0, 0, 0)) := rfl
theorem r154_91 (d : Nat) (ls : tm_Lo) (st : List Value) (h : tm_H) (K : Option Value → tm_H → Prop) : tm_A d 154 91 ls st h K ↔ tm_A d 154 102 ls st h K := tm_s o154_91 rfl rfl rfl
theorem o154_94 : tm_op 154 94 = some (.iload 5, (0, 0, 0, 0)) := rfl
theorem r154_94 (d : Nat) (v : Int32) (l0 l1 l2 l3 l4 : Option Value) (st : List Value) (h : tm_H) (K : Option Value → tm_H → Prop) : tm_A d 154 94 [l0, l1, l2, l3, l4, some (.int v)] st h K ↔ tm_A d 154 96 [l0, l1, l2, l3, l4, some (.int v)] (.int v :: st) h K := tm_s o154_94 rfl rfl rfl
theorem o154_96 : tm_op 154 96 = some (.ifCond .eq 6, (0, 0, 0, 0)) := rfl
theorem r154_96 (d : Nat) (x : Int32) (ls : tm_Lo) (st : List Value) (h : tm_H) (K : Option Value → tm_H → Prop) : tm_A d 154 96 ls (.int x :: st) h K ↔ if x = 0 then tm_A d 154 102 ls st h K else tm_A d 154 99 ls st h K := tm_b o154_96 rfl rfl rfl rfl
theorem o154_99 : tm_op 154 99 = some (.ldc 200, (0, 1000000, 0, 0)) := rfl
theorem r154_99 (d : Nat) (ls : tm_Lo) (st : List Value) (h : tm_H) (K : Option Value → tm_H → Prop) : tm_A d 154 99 ls st h K ↔ tm_A d 154 101 ls (.int (1000000 : Int32) :: st) h K := tm_s o154_99 rfl rfl rfl
theorem o154_101 : tm_op 154 101 = some (.ireturn, (0, 0, 0, 0)) := rfl
theorem r154_101 (d : Nat) (v : Int32) (ls : tm_Lo) (h : tm_H) (K : Option Value → tm_H → Prop) : tm_A d 154 101 ls [.int v] h K ↔ K (some (.int v)) h := tm_reti o154_101 rfl
theorem o154_102 : tm_op 154 102 = some (.iinc 4 1, (0, 0, 0, 0)) := rfl
theorem r154_102 (d : Nat) (v : Int32) (l0 l1 l2 l3 l5 : Option Value) (st : List Value) (h : tm_H) (K : Option Value → tm_H → Prop) : tm_A d 154 102 [l0, l1, l2, l3, some (.int v), l5] st h K ↔ tm_A d 154 105 [l0, l1, l2, l3, some (.int (v + (1 : Int32))), l5] st h K := tm_s o154_102 rfl rfl rfl
theorem o154_105 : tm_op 154 105 = some (.goto (-100), (0, 0, 0, 0)) := rfl
theorem r154_105 (d : Nat) (ls : tm_Lo) (st : List Value) (h : tm_H) (K : Option Value → tm_H → Prop) : tm_A d 154 105 ls st h K ↔ tm_A d 154 5 ls st h K := tm_s o154_105 rfl rfl rfl
theorem o154_108 : tm_op 154 108 = some (.iload_n 3, (0, 0, 0, 0)) := rfl
theorem r154_108 (d : Nat) (v : Int32) (l0 l1 l2 l4 l5 : Option Value) (st : List Value) (h : tm_H) (K : Option Value → tm_H → Prop) : tm_A d 154 108 [l0, l1, l2, some (.int v), l4, l5] st h K ↔ tm_A d 154 109 [l0, l1, l2, some (.int v), l4, l5] (.int v :: st) h K := tm_s o154_108 rfl rfl rfl
theorem o154_109 : tm_op 154 109 = some (.ireturn, (0, 0, 0, 0)) := rfl
theorem r154_109 (d : Nat) (v : Int32) (ls : tm_Lo) (h : tm_H) (K : Option Value → tm_H → Prop) : tm_A d 154 109 ls [.int v] h K ↔ K (some (.int v)) h := tm_reti o154_109 rfl
theorem o155_0 : tm_op 155 0 = some (.iload_n 1, (0, 0, 0, 0)) := rfl
theorem r155_0 (d : Nat) (v : Int32) (l0 l2 l3 l4 l5 : Option Value) (st : List Value) (h : tm_H) (K : Option Value → tm_H → Prop) : tm_A d 155 0 [l0, some (.int v), l2, l3, l4, l5] st h K ↔ tm_A d 155 1 [l0, some (.int v), l2, l3, l4, l5] (.int v :: st) h K := tm_s o155_0 rfl rfl rfl
theorem o155_1 : tm_op 155 1 = some (.aload_n 0, (0, 0, 0, 0)) := rfl
theorem r155_1 (d : Nat) (v : Nat) (l1 l2 l3 l4 l5 : Option Value) (st : List Value) (h : tm_H) (K : Option Value → tm_H → Prop) : tm_A d 155 1 [some (.ref v), l1, l2, l3, l4, l5] st h K ↔ tm_A d 155 2 [some (.ref v), l1, l2, l3, l4, l5] (.ref v :: st) h K := tm_s o155_1 rfl rfl rfl
theorem o155_2 : tm_op 155 2 = some (.getfield 159, (0, 10, 26, 0)) := rfl
theorem r155_2 (d : Nat) (a : Nat) (ls : tm_Lo) (st : List Value) (G : tm_G) (I : Nat → Nat → Int32) (J : Nat → Nat → Int64) (R : Nat → Nat → Option Nat) (K : Option Value → tm_H → Prop) : tm_A d 155 2 ls (.ref a :: st) (G, I, J, R) K ↔ G.2.2 a = (0, 10) ∧ tm_A d 155 5 ls (.int (I a 26) :: st) (G, I, J, R) K := tm_getI o155_2
theorem o155_5 : tm_op 155 5 = some (.if_icmp .ne 66, (0, 0, 0, 0)) := rfl
theorem r155_5 (d : Nat) (y x : Int32) (ls : tm_Lo) (st : List Value) (h : tm_H) (K : Option Value → tm_H → Prop) : tm_A d 155 5 ls (.int y :: .int x :: st) h K ↔ if ¬ x = y then tm_A d 155 71 ls st h K else tm_A d 155 8 ls st h K := tm_b o155_5 rfl rfl rfl rfl
theorem o155_8 : tm_op 155 8 = some (.aload_n 0, (0, 0, 0, 0)) := rfl
theorem r155_8 (d : Nat) (v : Nat) (l1 l2 l3 l4 l5 : Option Value) (st : List Value) (h : tm_H) (K : Option Value → tm_H → Prop) : tm_A d 155 8 [some (.ref v), l1, l2, l3, l4, l5] st h K ↔ tm_A d 155 9 [some (.ref v), l1, l2, l3, l4, l5] (.ref v :: st) h K := tm_s o155_8 rfl rfl rfl
theorem o155_9 : tm_op 155 9 = some (.getfield 201, (3, 10, 34, 0)) := rfl
theorem r155_9 (d : Nat) (a : Nat) (ls : tm_Lo) (st : List Value) (G : tm_G) (I : Nat → Nat → Int32) (J : Nat → Nat → Int64) (R : Nat → Nat → Option Nat) (K : Option Value → tm_H → Prop) : tm_A d 155 9 ls (.ref a :: st) (G, I, J, R) K ↔ G.2.2 a = (0, 10) ∧ tm_A d 155 12 ls (.int (I a 34) :: st) (G, I, J, R) K := tm_getZ o155_9
theorem o155_12 : tm_op 155 12 = some (.ifCond .eq 11, (0, 0, 0, 0)) := rfl
theorem r155_12 (d : Nat) (x : Int32) (ls : tm_Lo) (st : List Value) (h : tm_H) (K : Option Value → tm_H → Prop) : tm_A d 155 12 ls (.int x :: st) h K ↔ if x = 0 then tm_A d 155 23 ls st h K else tm_A d 155 15 ls st h K := tm_b o155_12 rfl rfl rfl rfl
theorem o155_15 : tm_op 155 15 = some (.iload_n 3, (0, 0, 0, 0)) := rfl
theorem r155_15 (d : Nat) (v : Int32) (l0 l1 l2 l4 l5 : Option Value) (st : List Value) (h : tm_H) (K : Option Value → tm_H → Prop) : tm_A d 155 15 [l0, l1, l2, some (.int v), l4, l5] st h K ↔ tm_A d 155 16 [l0, l1, l2, some (.int v), l4, l5] (.int v :: st) h K := tm_s o155_15 rfl rfl rfl
theorem o155_16 : tm_op 155 16 = some (.aload_n 0, (0, 0, 0, 0)) := rfl
theorem r155_16 (d : Nat) (v : Nat) (l1 l2 l3 l4 l5 : Option Value) (st : List Value) (h : tm_H) (K : Option Value → tm_H → Prop) : tm_A d 155 16 [some (.ref v), l1, l2, l3, l4, l5] st h K ↔ tm_A d 155 17 [some (.ref v), l1, l2, l3, l4, l5] (.ref v :: st) h K := tm_s o155_16 rfl rfl rfl
theorem o155_17 : tm_op 155 17 = some (.getfield 205, (0, 10, 32, 0)) := rfl
theorem r155_17 (d : Nat) (a : Nat) (ls : tm_Lo) (st : List Value) (G : tm_G) (I : Nat → Nat → Int32) (J : Nat → Nat → Int64) (R : Nat → Nat → Option Nat) (K : Option Value → tm_H → Prop) : tm_A d 155 17 ls (.ref a :: st) (G, I, J, R) K ↔ G.2.2 a = (0, 10) ∧ tm_A d 155 20 ls (.int (I a 32) :: st) (G, I, J, R) K := tm_getI o155_17
theorem o155_20 : tm_op 155 20 = some (.if_icmp .ge 50, (0, 0, 0, 0)) := rfl
theorem r155_20 (d : Nat) (y x : Int32) (ls : tm_Lo) (st : List Value) (h : tm_H) (K : Option Value → tm_H → Prop) : tm_A d 155 20 ls (.int y :: .int x :: st) h K ↔ if y ≤ x then tm_A d 155 70 ls st h K else tm_A d 155 23 ls st h K := tm_b o155_20 rfl rfl rfl rfl
theorem o155_23 : tm_op 155 23 = some (.aload_n 0, (0, 0, 0, 0)) := rfl
theorem r155_23 (d : Nat) (v : Nat) (l1 l2 l3 l4 l5 : Option Value) (st : List Value) (h : tm_H) (K : Option Value → tm_H → Prop) : tm_A d 155 23 [some (.ref v), l1, l2, l3, l4, l5] st h K ↔ tm_A d 155 24 [some (.ref v), l1, l2, l3, l4, l5] (.ref v :: st) h K := tm_s o155_23 rfl rfl rfl
theorem o155_24 : tm_op 155 24 = some (.iconst 1, (0, 0, 0, 0)) := rfl
theorem r155_24 (d : Nat) (ls : tm_Lo) (st : List Value) (h : tm_H) (K : Option Value → tm_H → Prop) : tm_A d 155 24 ls st h K ↔ tm_A d 155 25 ls (.int (1 : Int32) :: st) h K := tm_ic o155_24 (by decide)
theorem o155_25 : tm_op 155 25 = some (.putfield 201, (3, 10, 34, 0)) := rfl
theorem r155_25 (d : Nat) (v : Int32) (a : Nat) (ls : tm_Lo) (st : List Value) (G : tm_G) (I : Nat → Nat → Int32) (J : Nat → Nat → Int64) (R : Nat → Nat → Option Nat) (K : Option Value → tm_H → Prop) : tm_A d 155 25 ls (.int v :: .ref a :: st) (G, I, J, R) K ↔ (G.2.2 a = (0, 10) ∧ (v = 0 ∨ v = 1)) ∧ tm_A d 155 28 ls st (G, up2 I a 34 v, J, R) K := tm_putZ o155_25
theorem o155_28 : tm_op 155 28 = some (.aload_n 0, (0, 0, 0, 0)) := rfl
theorem r155_28 (d : Nat) (v : Nat) (l1 l2 l3 l4 l5 : Option Value) (st : List Value) (h : tm_H) (K : Option Value → tm_H → Prop) : tm_A d 155 28 [some (.ref v), l1, l2, l3, l4, l5] st h K ↔ tm_A d 155 29 [some (.ref v), l1, l2, l3, l4, l5] (.ref v :: st) h K := tm_s o155_28 rfl rfl rfl
theorem o155_29 : tm_op 155 29 = some (.iload_n 3, (0, 0, 0, 0)) := rfl
theorem r155_29 (d : Nat) (v : Int32) (l0 l1 l2 l4 l5 : Option Value) (st : List Value) (h : tm_H) (K : Option Value → tm_H → Prop) : tm_A d 155 29 [l0, l1, l2, some (.int v), l4, l5] st h K ↔ tm_A d 155 30 [l0, l1, l2, some (.int v), l4, l5] (.int v :: st) h K := tm_s o155_29 rfl rfl rfl
theorem o155_30 : tm_op 155 30 = some (.putfield 205, (0, 10, 32, 0)) := rfl
theorem r155_30 (d : Nat) (v : Int32) (a : Nat) (ls : tm_Lo) (st : List Value) (G : tm_G) (I : Nat → Nat → Int32) (J : Nat → Nat → Int64) (R : Nat → Nat → Option Nat) (K : Option Value → tm_H → Prop) : tm_A d 155 30 ls (.int v :: .ref a :: st) (G, I, J, R) K ↔ G.2.2 a = (0, 10) ∧ tm_A d 155 33 ls st (G, up2 I a 32 v, J, R) K := tm_putI o155_30
theorem o155_33 : tm_op 155 33 = some (.aload_n 0, (0, 0, 0, 0)) := rfl
theorem r155_33 (d : Nat) (v : Nat) (l1 l2 l3 l4 l5 : Option Value) (st : List Value) (h : tm_H) (K : Option Value → tm_H → Prop) : tm_A d 155 33 [some (.ref v), l1, l2, l3, l4, l5] st h K ↔ tm_A d 155 34 [some (.ref v), l1, l2, l3, l4, l5] (.ref v :: st) h K := tm_s o155_33 rfl rfl rfl
theorem o155_34 : tm_op 155 34 = some (.iload_n 2, (0, 0, 0, 0)) := rfl
theorem r155_34 (d : Nat) (v : Int32) (l0 l1 l3 l4 l5 : Option Value) (st : List Value) (h : tm_H) (K : Option Value → tm_H → Prop) : tm_A d 155 34 [l0, l1, some (.int v), l3, l4, l5] st h K ↔ tm_A d 155 35 [l0, l1, some (.int v), l3, l4, l5] (.int v :: st) h K := tm_s o155_34 rfl rfl rfl
theorem o155_35 : tm_op 155 35 = some (.putfield 208, (0, 10, 33, 0)) := rfl
theorem r155_35 (d : Nat) (v : Int32) (a : Nat) (ls : tm_Lo) (st : List Value) (G : tm_G) (I : Nat → Nat → Int32) (J : Nat → Nat → Int64) (R : Nat → Nat → Option Nat) (K : Option Value → tm_H → Prop) : tm_A d 155 35 ls (.int v :: .ref a :: st) (G, I, J, R) K ↔ G.2.2 a = (0, 10) ∧ tm_A d 155 38 ls st (G, up2 I a 33 v, J, R) K := tm_putI o155_35
theorem o155_38 : tm_op 155 38 = some (.iconst 0, (0, 0, 0, 0)) := rfl
theorem r155_38 (d : Nat) (ls : tm_Lo) (st : List Value) (h : tm_H) (K : Option Value → tm_H → Prop) : tm_A d 155 38 ls st h K ↔ tm_A d 155 39 ls (.int (0 : Int32) :: st) h K := tm_ic o155_38 (by decide)
theorem o155_39 : tm_op 155 39 = some (.istore 4, (0, 0, 0, 0)) := rfl
theorem r155_39 (d : Nat) (v : Int32) (l0 l1 l2 l3 l4 l5 : Option Value) (st : List Value) (h : tm_H) (K : Option Value → tm_H → Prop) : tm_A d 155 39 [l0, l1, l2, l3, l4, l5] (.int v :: st) h K ↔ tm_A d 155 41 [l0, l1, l2, l3, some (.int v), l5] st h K := tm_s o155_39 rfl rfl rfl
theorem o155_41 : tm_op 155 41 = some (.iload 4, (0, 0, 0, 0)) := rfl
theorem r155_41 (d : Nat) (v : Int32) (l0 l1 l2 l3 l5 : Option Value) (st : List Value) (h : tm_H) (K : Option Value → tm_H → Prop) : tm_A d 155 41 [l0, l1, l2, l3, some (.int v), l5] st h K ↔ tm_A d 155 43 [l0, l1, l2, l3, some (.int v), l5] (.int v :: st) h K := tm_s o155_41 rfl rfl rfl
theorem o155_43 : tm_op 155 43 = some (.aload_n 0, (0, 0, 0, 0)) := rfl
theorem r155_43 (d : Nat) (v : Nat) (l1 l2 l3 l4 l5 : Option Value) (st : List Value) (h : tm_H) (K : Option Value → tm_H → Prop) : tm_A d 155 43 [some (.ref v), l1, l2, l3, l4, l5] st h K ↔ tm_A d 155 44 [some (.ref v), l1, l2, l3, l4, l5] (.ref v :: st) h K := tm_s o155_43 rfl rfl rfl
theorem o155_44 : tm_op 155 44 = some (.getfield 159, (0, 10, 26, 0)) := rfl
theorem r155_44 (d : Nat) (a : Nat) (ls : tm_Lo) (st : List Value) (G : tm_G) (I : Nat → Nat → Int32) (J : Nat → Nat → Int64) (R : Nat → Nat → Option Nat) (K : Option Value → tm_H → Prop) : tm_A d 155 44 ls (.ref a :: st) (G, I, J, R) K ↔ G.2.2 a = (0, 10) ∧ tm_A d 155 47 ls (.int (I a 26) :: st) (G, I, J, R) K := tm_getI o155_44
theorem o155_47 : tm_op 155 47 = some (.if_icmp .ge 23, (0, 0, 0, 0)) := rfl
theorem r155_47 (d : Nat) (y x : Int32) (ls : tm_Lo) (st : List Value) (h : tm_H) (K : Option Value → tm_H → Prop) : tm_A d 155 47 ls (.int y :: .int x :: st) h K ↔ if y ≤ x then tm_A d 155 70 ls st h K else tm_A d 155 50 ls st h K := tm_b o155_47 rfl rfl rfl rfl
theorem o155_50 : tm_op 155 50 = some (.aload_n 0, (0, 0, 0, 0)) := rfl
theorem r155_50 (d : Nat) (v : Nat) (l1 l2 l3 l4 l5 : Option Value) (st : List Value) (h : tm_H) (K : Option Value → tm_H → Prop) : tm_A d 155 50 [some (.ref v), l1, l2, l3, l4, l5] st h K ↔ tm_A d 155 51 [some (.ref v), l1, l2, l3, l4, l5] (.ref v :: st) h K := tm_s o155_50 rfl rfl rfl
theorem o155_51 : tm_op 155 51 = some (.getfield 74, (2, 10, 31, 0)) := rfl
theorem r155_51 (d : Nat) (a : Nat) (ls : tm_Lo) (st : List Value) (G : tm_G) (I : Nat → Nat → Int32) (J : Nat → Nat → Int64) (R : Nat → Nat → Option Nat) (K : Option Value → tm_H → Prop) : tm_A d 155 51 ls (.ref a :: st) (G, I, J, R) K ↔ G.2.2 a = (0, 10) ∧ tm_A d 155 54 ls (tm_rf (R a 31) :: st) (G, I, J, R) K := tm_getR o155_51
theorem o155_54 : tm_op 155 54 = some (.iload 4, (0, 0, 0, 0)) := rfl
theorem r155_54 (d : Nat) (v : Int32) (l0 l1 l2 l3 l5 : Option Value) (st : List Value) (h : tm_H) (K : Option Value → tm_H → Prop) : tm_A d 155 54 [l0, l1, l2, l3, some (.int v), l5] st h K ↔ tm_A d 155 56 [l0, l1, l2, l3, some (.int v), l5] (.int v :: st) h K := tm_s o155_54 rfl rfl rfl
theorem o155_56 : tm_op 155 56 = some (.aload_n 0, (0, 0, 0, 0)) := rfl
theorem r155_56 (d : Nat) (v : Nat) (l1 l2 l3 l4 l5 : Option Value) (st : List Value) (h : tm_H) (K : Option Value → tm_H → Prop) : tm_A d 155 56 [some (.ref v), l1, l2, l3, l4, l5] st h K ↔ tm_A d 155 57 [some (.ref v), l1, l2, l3, l4, l5] (.ref v :: st) h K := tm_s o155_56 rfl rfl rfl
theorem o155_57 : tm_op 155 57 = some (.getfield 71, (2, 10, 30, 0)) := rfl
theorem r155_57 (d : Nat) (a : Nat) (ls : tm_Lo) (st : List Value) (G : tm_G) (I : Nat → Nat → Int32) (J : Nat → Nat → Int64) (R : Nat → Nat → Option Nat) (K : Option Value → tm_H → Prop) : tm_A d 155 57 ls (.ref a :: st) (G, I, J, R) K ↔ G.2.2 a = (0, 10) ∧ tm_A d 155 60 ls (tm_rf (R a 30) :: st) (G, I, J, R) K := tm_getR o155_57
theorem o155_60 : tm_op 155 60 = some (.iload 4, (0, 0, 0, 0)) := rfl
theorem r155_60 (d : Nat) (v : Int32) (l0 l1 l2 l3 l5 : Option Value) (st : List Value) (h : tm_H) (K : Option Value → tm_H → Prop) : tm_A d 155 60 [l0, l1, l2, l3, some (.int v), l5] st h K ↔ tm_A d 155 62 [l0, l1, l2, l3, some (.int v), l5] (.int v :: st) h K := tm_s o155_60 rfl rfl rfl
theorem o155_62 : tm_op 155 62 = some (.iaload, (0, 0, 0, 0)) := rfl
theorem r155_62 (d : Nat) (v : Int32) (a : Nat) (ls : tm_Lo) (st : List Value) (G : tm_G) (I : Nat → Nat → Int32) (J : Nat → Nat → Int64) (R : Nat → Nat → Option Nat) (K : Option Value → tm_H → Prop) : tm_A d 155 62 ls (.int v :: .ref a :: st) (G, I, J, R) K ↔ ((G.2.2 a).1 = 1 ∧ tm_in v (G.2.2 a).2) ∧ tm_A d 155 63 ls (.int (I a (tm_ix v)) :: st) (G, I, J, R) K := tm_iald o155_62
theorem o155_63 : tm_op 155 63 = some (.iastore, (0, 0, 0, 0)) := rfl
theorem r155_63 (d : Nat) (u v : Int32) (a : Nat) (ls : tm_Lo) (st : List Value) (G : tm_G) (I : Nat → Nat → Int32) (J : Nat → Nat → Int64) (R : Nat → Nat → Option Nat) (K : Option Value → tm_H → Prop) : tm_A d 155 63 ls (.int u :: .int v :: .ref a :: st) (G, I, J, R) K ↔ (3 ≤ a ∧ (G.2.2 a).1 = 1 ∧ tm_in v (G.2.2 a).2) ∧ tm_A d 155 64 ls st (G, up2 I a (tm_ix v) u, J, R) K := tm_iast o155_63
theorem o155_64 : tm_op 155 64 = some (.iinc 4 1, (0, 0, 0, 0)) := rfl
theorem r155_64 (d : Nat) (v : Int32) (l0 l1 l2 l3 l5 : Option Value) (st : List Value) (h : tm_H) (K : Option Value → tm_H → Prop) : tm_A d 155 64 [l0, l1, l2, l3, some (.int v), l5] st h K ↔ tm_A d 155 67 [l0, l1, l2, l3, some (.int (v + (1 : Int32))), l5] st h K := tm_s o155_64 rfl rfl rfl
theorem o155_67 : tm_op 155 67 = some (.goto (-26), (0, 0, 0, 0)) := rfl
theorem r155_67 (d : Nat) (ls : tm_Lo) (st : List Value) (h : tm_H) (K : Option Value → tm_H → Prop) : tm_A d 155 67 ls st h K ↔ tm_A d 155 41 ls st h K := tm_s o155_67 rfl rfl rfl
theorem o155_70 : tm_op 155 70 = some (.return_, (0, 0, 0, 0)) := rfl
theorem r155_70 (d : Nat) (ls : tm_Lo) (h : tm_H) (K : Option Value → tm_H → Prop) : tm_A d 155 70 ls [] h K ↔ K none h := tm_retv o155_70 rfl
theorem o155_71 : tm_op 155 71 = some (.iconst 0, (0, 0, 0, 0)) := rfl
theorem r155_71 (d : Nat) (ls : tm_Lo) (st : List Value) (h : tm_H) (K : Option Value → tm_H → Prop) : tm_A d 155 71 ls st h K ↔ tm_A d 155 72 ls (.int (0 : Int32) :: st) h K := tm_ic o155_71 (by decide)
theorem o155_72 : tm_op 155 72 = some (.istore 4, (0, 0, 0, 0)) := rfl
theorem r155_72 (d : Nat) (v : Int32) (l0 l1 l2 l3 l4 l5 : Option Value) (st : List Value) (h : tm_H) (K : Option Value → tm_H → Prop) : tm_A d 155 72 [l0, l1, l2, l3, l4, l5] (.int v :: st) h K ↔ tm_A d 155 74 [l0, l1, l2, l3, some (.int v), l5] st h K := tm_s o155_72 rfl rfl rfl
theorem o155_74 : tm_op 155 74 = some (.iload 4, (0, 0, 0, 0)) := rfl
theorem r155_74 (d : Nat) (v : Int32) (l0 l1 l2 l3 l5 : Option Value) (st : List Value) (h : tm_H) (K : Option Value → tm_H → Prop) : tm_A d 155 74 [l0, l1, l2, l3, some (.int v), l5] st h K ↔ tm_A d 155 76 [l0, l1, l2, l3, some (.int v), l5] (.int v :: st) h K := tm_s o155_74 rfl rfl rfl
theorem o155_76 : tm_op 155 76 = some (.iload_n 2, (0, 0, 0, 0)) := rfl
theorem r155_76 (d : Nat) (v : Int32) (l0 l1 l3 l4 l5 : Option Value) (st : List Value) (h : tm_H) (K : Option Value → tm_H → Prop) : tm_A d 155 76 [l0, l1, some (.int v), l3, l4, l5] st h K ↔ tm_A d 155 77 [l0, l1, some (.int v), l3, l4, l5] (.int v :: st) h K := tm_s o155_76 rfl rfl rfl
theorem o155_77 : tm_op 155 77 = some (.if_icmp .gt 72, (0, 0, 0, 0)) := rfl
theorem r155_77 (d : Nat) (y x : Int32) (ls : tm_Lo) (st : List Value) (h : tm_H) (K : Option Value → tm_H → Prop) : tm_A d 155 77 ls (.int y :: .int x :: st) h K ↔ if y < x then tm_A d 155 149 ls st h K else tm_A d 155 80 ls st h K := tm_b o155_77 rfl rfl rfl rfl
theorem o155_80 : tm_op 155 80 = some (.aload_n 0, (0, 0, 0, 0)) := rfl
theorem r155_80 (d : Nat) (v : Nat) (l1 l2 l3 l4 l5 : Option Value) (st : List Value) (h : tm_H) (K : Option Value → tm_H → Prop) : tm_A d 155 80 [some (.ref v), l1, l2, l3, l4, l5] st h K ↔ tm_A d 155 81 [some (.ref v), l1, l2, l3, l4, l5] (.ref v :: st) h K := tm_s o155_80 rfl rfl rfl
theorem o155_81 : tm_op 155 81 = some (.iload_n 1, (0, 0, 0, 0)) := rfl
theorem r155_81 (d : Nat) (v : Int32) (l0 l2 l3 l4 l5 : Option Value) (st : List Value) (h : tm_H) (K : Option Value → tm_H → Prop) : tm_A d 155 81 [l0, some (.int v), l2, l3, l4, l5] st h K ↔ tm_A d 155 82 [l0, some (.int v), l2, l3, l4, l5] (.int v :: st) h K := tm_s o155_81 rfl rfl rfl
theorem o155_82 : tm_op 155 82 = some (.iload 4, (0, 0, 0, 0)) := rfl
theorem r155_82 (d : Nat) (v : Int32) (l0 l1 l2 l3 l5 : Option Value) (st : List Value) (h : tm_H) (K : Option Value → tm_H → Prop) : tm_A d 155 82 [l0, l1, l2, l3, some (.int v), l5] st h K ↔ tm_A d 155 84 [l0, l1, l2, l3, some (.int v), l5] (.int v :: st) h K := tm_s o155_82 rfl rfl rfl
theorem o155_84 : tm_op 155 84 = some (.invokevirtual 211, (2, 154, 3, 10)) := rfl
theorem r155_84 (d : Nat) (v1 : Int32) (v2 : Int32) (a : Nat) (ls : tm_Lo) (st : List Value) (h : tm_H) (K : Option Value → tm_H → Prop) : tm_A (d + 1) 155 84 ls (.int v2 :: .int v1 :: .ref a :: st) h K ↔ (h.1.2.2 a = (0, 10) ∧ tm_cs st) ∧ tm_R d 154 [.ref a, .int v1, .int v2] h (fun r h' => tm_A (d + 1) 155 87 ls (r.toList ++ st) h' K) := tm_callV (as := [.int v1, .int v2]) o155_84 rfl rfl rfl rfl
theorem o155_87 : tm_op 155 87 = some (.istore 5, (0, 0, 0, 0)) := rfl
theorem r155_87 (d : Nat) (v : Int32) (l0 l1 l2 l3 l4 l5 : Option Value) (st : List Value) (h : tm_H) (K : Option Value → tm_H → Prop) : tm_A d 155 87 [l0, l1, l2, l3, l4, l5] (.int v :: st) h K ↔ tm_A d 155 89 [l0, l1, l2, l3, l4, some (.int v)] st h K := tm_s o155_87 rfl rfl rfl
theorem o155_89 : tm_op 155 89 = some (.iload 5, (0, 0, 0, 0)) := rfl
theorem r155_89 (d : Nat) (v : Int32) (l0 l1 l2 l3 l4 : Option Value) (st : List Value) (h : tm_H) (K : Option Value → tm_H → Prop) : tm_A d 155 89 [l0, l1, l2, l3, l4, some (.int v)] st h K ↔ tm_A d 155 91 [l0, l1, l2, l3, l4, some (.int v)] (.int v :: st) h K := tm_s o155_89 rfl rfl rfl
theorem o155_91 : tm_op 155 91 = some (.ldc 200, (0, 1000000, 0, 0)) := rfl
theorem r155_91 (d : Nat) (ls : tm_Lo) (st : List Value) (h : tm_H) (K : Option Value → tm_H → Prop) : tm_A d 155 91 ls st h K ↔ tm_A d 155 93 ls (.int (1000000 : Int32) :: st) h K := tm_s o155_91 rfl rfl rfl
theorem o155_93 : tm_op 155 93 = some (.if_icmp .ge 50, (0, 0, 0, 0)) := rfl
theorem r155_93 (d : Nat) (y x : Int32) (ls : tm_Lo) (st : List Value) (h : tm_H) (K : Option Value → tm_H → Prop) : tm_A d 155 93 ls (.int y :: .int x :: st) h K ↔ if y ≤ x then tm_A d 155 143 ls st h K else tm_A d 155 96 ls st h K := tm_b o155_93 rfl rfl rfl rfl
theorem o155_96 : tm_op 155 96 = some (.aload_n 0, (0, 0, 0, 0)) := rfl
theorem r155_96 (d : Nat) (v : Nat) (l1 l2 l3 l4 l5 : Option Value) (st : List Value) (h : tm_H) (K : Option Value → tm_H → Prop) : tm_A d 155 96 [some (.ref v), l1, l2, l3, l4, l5] st h K ↔ tm_A d 155 97 [some (.ref v), l1, l2, l3, l4, l5] (.ref v :: st) h K := tm_s o155_96 rfl rfl rfl
theorem o155_97 : tm_op 155 97 = some (.getfield 71, (2, 10, 30, 0)) := rfl
theorem r155_97 (d : Nat) (a : Nat) (ls : tm_Lo) (st : List Value) (G : tm_G) (I : Nat → Nat → Int32) (J : Nat → Nat → Int64) (R : Nat → Nat → Option Nat) (K : Option Value → tm_H → Prop) : tm_A d 155 97 ls (.ref a :: st) (G, I, J, R) K ↔ G.2.2 a = (0, 10) ∧ tm_A d 155 100 ls (tm_rf (R a 30) :: st) (G, I, J, R) K := tm_getR o155_97
theorem o155_100 : tm_op 155 100 = some (.iload_n 1, (0, 0, 0, 0)) := rfl
theorem r155_100 (d : Nat) (v : Int32) (l0 l2 l3 l4 l5 : Option Value) (st : List Value) (h : tm_H) (K : Option Value → tm_H → Prop) : tm_A d 155 100 [l0, some (.int v), l2, l3, l4, l5] st h K ↔ tm_A d 155 101 [l0, some (.int v), l2, l3, l4, l5] (.int v :: st) h K := tm_s o155_100 rfl rfl rfl
theorem o155_101 : tm_op 155 101 = some (.iload 4, (0, 0, 0, 0)) := rfl
theorem r155_101 (d : Nat) (v : Int32) (l0 l1 l2 l3 l5 : Option Value) (st : List Value) (h : tm_H) (K : Option Value → tm_H → Prop) : tm_A d 155 101 [l0, l1, l2, l3, some (.int v), l5] st h K ↔ tm_A d 155 103 [l0, l1, l2, l3, some (.int v), l5] (.int v :: st) h K := tm_s o155_101 rfl rfl rfl
theorem o155_103 : tm_op 155 103 = some (.iastore, (0, 0, 0, 0)) := rfl
theorem r155_103 (d : Nat) (u v : Int32) (a : Nat) (ls : tm_Lo) (st : List Value) (G : tm_G) (I : Nat → Nat → Int32) (J : Nat → Nat → Int64) (R : Nat → Nat → Option Nat) (K : Option Value → tm_H → Prop) : tm_A d 155 103 ls (.int u :: .int v :: .ref a :: st) (G, I, J, R) K ↔ (3 ≤ a ∧ (G.2.2 a).1 = 1 ∧ tm_in v (G.2.2 a).2) ∧ tm_A d 155 104 ls st (G, up2 I a (tm_ix v) u, J, R) K := tm_iast o155_103
theorem o155_104 : tm_op 155 104 = some (.aload_n 0, (0, 0, 0, 0)) := rfl
theorem r155_104 (d : Nat) (v : Nat) (l1 l2 l3 l4 l5 : Option Value) (st : List Value) (h : tm_H) (K : Option Value → tm_H → Prop) : tm_A d 155 104 [some (.ref v), l1, l2, l3, l4, l5] st h K ↔ tm_A d 155 105 [some (.ref v), l1, l2, l3, l4, l5] (.ref v :: st) h K := tm_s o155_104 rfl rfl rfl
theorem o155_105 : tm_op 155 105 = some (.iload_n 1, (0, 0, 0, 0)) := rfl
theorem r155_105 (d : Nat) (v : Int32) (l0 l2 l3 l4 l5 : Option Value) (st : List Value) (h : tm_H) (K : Option Value → tm_H → Prop) : tm_A d 155 105 [l0, some (.int v), l2, l3, l4, l5] st h K ↔ tm_A d 155 106 [l0, some (.int v), l2, l3, l4, l5] (.int v :: st) h K := tm_s o155_105 rfl rfl rfl
theorem o155_106 : tm_op 155 106 = some (.iconst 1, (0, 0, 0, 0)) := rfl
theorem r155_106 (d : Nat) (ls : tm_Lo) (st : List Value) (h : tm_H) (K : Option Value → tm_H → Prop) : tm_A d 155 106 ls st h K ↔ tm_A d 155 107 ls (.int (1 : Int32) :: st) h K := tm_ic o155_106 (by decide)
theorem o155_107 : tm_op 155 107 = some (.iadd, (0, 0, 0, 0)) := rfl
theorem r155_107 (d : Nat) (u v : Int32) (ls : tm_Lo) (st : List Value) (h : tm_H) (K : Option Value → tm_H → Prop) : tm_A d 155 107 ls (.int u :: .int v :: st) h K ↔ tm_A d 155 108 ls (.int (v + u) :: st) h K := tm_s o155_107 rfl rfl rfl
theorem o155_108 : tm_op 155 108 = some (.iload 4, (0, 0, 0, 0)) := rfl
theorem r155_108 (d : Nat) (v : Int32) (l0 l1 l2 l3 l5 : Option Value) (st : List Value) (h : tm_H) (K : Option Value → tm_H → Prop) : tm_A d 155 108 [l0, l1, l2, l3, some (.int v), l5] st h K ↔ tm_A d 155 110 [l0, l1, l2, l3, some (.int v), l5] (.int v :: st) h K := tm_s o155_108 rfl rfl rfl
theorem o155_110 : tm_op 155 110 = some (.iload_n 2, (0, 0, 0, 0)) := rfl
theorem r155_110 (d : Nat) (v : Int32) (l0 l1 l3 l4 l5 : Option Value) (st : List Value) (h : tm_H) (K : Option Value → tm_H → Prop) : tm_A d 155 110 [l0, l1, some (.int v), l3, l4, l5] st h K ↔ tm_A d 155 111 [l0, l1, some (.int v), l3, l4, l5] (.int v :: st) h K := tm_s o155_110 rfl rfl rfl
theorem o155_111 : tm_op 155 111 = some (.if_icmp .ne 9, (0, 0, 0, 0)) := rfl
theorem r155_111 (d : Nat) (y x : Int32) (ls : tm_Lo) (st : List Value) (h : tm_H) (K : Option Value → tm_H → Prop) : tm_A d 155 111 ls (.int y :: .int x :: st) h K ↔ if ¬ x = y then tm_A d 155 120 ls st h K else tm_A d 155 114 ls st h K := tm_b o155_111 rfl rfl rfl rfl
theorem o155_114 : tm_op 155 114 = some (.iload_n 2, (0, 0, 0, 0)) := rfl
theorem r155_114 (d : Nat) (v : Int32) (l0 l1 l3 l4 l5 : Option Value) (st : List Value) (h : tm_H) (K : Option Value → tm_H → Prop) : tm_A d 155 114 [l0, l1, some (.int v), l3, l4, l5] st h K ↔ tm_A d 155 115 [l0, l1, some (.int v), l3, l4, l5] (.int v :: st) h K := tm_s o155_114 rfl rfl rfl
theorem o155_115 : tm_op 155 115 = some (.iconst 1, (0, 0, 0, 0)) := rfl
theorem r155_115 (d : Nat) (ls : tm_Lo) (st : List Value) (h : tm_H) (K : Option Value → tm_H → Prop) : tm_A d 155 115 ls st h K ↔ tm_A d 155 116 ls (.int (1 : Int32) :: st) h K := tm_ic o155_115 (by decide)
theorem o155_116 : tm_op 155 116 = some (.iadd, (0, 0, 0, 0)) := rfl
theorem r155_116 (d : Nat) (u v : Int32) (ls : tm_Lo) (st : List Value) (h : tm_H) (K : Option Value → tm_H → Prop) : tm_A d 155 116 ls (.int u :: .int v :: st) h K ↔ tm_A d 155 117 ls (.int (v + u) :: st) h K := tm_s o155_116 rfl rfl rfl
theorem o155_117 : tm_op 155 117 = some (.goto 4, (0, 0, 0, 0)) := rfl
theorem r155_117 (d : Nat) (ls : tm_Lo) (st : List Value) (h : tm_H) (K : Option Value → tm_H → Prop) : tm_A d 155 117 ls st h K ↔ tm_A d 155 121 ls st h K := tm_s o155_117 rfl rfl rfl
theorem o155_120 : tm_op 155 120 = some (.iload_n 2, (0, 0, 0, 0)) := rfl
theorem r155_120 (d : Nat) (v : Int32) (l0 l1 l3 l4 l5 : Option Value) (st : List Value) (h : tm_H) (K : Option Value → tm_H → Prop) : tm_A d 155 120 [l0, l1, some (.int v), l3, l4, l5] st h K ↔ tm_A d 155 121 [l0, l1, some (.int v), l3, l4, l5] (.int v :: st) h K := tm_s o155_120 rfl rfl rfl
theorem o155_121 : tm_op 155 121 = some (.iload_n 3, (0, 0, 0, 0)) := rfl
theorem r155_121 (d : Nat) (v : Int32) (l0 l1 l2 l4 l5 : Option Value) (st : List Value) (h : tm_H) (K : Option Value → tm_H → Prop) : tm_A d 155 121 [l0, l1, l2, some (.int v), l4, l5] st h K ↔ tm_A d 155 122 [l0, l1, l2, some (.int v), l4, l5] (.int v :: st) h K := tm_s o155_121 rfl rfl rfl
theorem o155_122 : tm_op 155 122 = some (.iload 5, (0, 0, 0, 0)) := rfl
theorem r155_122 (d : Nat) (v : Int32) (l0 l1 l2 l3 l4 : Option Value) (st : List Value) (h : tm_H) (K : Option Value → tm_H → Prop) : tm_A d 155 122 [l0, l1, l2, l3, l4, some (.int v)] st h K ↔ tm_A d 155 124 [l0, l1, l2, l3, l4, some (.int v)] (.int v :: st) h K := tm_s o155_122 rfl rfl rfl
theorem o155_124 : tm_op 155 124 = some (.iadd, (0, 0, 0, 0)) := rfl
theorem r155_124 (d : Nat) (u v : Int32) (ls : tm_Lo) (st : List Value) (h : tm_H) (K : Option Value → tm_H → Prop) : tm_A d 155 124 ls (.int u :: .int v :: st) h K ↔ tm_A d 155 125 ls (.int (v + u) :: st) h K := tm_s o155_124 rfl rfl rfl
theorem o155_125 : tm_op 155 125 = some (.iload 4, (0, 0, 0, 0)) := rfl
theorem r155_125 (d : Nat) (v : Int32) (l0 l1 l2 l3 l5 : Option Value) (st : List Value) (h : tm_H) (K : Option Value → tm_H → Prop) : tm_A d 155 125 [l0, l1, l2, l3, some (.int v), l5] st h K ↔ tm_A d 155 127 [l0, l1, l2, l3, some (.int v), l5] (.int v :: st) h K := tm_s o155_125 rfl rfl rfl
theorem o155_127 : tm_op 155 127 = some (.iload_n 2, (0, 0, 0, 0)) := rfl
theorem r155_127 (d : Nat) (v : Int32) (l0 l1 l3 l4 l5 : Option Value) (st : List Value) (h : tm_H) (K : Option Value → tm_H → Prop) : tm_A d 155 127 [l0, l1, some (.int v), l3, l4, l5] st h K ↔ tm_A d 155 128 [l0, l1, some (.int v), l3, l4, l5] (.int v :: st) h K := tm_s o155_127 rfl rfl rfl
theorem o155_128 : tm_op 155 128 = some (.if_icmp .ne 10, (0, 0, 0, 0)) := rfl
theorem r155_128 (d : Nat) (y x : Int32) (ls : tm_Lo) (st : List Value) (h : tm_H) (K : Option Value → tm_H → Prop) : tm_A d 155 128 ls (.int y :: .int x :: st) h K ↔ if ¬ x = y then tm_A d 155 138 ls st h K else tm_A d 155 131 ls st h K := tm_b o155_128 rfl rfl rfl rfl
theorem o155_131 : tm_op 155 131 = some (.aload_n 0, (0, 0, 0, 0)) := rfl
theorem r155_131 (d : Nat) (v : Nat) (l1 l2 l3 l4 l5 : Option Value) (st : List Value) (h : tm_H) (K : Option Value → tm_H → Prop) : tm_A d 155 131 [some (.ref v), l1, l2, l3, l4, l5] st h K ↔ tm_A d 155 132 [some (.ref v), l1, l2, l3, l4, l5] (.ref v :: st) h K := tm_s o155_131 rfl rfl rfl
theorem o155_132 : tm_op 155 132 = some (.getfield 9, (0, 10, 3, 0)) := rfl
theorem r155_132 (d : Nat) (a : Nat) (ls : tm_Lo) (st : List Value) (G : tm_G) (I : Nat → Nat → Int32) (J : Nat → Nat → Int64) (R : Nat → Nat → Option Nat) (K : Option Value → tm_H → Prop) : tm_A d 155 132 ls (.ref a :: st) (G, I, J, R) K ↔ G.2.2 a = (0, 10) ∧ tm_A d 155 135 ls (.int (I a 3) :: st) (G, I, J, R) K := tm_getI o155_132
theorem o155_135 : tm_op 155 135 = some (.goto 4, (0, 0, 0, 0)) := rfl
theorem r155_135 (d : Nat) (ls : tm_Lo) (st : List Value) (h : tm_H) (K : Option Value → tm_H → Prop) : tm_A d 155 135 ls st h K ↔ tm_A d 155 139 ls st h K := tm_s o155_135 rfl rfl rfl
theorem o155_138 : tm_op 155 138 = some (.iconst 0, (0, 0, 0, 0)) := rfl
theorem r155_138 (d : Nat) (ls : tm_Lo) (st : List Value) (h : tm_H) (K : Option Value → tm_H → Prop) : tm_A d 155 138 ls st h K ↔ tm_A d 155 139 ls (.int (0 : Int32) :: st) h K := tm_ic o155_138 (by decide)
theorem o155_139 : tm_op 155 139 = some (.iadd, (0, 0, 0, 0)) := rfl
theorem r155_139 (d : Nat) (u v : Int32) (ls : tm_Lo) (st : List Value) (h : tm_H) (K : Option Value → tm_H → Prop) : tm_A d 155 139 ls (.int u :: .int v :: st) h K ↔ tm_A d 155 140 ls (.int (v + u) :: st) h K := tm_s o155_139 rfl rfl rfl
theorem o155_140 : tm_op 155 140 = some (.invokevirtual 214, (2, 155, 4, 10)) := rfl
theorem r155_140 (d : Nat) (v1 : Int32) (v2 : Int32) (v3 : Int32) (a : Nat) (ls : tm_Lo) (st : List Value) (h : tm_H) (K : Option Value → tm_H → Prop) : tm_A (d + 1) 155 140 ls (.int v3 :: .int v2 :: .int v1 :: .ref a :: st) h K ↔ (h.1.2.2 a = (0, 10) ∧ tm_cs st) ∧ tm_R d 155 [.ref a, .int v1, .int v2, .int v3] h (fun r h' => tm_A (d + 1) 155 143 ls (r.toList ++ st) h' K) := tm_callV (as := [.int v1, .int v2, .int v3]) o155_140 rfl rfl rfl rfl
theorem o155_143 : tm_op 155 143 = some (.iinc 4 1, (0, 0, 0, 0)) := rfl
theorem r155_143 (d : Nat) (v : Int32) (l0 l1 l2 l3 l5 : Option Value) (st : List Value) (h : tm_H) (K : Option Value → tm_H → Prop) : tm_A d 155 143 [l0, l1, l2, l3, some (.int v), l5] st h K ↔ tm_A d 155 146 [l0, l1, l2, l3, some (.int (v + (1 : Int32))), l5] st h K := tm_s o155_143 rfl rfl rfl
theorem o155_146 : tm_op 155 146 = some (.goto (-72), (0, 0, 0, 0)) := rfl
theorem r155_146 (d : Nat) (ls : tm_Lo) (st : List Value) (h : tm_H) (K : Option Value → tm_H → Prop) : tm_A d 155 146 ls st h K ↔ tm_A d 155 74 ls st h K := tm_s o155_146 rfl rfl rfl
theorem o155_149 : tm_op 155 149 = some (.return_, (0, 0, 0, 0)) := rfl
theorem r155_149 (d : Nat) (ls : tm_Lo) (h : tm_H) (K : Option Value → tm_H → Prop) : tm_A d 155 149 ls [] h K ↔ K none h := tm_retv o155_149 rfl
theorem o156_0 : tm_op 156 0 = some (.aload_n 0, (0, 0, 0, 0)) := rfl
theorem r156_0 (d : Nat) (v : Nat) (l1 l2 l3 : Option Value) (st : List Value) (h : tm_H) (K : Option Value → tm_H → Prop) : tm_A d 156 0 [some (.ref v), l1, l2, l3] st h K ↔ tm_A d 156 1 [some (.ref v), l1, l2, l3] (.ref v :: st) h K := tm_s o156_0 rfl rfl rfl
theorem o156_1 : tm_op 156 1 = some (.iload_n 1, (0, 0, 0, 0)) := rfl
theorem r156_1 (d : Nat) (v : Int32) (l0 l2 l3 : Option Value) (st : List Value) (h : tm_H) (K : Option Value → tm_H → Prop) : tm_A d 156 1 [l0, some (.int v), l2, l3] st h K ↔ tm_A d 156 2 [l0, some (.int v), l2, l3] (.int v :: st) h K := tm_s o156_1 rfl rfl rfl
theorem o156_2 : tm_op 156 2 = some (.invokevirtual 194, (2, 139, 2, 10)) := rfl
theorem r156_2 (d : Nat) (v1 : Int32) (a : Nat) (ls : tm_Lo) (st : List Value) (h : tm_H) (K : Option Value → tm_H → Prop) : tm_A (d + 1) 156 2 ls (.int v1 :: .ref a :: st) h K ↔ (h.1.2.2 a = (0, 10) ∧ tm_cs st) ∧ tm_R d 139 [.ref a, .int v1] h (fun r h' => tm_A (d + 1) 156 5 ls (r.toList ++ st) h' K) := tm_callV (as := [.int v1]) o156_2 rfl rfl rfl rfl
theorem o156_5 : tm_op 156 5 = some (.iconst 0, (0, 0, 0, 0)) := rfl
theorem r156_5 (d : Nat) (ls : tm_Lo) (st : List Value) (h : tm_H) (K : Option Value → tm_H → Prop) : tm_A d 156 5 ls st h K ↔ tm_A d 156 6 ls (.int (0 : Int32) :: st) h K := tm_ic o156_5 (by decide)
theorem o156_6 : tm_op 156 6 = some (.istore_n 2, (0, 0, 0, 0)) := rfl
theorem r156_6 (d : Nat) (v : Int32) (l0 l1 l2 l3 : Option Value) (st : List Value) (h : tm_H) (K : Option Value → tm_H → Prop) : tm_A d 156 6 [l0, l1, l2, l3] (.int v :: st) h K ↔ tm_A d 156 7 [l0, l1, some (.int v), l3] st h K := tm_s o156_6 rfl rfl rfl
theorem o156_7 : tm_op 156 7 = some (.iload_n 2, (0, 0, 0, 0)) := rfl
theorem r156_7 (d : Nat) (v : Int32) (l0 l1 l3 : Option Value) (st : List Value) (h : tm_H) (K : Option Value → tm_H → Prop) : tm_A d 156 7 [l0, l1, some (.int v), l3] st h K ↔ tm_A d 156 8 [l0, l1, some (.int v), l3] (.int v :: st) h K := tm_s o156_7 rfl rfl rfl
theorem o156_8 : tm_op 156 8 = some (.aload_n 0, (0, 0, 0, 0)) := rfl
theorem r156_8 (d : Nat) (v : Nat) (l1 l2 l3 : Option Value) (st : List Value) (h : tm_H) (K : Option Value → tm_H → Prop) : tm_A d 156 8 [some (.ref v), l1, l2, l3] st h K ↔ tm_A d 156 9 [some (.ref v), l1, l2, l3] (.ref v :: st) h K := tm_s o156_8 rfl rfl rfl
theorem o156_9 : tm_op 156 9 = some (.getfield 159, (0, 10, 26, 0)) := rfl
theorem r156_9 (d : Nat) (a : Nat) (ls : tm_Lo) (st : List Value) (G : tm_G) (I : Nat → Nat → Int32) (J : Nat → Nat → Int64) (R : Nat → Nat → Option Nat) (K : Option Value → tm_H → Prop) : tm_A d 156 9 ls (.ref a :: st) (G, I, J, R) K ↔ G.2.2 a = (0, 10) ∧ tm_A d 156 12 ls (.int (I a 26) :: st) (G, I, J, R) K := tm_getI o156_9
theorem o156_12 : tm_op 156 12 = some (.if_icmp .ge 61, (0, 0, 0, 0)) := rfl
theorem r156_12 (d : Nat) (y x : Int32) (ls : tm_Lo) (st : List Value) (h : tm_H) (K : Option Value → tm_H → Prop) : tm_A d 156 12 ls (.int y :: .int x :: st) h K ↔ if y ≤ x then tm_A d 156 73 ls st h K else tm_A d 156 15 ls st h K := tm_b o156_12 rfl rfl rfl rfl
theorem o156_15 : tm_op 156 15 = some (.iconst 0, (0, 0, 0, 0)) := rfl
theorem r156_15 (d : Nat) (ls : tm_Lo) (st : List Value) (h : tm_H) (K : Option Value → tm_H → Prop) : tm_A d 156 15 ls st h K ↔ tm_A d 156 16 ls (.int (0 : Int32) :: st) h K := tm_ic o156_15 (by decide)
theorem o156_16 : tm_op 156 16 = some (.istore_n 3, (0, 0, 0, 0)) := rfl
theorem r156_16 (d : Nat) (v : Int32) (l0 l1 l2 l3 : Option Value) (st : List Value) (h : tm_H) (K : Option Value → tm_H → Prop) : tm_A d 156 16 [l0, l1, l2, l3] (.int v :: st) h K ↔ tm_A d 156 17 [l0, l1, l2, some (.int v)] st h K := tm_s o156_16 rfl rfl rfl
theorem o156_17 : tm_op 156 17 = some (.iload_n 3, (0, 0, 0, 0)) := rfl
theorem r156_17 (d : Nat) (v : Int32) (l0 l1 l2 : Option Value) (st : List Value) (h : tm_H) (K : Option Value → tm_H → Prop) : tm_A d 156 17 [l0, l1, l2, some (.int v)] st h K ↔ tm_A d 156 18 [l0, l1, l2, some (.int v)] (.int v :: st) h K := tm_s o156_17 rfl rfl rfl
theorem o156_18 : tm_op 156 18 = some (.aload_n 0, (0, 0, 0, 0)) := rfl
theorem r156_18 (d : Nat) (v : Nat) (l1 l2 l3 : Option Value) (st : List Value) (h : tm_H) (K : Option Value → tm_H → Prop) : tm_A d 156 18 [some (.ref v), l1, l2, l3] st h K ↔ tm_A d 156 19 [some (.ref v), l1, l2, l3] (.ref v :: st) h K := tm_s o156_18 rfl rfl rfl
theorem o156_19 : tm_op 156 19 = some (.getfield 159, (0, 10, 26, 0)) := rfl
theorem r156_19 (d : Nat) (a : Nat) (ls : tm_Lo) (st : List Value) (G : tm_G) (I : Nat → Nat → Int32) (J : Nat → Nat → Int64) (R : Nat → Nat → Option Nat) (K : Option Value → tm_H → Prop) : tm_A d 156 19 ls (.ref a :: st) (G, I, J, R) K ↔ G.2.2 a = (0, 10) ∧ tm_A d 156 22 ls (.int (I a 26) :: st) (G, I, J, R) K := tm_getI o156_19
theorem o156_22 : tm_op 156 22 = some (.if_icmp .ge 45, (0, 0, 0, 0)) := rfl
theorem r156_22 (d : Nat) (y x : Int32) (ls : tm_Lo) (st : List Value) (h : tm_H) (K : Option Value → tm_H → Prop) : tm_A d 156 22 ls (.int y :: .int x :: st) h K ↔ if y ≤ x then tm_A d 156 67 ls st h K else tm_A d 156 25 ls st h K := tm_b o156_22 rfl rfl rfl rfl
theorem o156_25 : tm_op 156 25 = some (.aload_n 0, (0, 0, 0, 0)) := rfl
theorem r156_25 (d : Nat) (v : Nat) (l1 l2 l3 : Option Value) (st : List Value) (h : tm_H) (K : Option Value → tm_H → Prop) : tm_A d 156 25 [some (.ref v), l1, l2, l3] st h K ↔ tm_A d 156 26 [some (.ref v), l1, l2, l3] (.ref v :: st) h K := tm_s o156_25 rfl rfl rfl
theorem o156_26 : tm_op 156 26 = some (.getfield 68, (2, 10, 29, 0)) := rfl
theorem r156_26 (d : Nat) (a : Nat) (ls : tm_Lo) (st : List Value) (G : tm_G) (I : Nat → Nat → Int32) (J : Nat → Nat → Int64) (R : Nat → Nat → Option Nat) (K : Option Value → tm_H → Prop) : tm_A d 156 26 ls (.ref a :: st) (G, I, J, R) K ↔ G.2.2 a = (0, 10) ∧ tm_A d 156 29 ls (tm_rf (R a 29) :: st) (G, I, J, R) K := tm_getR o156_26
theorem o156_29 : tm_op 156 29 = some (.bipush 10, (0, 0, 0, 0)) := rfl
theorem r156_29 (d : Nat) (ls : tm_Lo) (st : List Value) (h : tm_H) (K : Option Value → tm_H → Prop) : tm_A d 156 29 ls st h K ↔ tm_A d 156 31 ls (.int (10 : Int32) :: st) h K := tm_bp o156_29 (by decide)
theorem o156_31 : tm_op 156 31 = some (.iload_n 2, (0, 0, 0, 0)) := rfl
theorem r156_31 (d : Nat) (v : Int32) (l0 l1 l3 : Option Value) (st : List Value) (h : tm_H) (K : Option Value → tm_H → Prop) : tm_A d 156 31 [l0, l1, some (.int v), l3] st h K ↔ tm_A d 156 32 [l0, l1, some (.int v), l3] (.int v :: st) h K := tm_s o156_31 rfl rfl rfl
theorem o156_32 : tm_op 156 32 = some (.imul, (0, 0, 0, 0)) := rfl
theorem r156_32 (d : Nat) (u v : Int32) (ls : tm_Lo) (st : List Value) (h : tm_H) (K : Option Value → tm_H → Prop) : tm_A d 156 32 ls (.int u :: .int v :: st) h K ↔ tm_A d 156 33 ls (.int (v * u) :: st) h K := tm_s o156_32 rfl rfl rfl
theorem o156_33 : tm_op 156 33 = some (.iload_n 3, (0, 0, 0, 0)) := rfl
theorem r156_33 (d : Nat) (v : Int32) (l0 l1 l2 : Option Value) (st : List Value) (h : tm_H) (K : Option Value → tm_H → Prop) : tm_A d 156 33 [l0, l1, l2, some (.int v)] st h K ↔ tm_A d 156 34 [l0, l1, l2, some (.int v)] (.int v :: st) h K := tm_s o156_33 rfl rfl rfl
theorem o156_34 : tm_op 156 34 = some (.iadd, (0, 0, 0, 0)) := rfl
theorem r156_34 (d : Nat) (u v : Int32) (ls : tm_Lo) (st : List Value) (h : tm_H) (K : Option Value → tm_H → Prop) : tm_A d 156 34 ls (.int u :: .int v :: st) h K ↔ tm_A d 156 35 ls (.int (v + u) :: st) h K := tm_s o156_34 rfl rfl rfl
theorem o156_35 : tm_op 156 35 = some (.iload_n 2, (0, 0, 0, 0)) := rfl
theorem r156_35 (d : Nat) (v : Int32) (l0 l1 l3 : Option Value) (st : List Value) (h : tm_H) (K : Option Value → tm_H → Prop) : tm_A d 156 35 [l0, l1, some (.int v), l3] st h K ↔ tm_A d 156 36 [l0, l1, some (.int v), l3] (.int v :: st) h K := tm_s o156_35 rfl rfl rfl
theorem o156_36 : tm_op 156 36 = some (.iload_n 3, (0, 0, 0, 0)) := rfl
theorem r156_36 (d : Nat) (v : Int32) (l0 l1 l2 : Option Value) (st : List Value) (h : tm_H) (K : Option Value → tm_H → Prop) : tm_A d 156 36 [l0, l1, l2, some (.int v)] st h K ↔ tm_A d 156 37 [l0, l1, l2, some (.int v)] (.int v :: st) h K := tm_s o156_36 rfl rfl rfl
theorem o156_37 : tm_op 156 37 = some (.if_icmp .ne 7, (0, 0, 0, 0)) := rfl
theorem r156_37 (d : Nat) (y x : Int32) (ls : tm_Lo) (st : List Value) (h : tm_H) (K : Option Value → tm_H → Prop) : tm_A d 156 37 ls (.int y :: .int x :: st) h K ↔ if ¬ x = y then tm_A d 156 44 ls st h K else tm_A d 156 40 ls st h K := tm_b o156_37 rfl rfl rfl rfl
theorem o156_40 : tm_op 156 40 = some (.iconst 0, (0, 0, 0, 0)) := rfl
theorem r156_40 (d : Nat) (ls : tm_Lo) (st : List Value) (h : tm_H) (K : Option Value → tm_H → Prop) : tm_A d 156 40 ls st h K ↔ tm_A d 156 41 ls (.int (0 : Int32) :: st) h K := tm_ic o156_40 (by decide)
theorem o156_41 : tm_op 156 41 = some (.goto 19, (0, 0, 0, 0)) := rfl
theorem r156_41 (d : Nat) (ls : tm_Lo) (st : List Value) (h : tm_H) (K : Option Value → tm_H → Prop) : tm_A d 156 41 ls st h K ↔ tm_A d 156 60 ls st h K := tm_s o156_41 rfl rfl rfl
theorem o156_44 : tm_op 156 44 = some (.aload_n 0, (0, 0, 0, 0)) := rfl
theorem r156_44 (d : Nat) (v : Nat) (l1 l2 l3 : Option Value) (st : List Value) (h : tm_H) (K : Option Value → tm_H → Prop) : tm_A d 156 44 [some (.ref v), l1, l2, l3] st h K ↔ tm_A d 156 45 [some (.ref v), l1, l2, l3] (.ref v :: st) h K := tm_s o156_44 rfl rfl rfl
theorem o156_45 : tm_op 156 45 = some (.aload_n 0, (0, 0, 0, 0)) := rfl
theorem r156_45 (d : Nat) (v : Nat) (l1 l2 l3 : Option Value) (st : List Value) (h : tm_H) (K : Option Value → tm_H → Prop) : tm_A d 156 45 [some (.ref v), l1, l2, l3] st h K ↔ tm_A d 156 46 [some (.ref v), l1, l2, l3] (.ref v :: st) h K := tm_s o156_45 rfl rfl rfl
theorem o156_46 : tm_op 156 46 = some (.getfield 62, (2, 10, 27, 0)) := rfl
theorem r156_46 (d : Nat) (a : Nat) (ls : tm_Lo) (st : List Value) (G : tm_G) (I : Nat → Nat → Int32) (J : Nat → Nat → Int64) (R : Nat → Nat → Option Nat) (K : Option Value → tm_H → Prop) : tm_A d 156 46 ls (.ref a :: st) (G, I, J, R) K ↔ G.2.2 a = (0, 10) ∧ tm_A d 156 49 ls (tm_rf (R a 27) :: st) (G, I, J, R) K := tm_getR o156_46
theorem o156_49 : tm_op 156 49 = some (.iload_n 2, (0, 0, 0, 0)) := rfl
theorem r156_49 (d : Nat) (v : Int32) (l0 l1 l3 : Option Value) (st : List Value) (h : tm_H) (K : Option Value → tm_H → Prop) : tm_A d 156 49 [l0, l1, some (.int v), l3] st h K ↔ tm_A d 156 50 [l0, l1, some (.int v), l3] (.int v :: st) h K := tm_s o156_49 rfl rfl rfl
theorem o156_50 : tm_op 156 50 = some (.iaload, (0, 0, 0, 0)) := rfl
theorem r156_50 (d : Nat) (v : Int32) (a : Nat) (ls : tm_Lo) (st : List Value) (G : tm_G) (I : Nat → Nat → Int32) (J : Nat → Nat → Int64) (R : Nat → Nat → Option Nat) (K : Option Value → tm_H → Prop) : tm_A d 156 50 ls (.int v :: .ref a :: st) (G, I, J, R) K ↔ ((G.2.2 a).1 = 1 ∧ tm_in v (G.2.2 a).2) ∧ tm_A d 156 51 ls (.int (I a (tm_ix v)) :: st) (G, I, J, R) K := tm_iald o156_50
theorem o156_51 : tm_op 156 51 = some (.aload_n 0, (0, 0, 0, 0)) := rfl
theorem r156_51 (d : Nat) (v : Nat) (l1 l2 l3 : Option Value) (st : List Value) (h : tm_H) (K : Option Value → tm_H → Prop) : tm_A d 156 51 [some (.ref v), l1, l2, l3] st h K ↔ tm_A d 156 52 [some (.ref v), l1, l2, l3] (.ref v :: st) h K := tm_s o156_51 rfl rfl rfl
theorem o156_52 : tm_op 156 52 = some (.getfield 62, (2, 10, 27, 0)) := rfl
theorem r156_52 (d : Nat) (a : Nat) (ls : tm_Lo) (st : List Value) (G : tm_G) (I : Nat → Nat → Int32) (J : Nat → Nat → Int64) (R : Nat → Nat → Option Nat) (K : Option Value → tm_H → Prop) : tm_A d 156 52 ls (.ref a :: st) (G, I, J, R) K ↔ G.2.2 a = (0, 10) ∧ tm_A d 156 55 ls (tm_rf (R a 27) :: st) (G, I, J, R) K := tm_getR o156_52
theorem o156_55 : tm_op 156 55 = some (.iload_n 3, (0, 0, 0, 0)) := rfl
theorem r156_55 (d : Nat) (v : Int32) (l0 l1 l2 : Option Value) (st : List Value) (h : tm_H) (K : Option Value → tm_H → Prop) : tm_A d 156 55 [l0, l1, l2, some (.int v)] st h K ↔ tm_A d 156 56 [l0, l1, l2, some (.int v)] (.int v :: st) h K := tm_s o156_55 rfl rfl rfl
theorem o156_56 : tm_op 156 56 = some (.iaload, (0, 0, 0, 0)) := rfl
theorem r156_56 (d : Nat) (v : Int32) (a : Nat) (ls : tm_Lo) (st : List Value) (G : tm_G) (I : Nat → Nat → Int32) (J : Nat → Nat → Int64) (R : Nat → Nat → Option Nat) (K : Option Value → tm_H → Prop) : tm_A d 156 56 ls (.int v :: .ref a :: st) (G, I, J, R) K ↔ ((G.2.2 a).1 = 1 ∧ tm_in v (G.2.2 a).2) ∧ tm_A d 156 57 ls (.int (I a (tm_ix v)) :: st) (G, I, J, R) K := tm_iald o156_56
theorem o156_57 : tm_op 156 57 = some (.invokevirtual 197, (2, 152, 3, 10)) := rfl
theorem r156_57 (d : Nat) (v1 : Int32) (v2 : Int32) (a : Nat) (ls : tm_Lo) (st : List Value) (h : tm_H) (K : Option Value → tm_H → Prop) : tm_A (d + 1) 156 57 ls (.int v2 :: .int v1 :: .ref a :: st) h K ↔ (h.1.2.2 a = (0, 10) ∧ tm_cs st) ∧ tm_R d 152 [.ref a, .int v1, .int v2] h (fun r h' => tm_A (d + 1) 156 60 ls (r.toList ++ st) h' K) := tm_callV (as := [.int v1, .int v2]) o156_57 rfl rfl rfl rfl
theorem o156_60 : tm_op 156 60 = some (.iastore, (0, 0, 0, 0)) := rfl
theorem r156_60 (d : Nat) (u v : Int32) (a : Nat) (ls : tm_Lo) (st : List Value) (G : tm_G) (I : Nat → Nat → Int32) (J : Nat → Nat → Int64) (R : Nat → Nat → Option Nat) (K : Option Value → tm_H → Prop) : tm_A d 156 60 ls (.int u :: .int v :: .ref a :: st) (G, I, J, R) K ↔ (3 ≤ a ∧ (G.2.2 a).1 = 1 ∧ tm_in v (G.2.2 a).2) ∧ tm_A d 156 61 ls st (G, up2 I a (tm_ix v) u, J, R) K := tm_iast o156_60
theorem o156_61 : tm_op 156 61 = some (.iinc 3 1, (0, 0, 0, 0)) := rfl
theorem r156_61 (d : Nat) (v : Int32) (l0 l1 l2 : Option Value) (st : List Value) (h : tm_H) (K : Option Value → tm_H → Prop) : tm_A d 156 61 [l0, l1, l2, some (.int v)] st h K ↔ tm_A d 156 64 [l0, l1, l2, some (.int (v + (1 : Int32)))] st h K := tm_s o156_61 rfl rfl rfl
theorem o156_64 : tm_op 156 64 = some (.goto (-47), (0, 0, 0, 0)) := rfl
theorem r156_64 (d : Nat) (ls : tm_Lo) (st : List Value) (h : tm_H) (K : Option Value → tm_H → Prop) : tm_A d 156 64 ls st h K ↔ tm_A d 156 17 ls st h K := tm_s o156_64 rfl rfl rfl
theorem o156_67 : tm_op 156 67 = some (.iinc 2 1, (0, 0, 0, 0)) := rfl
theorem r156_67 (d : Nat) (v : Int32) (l0 l1 l3 : Option Value) (st : List Value) (h : tm_H) (K : Option Value → tm_H → Prop) : tm_A d 156 67 [l0, l1, some (.int v), l3] st h K ↔ tm_A d 156 70 [l0, l1, some (.int (v + (1 : Int32))), l3] st h K := tm_s o156_67 rfl rfl rfl
theorem o156_70 : tm_op 156 70 = some (.goto (-63), (0, 0, 0, 0)) := rfl
theorem r156_70 (d : Nat) (ls : tm_Lo) (st : List Value) (h : tm_H) (K : Option Value → tm_H → Prop) : tm_A d 156 70 ls st h K ↔ tm_A d 156 7 ls st h K := tm_s o156_70 rfl rfl rfl
theorem o156_73 : tm_op 156 73 = some (.aload_n 0, (0, 0, 0, 0)) := rfl
theorem r156_73 (d : Nat) (v : Nat) (l1 l2 l3 : Option Value) (st : List Value) (h : tm_H) (K : Option Value → tm_H → Prop) : tm_A d 156 73 [some (.ref v), l1, l2, l3] st h K ↔ tm_A d 156 74 [some (.ref v), l1, l2, l3] (.ref v :: st) h K := tm_s o156_73 rfl rfl rfl
theorem o156_74 : tm_op 156 74 = some (.iconst 0, (0, 0, 0, 0)) := rfl
theorem r156_74 (d : Nat) (ls : tm_Lo) (st : List Value) (h : tm_H) (K : Option Value → tm_H → Prop) : tm_A d 156 74 ls st h K ↔ tm_A d 156 75 ls (.int (0 : Int32) :: st) h K := tm_ic o156_74 (by decide)
theorem o156_75 : tm_op 156 75 = some (.putfield 201, (3, 10, 34, 0)) := rfl
theorem r156_75 (d : Nat) (v : Int32) (a : Nat) (ls : tm_Lo) (st : List Value) (G : tm_G) (I : Nat → Nat → Int32) (J : Nat → Nat → Int64) (R : Nat → Nat → Option Nat) (K : Option Value → tm_H → Prop) : tm_A d 156 75 ls (.int v :: .ref a :: st) (G, I, J, R) K ↔ (G.2.2 a = (0, 10) ∧ (v = 0 ∨ v = 1)) ∧ tm_A d 156 78 ls st (G, up2 I a 34 v, J, R) K := tm_putZ o156_75
theorem o156_78 : tm_op 156 78 = some (.aload_n 0, (0, 0, 0, 0)) := rfl
theorem r156_78 (d : Nat) (v : Nat) (l1 l2 l3 : Option Value) (st : List Value) (h : tm_H) (K : Option Value → tm_H → Prop) : tm_A d 156 78 [some (.ref v), l1, l2, l3] st h K ↔ tm_A d 156 79 [some (.ref v), l1, l2, l3] (.ref v :: st) h K := tm_s o156_78 rfl rfl rfl
theorem o156_79 : tm_op 156 79 = some (.iconst 0, (0, 0, 0, 0)) := rfl
theorem r156_79 (d : Nat) (ls : tm_Lo) (st : List Value) (h : tm_H) (K : Option Value → tm_H → Prop) : tm_A d 156 79 ls st h K ↔ tm_A d 156 80 ls (.int (0 : Int32) :: st) h K := tm_ic o156_79 (by decide)
theorem o156_80 : tm_op 156 80 = some (.putfield 205, (0, 10, 32, 0)) := rfl
theorem r156_80 (d : Nat) (v : Int32) (a : Nat) (ls : tm_Lo) (st : List Value) (G : tm_G) (I : Nat → Nat → Int32) (J : Nat → Nat → Int64) (R : Nat → Nat → Option Nat) (K : Option Value → tm_H → Prop) : tm_A d 156 80 ls (.int v :: .ref a :: st) (G, I, J, R) K ↔ G.2.2 a = (0, 10) ∧ tm_A d 156 83 ls st (G, up2 I a 32 v, J, R) K := tm_putI o156_80
theorem o156_83 : tm_op 156 83 = some (.aload_n 0, (0, 0, 0, 0)) := rfl
theorem r156_83 (d : Nat) (v : Nat) (l1 l2 l3 : Option Value) (st : List Value) (h : tm_H) (K : Option Value → tm_H → Prop) : tm_A d 156 83 [some (.ref v), l1, l2, l3] st h K ↔ tm_A d 156 84 [some (.ref v), l1, l2, l3] (.ref v :: st) h K := tm_s o156_83 rfl rfl rfl
theorem o156_84 : tm_op 156 84 = some (.iconst 0, (0, 0, 0, 0)) := rfl
theorem r156_84 (d : Nat) (ls : tm_Lo) (st : List Value) (h : tm_H) (K : Option Value → tm_H → Prop) : tm_A d 156 84 ls st h K ↔ tm_A d 156 85 ls (.int (0 : Int32) :: st) h K := tm_ic o156_84 (by decide)
theorem o156_85 : tm_op 156 85 = some (.putfield 208, (0, 10, 33, 0)) := rfl
theorem r156_85 (d : Nat) (v : Int32) (a : Nat) (ls : tm_Lo) (st : List Value) (G : tm_G) (I : Nat → Nat → Int32) (J : Nat → Nat → Int64) (R : Nat → Nat → Option Nat) (K : Option Value → tm_H → Prop) : tm_A d 156 85 ls (.int v :: .ref a :: st) (G, I, J, R) K ↔ G.2.2 a = (0, 10) ∧ tm_A d 156 88 ls st (G, up2 I a 33 v, J, R) K := tm_putI o156_85
theorem o156_88 : tm_op 156 88 = some (.aload_n 0, (0, 0, 0, 0)) := rfl
theorem r156_88 (d : Nat) (v : Nat) (l1 l2 l3 : Option Value) (st : List Value) (h : tm_H) (K : Option Value → tm_H → Prop) : tm_A d 156 88 [some (.ref v), l1, l2, l3] st h K ↔ tm_A d 156 89 [some (.ref v), l1, l2, l3] (.ref v :: st) h K := tm_s o156_88 rfl rfl rfl
theorem o156_89 : tm_op 156 89 = some (.iconst 0, (0, 0, 0, 0)) := rfl
theorem r156_89 (d : Nat) (ls : tm_Lo) (st : List Value) (h : tm_H) (K : Option Value → tm_H → Prop) : tm_A d 156 89 ls st h K ↔ tm_A d 156 90 ls (.int (0 : Int32) :: st) h K := tm_ic o156_89 (by decide)
theorem o156_90 : tm_op 156 90 = some (.iconst 0, (0, 0, 0, 0)) := rfl
theorem r156_90 (d : Nat) (ls : tm_Lo) (st : List Value) (h : tm_H) (K : Option Value → tm_H → Prop) : tm_A d 156 90 ls st h K ↔ tm_A d 156 91 ls (.int (0 : Int32) :: st) h K := tm_ic o156_90 (by decide)
theorem o156_91 : tm_op 156 91 = some (.iconst 0, (0, 0, 0, 0)) := rfl
theorem r156_91 (d : Nat) (ls : tm_Lo) (st : List Value) (h : tm_H) (K : Option Value → tm_H → Prop) : tm_A d 156 91 ls st h K ↔ tm_A d 156 92 ls (.int (0 : Int32) :: st) h K := tm_ic o156_91 (by decide)
theorem o156_92 : tm_op 156 92 = some (.invokevirtual 214, (2, 155, 4, 10)) := rfl
theorem r156_92 (d : Nat) (v1 : Int32) (v2 : Int32) (v3 : Int32) (a : Nat) (ls : tm_Lo) (st : List Value) (h : tm_H) (K : Option Value → tm_H → Prop) : tm_A (d + 1) 156 92 ls (.int v3 :: .int v2 :: .int v1 :: .ref a :: st) h K ↔ (h.1.2.2 a = (0, 10) ∧ tm_cs st) ∧ tm_R d 155 [.ref a, .int v1, .int v2, .int v3] h (fun r h' => tm_A (d + 1) 156 95 ls (r.toList ++ st) h' K) := tm_callV (as := [.int v1, .int v2, .int v3]) o156_92 rfl rfl rfl rfl
theorem o156_95 : tm_op 156 95 = some (.aload_n 0, (0, 0, 0, 0)) := rfl
theorem r156_95 (d : Nat) (v : Nat) (l1 l2 l3 : Option Value) (st : List Value) (h : tm_H) (K : Option Value → tm_H → Prop) : tm_A d 156 95 [some (.ref v), l1, l2, l3] st h K ↔ tm_A d 156 96 [some (.ref v), l1, l2, l3] (.ref v :: st) h K := tm_s o156_95 rfl rfl rfl
theorem o156_96 : tm_op 156 96 = some (.getfield 201, (3, 10, 34, 0)) := rfl
theorem r156_96 (d : Nat) (a : Nat) (ls : tm_Lo) (st : List Value) (G : tm_G) (I : Nat → Nat → Int32) (J : Nat → Nat → Int64) (R : Nat → Nat → Option Nat) (K : Option Value → tm_H → Prop) : tm_A d 156 96 ls (.ref a :: st) (G, I, J, R) K ↔ G.2.2 a = (0, 10) ∧ tm_A d 156 99 ls (.int (I a 34) :: st) (G, I, J, R) K := tm_getZ o156_96
theorem o156_99 : tm_op 156 99 = some (.ireturn, (0, 0, 0, 0)) := rfl
theorem r156_99 (d : Nat) (v : Int32) (ls : tm_Lo) (h : tm_H) (K : Option Value → tm_H → Prop) : tm_A d 156 99 ls [.int v] h K ↔ (v = 0 ∨ v = 1) ∧ K (some (.int v)) h := tm_retz o156_99 rfl
theorem o157_0 : tm_op 157 0 = some (.iconst 0, (0, 0, 0, 0)) := rfl
theorem r157_0 (d : Nat) (ls : tm_Lo) (st : List Value) (h : tm_H) (K : Option Value → tm_H → Prop) : tm_A d 157 0 ls st h K ↔ tm_A d 157 1 ls (.int (0 : Int32) :: st) h K := tm_ic o157_0 (by decide)
theorem o157_1 : tm_op 157 1 = some (.istore_n 2, (0, 0, 0, 0)) := rfl
theorem r157_1 (d : Nat) (v : Int32) (l0 l1 l2 : Option Value) (st : List Value) (h : tm_H) (K : Option Value → tm_H → Prop) : tm_A d 157 1 [l0, l1, l2] (.int v :: st) h K ↔ tm_A d 157 2 [l0, l1, some (.int v)] st h K := tm_s o157_1 rfl rfl rfl
theorem o157_2 : tm_op 157 2 = some (.aload_n 0, (0, 0, 0, 0)) := rfl
theorem r157_2 (d : Nat) (v : Nat) (l1 l2 : Option Value) (st : List Value) (h : tm_H) (K : Option Value → tm_H → Prop) : tm_A d 157 2 [some (.ref v), l1, l2] st h K ↔ tm_A d 157 3 [some (.ref v), l1, l2] (.ref v :: st) h K := tm_s o157_2 rfl rfl rfl
theorem o157_3 : tm_op 157 3 = some (.getfield 62, (2, 10, 27, 0)) := rfl
theorem r157_3 (d : Nat) (a : Nat) (ls : tm_Lo) (st : List Value) (G : tm_G) (I : Nat → Nat → Int32) (J : Nat → Nat → Int64) (R : Nat → Nat → Option Nat) (K : Option Value → tm_H → Prop) : tm_A d 157 3 ls (.ref a :: st) (G, I, J, R) K ↔ G.2.2 a = (0, 10) ∧ tm_A d 157 6 ls (tm_rf (R a 27) :: st) (G, I, J, R) K := tm_getR o157_3
theorem o157_6 : tm_op 157 6 = some (.iload_n 2, (0, 0, 0, 0)) := rfl
theorem r157_6 (d : Nat) (v : Int32) (l0 l1 : Option Value) (st : List Value) (h : tm_H) (K : Option Value → tm_H → Prop) : tm_A d 157 6 [l0, l1, some (.int v)] st h K ↔ tm_A d 157 7 [l0, l1, some (.int v)] (.int v :: st) h K := tm_s o157_6 rfl rfl rfl
theorem o157_7 : tm_op 157 7 = some (.iaload, (0, 0, 0, 0)) := rfl
theorem r157_7 (d : Nat) (v : Int32) (a : Nat) (ls : tm_Lo) (st : List Value) (G : tm_G) (I : Nat → Nat → Int32) (J : Nat → Nat → Int64) (R : Nat → Nat → Option Nat) (K : Option Value → tm_H → Prop) : tm_A d 157 7 ls (.int v :: .ref a :: st) (G, I, J, R) K ↔ ((G.2.2 a).1 = 1 ∧ tm_in v (G.2.2 a).2) ∧ tm_A d 157 8 ls (.int (I a (tm_ix v)) :: st) (G, I, J, R) K := tm_iald o157_7
theorem o157_8 : tm_op 157 8 = some (.iload_n 1, (0, 0, 0, 0)) := rfl
theorem r157_8 (d : Nat) (v : Int32) (l0 l2 : Option Value) (st : List Value) (h : tm_H) (K : Option Value → tm_H → Prop) : tm_A d 157 8 [l0, some (.int v), l2] st h K ↔ tm_A d 157 9 [l0, some (.int v), l2] (.int v :: st) h K := tm_s o157_8 rfl rfl rfl
theorem o157_9 : tm_op 157 9 = some (.if_icmp .eq 9, (0, 0, 0, 0)) := rfl
theorem r157_9 (d : Nat) (y x : Int32) (ls : tm_Lo) (st : List Value) (h : tm_H) (K : Option Value → tm_H → Prop) : tm_A d 157 9 ls (.int y :: .int x :: st) h K ↔ if x = y then tm_A d 157 18 ls st h K else tm_A d 157 12 ls st h K := tm_b o157_9 rfl rfl rfl rfl
theorem o157_12 : tm_op 157 12 = some (.iinc 2 1, (0, 0, 0, 0)) := rfl
theorem r157_12 (d : Nat) (v : Int32) (l0 l1 : Option Value) (st : List Value) (h : tm_H) (K : Option Value → tm_H → Prop) : tm_A d 157 12 [l0, l1, some (.int v)] st h K ↔ tm_A d 157 15 [l0, l1, some (.int (v + (1 : Int32)))] st h K := tm_s o157_12 rfl rfl rfl
theorem o157_15 : tm_op 157 15 = some (.goto (-13), (0, 0, 0, 0)) := rfl
theorem r157_15 (d : Nat) (ls : tm_Lo) (st : List Value) (h : tm_H) (K : Option Value → tm_H → Prop) : tm_A d 157 15 ls st h K ↔ tm_A d 157 2 ls st h K := tm_s o157_15 rfl rfl rfl
theorem o157_18 : tm_op 157 18 = some (.iload_n 2, (0, 0, 0, 0)) := rfl
theorem r157_18 (d : Nat) (v : Int32) (l0 l1 : Option Value) (st : List Value) (h : tm_H) (K : Option Value → tm_H → Prop) : tm_A d 157 18 [l0, l1, some (.int v)] st h K ↔ tm_A d 157 19 [l0, l1, some (.int v)] (.int v :: st) h K := tm_s o157_18 rfl rfl rfl
theorem o157_19 : tm_op 157 19 = some (.ireturn, (0, 0, 0, 0)) := rfl
theorem r157_19 (d : Nat) (v : Int32) (ls : tm_Lo) (h : tm_H) (K : Option Value → tm_H → Prop) : tm_A d 157 19 ls [.int v] h K ↔ K (some (.int v)) h := tm_reti o157_19 rfl
theorem o158_0 : tm_op 158 0 = some (.aload_n 0, (0, 0, 0, 0)) := rfl
theorem r158_0 (d : Nat) (v : Nat) (l1 l2 l3 l4 : Option Value) (st : List Value) (h : tm_H) (K : Option Value → tm_H → Prop) : tm_A d 158 0 [some (.ref v), l1, l2, l3, l4] st h K ↔ tm_A d 158 1 [some (.ref v), l1, l2, l3, l4] (.ref v :: st) h K := tm_s o158_0 rfl rfl rfl
theorem o158_1 : tm_op 158 1 = some (.iload_n 1, (0, 0, 0, 0)) := rfl
theorem r158_1 (d : Nat) (v : Int32) (l0 l2 l3 l4 : Option Value) (st : List Value) (h : tm_H) (K : Option Value → tm_H → Prop) : tm_A d 158 1 [l0, some (.int v), l2, l3, l4] st h K ↔ tm_A d 158 2 [l0, some (.int v), l2, l3, l4] (.int v :: st) h K := tm_s o158_1 rfl rfl rfl
theorem o158_2 : tm_op 158 2 = some (.iload_n 2, (0, 0, 0, 0)) := rfl
theorem r158_2 (d : Nat) (v : Int32) (l0 l1 l3 l4 : Option Value) (st : List Value) (h : tm_H) (K : Option Value → tm_H → Prop) : tm_A d 158 2 [l0, l1, some (.int v), l3, l4] st h K ↔ tm_A d 158 3 [l0, l1, some (.int v), l3, l4] (.int v :: st) h K := tm_s o158_2 rfl rfl rfl
theorem o158_3 : tm_op 158 3 = some (.invokevirtual 166, (2, 138, 3, 10)) := rfl
theorem r158_3 (d : Nat) (v1 : Int32) (v2 : Int32) (a : Nat) (ls : tm_Lo) (st : List Value) (h : tm_H) (K : Option Value → tm_H → Prop) : tm_A (d + 1) 158 3 ls (.int v2 :: .int v1 :: .ref a :: st) h K ↔ (h.1.2.2 a = (0, 10) ∧ tm_cs st) ∧ tm_R d 138 [.ref a, .int v1, .int v2] h (fun r h' => tm_A (d + 1) 158 6 ls (r.toList ++ st) h' K) := tm_callV (as := [.int v1, .int v2]) o158_3 rfl rfl rfl rfl
theorem o158_6 : tm_op 158 6 = some (.ifCond .eq 11, (0, 0, 0, 0)) := rfl
theorem r158_6 (d : Nat) (x : Int32) (ls : tm_Lo) (st : List Value) (h : tm_H) (K : Option Value → tm_H → Prop) : tm_A d 158 6 ls (.int x :: st) h K ↔ if x = 0 then tm_A d 158 17 ls st h K else tm_A d 158 9 ls st h K := tm_b o158_6 rfl rfl rfl rfl
theorem o158_9 : tm_op 158 9 = some (.aload_n 0, (0, 0, 0, 0)) := rfl
theorem r158_9 (d : Nat) (v : Nat) (l1 l2 l3 l4 : Option Value) (st : List Value) (h : tm_H) (K : Option Value → tm_H → Prop) : tm_A d 158 9 [some (.ref v), l1, l2, l3, l4] st h K ↔ tm_A d 158 10 [some (.ref v), l1, l2, l3, l4] (.ref v :: st) h K := tm_s o158_9 rfl rfl rfl
theorem o158_10 : tm_op 158 10 = some (.iload_n 2, (0, 0, 0, 0)) := rfl
theorem r158_10 (d : Nat) (v : Int32) (l0 l1 l3 l4 : Option Value) (st : List Value) (h : tm_H) (K : Option Value → tm_H → Prop) : tm_A d 158 10 [l0, l1, some (.int v), l3, l4] st h K ↔ tm_A d 158 11 [l0, l1, some (.int v), l3, l4] (.int v :: st) h K := tm_s o158_10 rfl rfl rfl
theorem o158_11 : tm_op 158 11 = some (.invokevirtual 218, (2, 156, 2, 10)) := rfl
theorem r158_11 (d : Nat) (v1 : Int32) (a : Nat) (ls : tm_Lo) (st : List Value) (h : tm_H) (K : Option Value → tm_H → Prop) : tm_A (d + 1) 158 11 ls (.int v1 :: .ref a :: st) h K ↔ (h.1.2.2 a = (0, 10) ∧ tm_cs st) ∧ tm_R d 156 [.ref a, .int v1] h (fun r h' => tm_A (d + 1) 158 14 ls (r.toList ++ st) h' K) := tm_callV (as := [.int v1]) o158_11 rfl rfl rfl rfl
theorem o158_14 : tm_op 158 14 = some (.ifCond .ne 5, (0, 0, 0, 0)) := rfl
theorem r158_14 (d : Nat) (x : Int32) (ls : tm_Lo) (st : List Value) (h : tm_H) (K : Option Value → tm_H → Prop) : tm_A d 158 14 ls (.int x :: st) h K ↔ if ¬ x = 0 then tm_A d 158 19 ls st h K else tm_A d 158 17 ls st h K := tm_b o158_14 rfl rfl rfl rfl
theorem o158_17 : tm_op 158 17 = some (.iconst (-1), (0, 0, 0, 0)) := rfl
theorem r158_17 (d : Nat) (ls : tm_Lo) (st : List Value) (h : tm_H) (K : Option Value → tm_H → Prop) : tm_A d 158 17 ls st h K ↔ tm_A d 158 18 ls (.int (-1 : Int32) :: st) h K := tm_ic o158_17 (by decide)
theorem o158_18 : tm_op 158 18 = some (.ireturn, (0, 0, 0, 0)) := rfl
theorem r158_18 (d : Nat) (v : Int32) (ls : tm_Lo) (h : tm_H) (K : Option Value → tm_H → Prop) : tm_A d 158 18 ls [.int v] h K ↔ K (some (.int v)) h := tm_reti o158_18 rfl
theorem o158_19 : tm_op 158 19 = some (.aload_n 0, (0, 0, 0, 0)) := rfl
theorem r158_19 (d : Nat) (v : Nat) (l1 l2 l3 l4 : Option Value) (st : List Value) (h : tm_H) (K : Option Value → tm_H → Prop) : tm_A d 158 19 [some (.ref v), l1, l2, l3, l4] st h K ↔ tm_A d 158 20 [some (.ref v), l1, l2, l3, l4] (.ref v :: st) h K := tm_s o158_19 rfl rfl rfl
theorem o158_20 : tm_op 158 20 = some (.getfield 74, (2, 10, 31, 0)) := rfl
theorem r158_20 (d : Nat) (a : Nat) (ls : tm_Lo) (st : List Value) (G : tm_G) (I : Nat → Nat → Int32) (J : Nat → Nat → Int64) (R : Nat → Nat → Option Nat) (K : Option Value → tm_H → Prop) : tm_A d 158 20 ls (.ref a :: st) (G, I, J, R) K ↔ G.2.2 a = (0, 10) ∧ tm_A d 158 23 ls (tm_rf (R a 31) :: st) (G, I, J, R) K := tm_getR o158_20
theorem o158_23 : tm_op 158 23 = some (.aload_n 0, (0, 0, 0, 0)) := rfl
theorem r158_23 (d : Nat) (v : Nat) (l1 l2 l3 l4 : Option Value) (st : List Value) (h : tm_H) (K : Option Value → tm_H → Prop) : tm_A d 158 23 [some (.ref v), l1, l2, l3, l4] st h K ↔ tm_A d 158 24 [some (.ref v), l1, l2, l3, l4] (.ref v :: st) h K := tm_s o158_23 rfl rfl rfl
theorem o158_24 : tm_op 158 24 = some (.iload_n 1, (0, 0, 0, 0)) := rfl
theorem r158_24 (d : Nat) (v : Int32) (l0 l2 l3 l4 : Option Value) (st : List Value) (h : tm_H) (K : Option Value → tm_H → Prop) : tm_A d 158 24 [l0, some (.int v), l2, l3, l4] st h K ↔ tm_A d 158 25 [l0, some (.int v), l2, l3, l4] (.int v :: st) h K := tm_s o158_24 rfl rfl rfl
theorem o158_25 : tm_op 158 25 = some (.invokevirtual 221, (2, 157, 2, 10)) := rfl
theorem r158_25 (d : Nat) (v1 : Int32) (a : Nat) (ls : tm_Lo) (st : List Value) (h : tm_H) (K : Option Value → tm_H → Prop) : tm_A (d + 1) 158 25 ls (.int v1 :: .ref a :: st) h K ↔ (h.1.2.2 a = (0, 10) ∧ tm_cs st) ∧ tm_R d 157 [.ref a, .int v1] h (fun r h' => tm_A (d + 1) 158 28 ls (r.toList ++ st) h' K) := tm_callV (as := [.int v1]) o158_25 rfl rfl rfl rfl
theorem o158_28 : tm_op 158 28 = some (.iaload, (0, 0, 0, 0)) := rfl
theorem r158_28 (d : Nat) (v : Int32) (a : Nat) (ls : tm_Lo) (st : List Value) (G : tm_G) (I : Nat → Nat → Int32) (J : Nat → Nat → Int64) (R : Nat → Nat → Option Nat) (K : Option Value → tm_H → Prop) : tm_A d 158 28 ls (.int v :: .ref a :: st) (G, I, J, R) K ↔ ((G.2.2 a).1 = 1 ∧ tm_in v (G.2.2 a).2) ∧ tm_A d 158 29 ls (.int (I a (tm_ix v)) :: st) (G, I, J, R) K := tm_iald o158_28
theorem o158_29 : tm_op 158 29 = some (.istore_n 3, (0, 0, 0, 0)) := rfl
theorem r158_29 (d : Nat) (v : Int32) (l0 l1 l2 l3 l4 : Option Value) (st : List Value) (h : tm_H) (K : Option Value → tm_H → Prop) : tm_A d 158 29 [l0, l1, l2, l3, l4] (.int v :: st) h K ↔ tm_A d 158 30 [l0, l1, l2, some (.int v), l4] st h K := tm_s o158_29 rfl rfl rfl
theorem o158_30 : tm_op 158 30 = some (.iconst 0, (0, 0, 0, 0)) := rfl
theorem r158_30 (d : Nat) (ls : tm_Lo) (st : List Value) (h : tm_H) (K : Option Value → tm_H → Prop) : tm_A d 158 30 ls st h K ↔ tm_A d 158 31 ls (.int (0 : Int32) :: st) h K := tm_ic o158_30 (by decide)
theorem o158_31 : tm_op 158 31 = some (.istore 4, (0, 0, 0, 0)) := rfl
theorem r158_31 (d : Nat) (v : Int32) (l0 l1 l2 l3 l4 : Option Value) (st : List Value) (h : tm_H) (K : Option Value → tm_H → Prop) : tm_A d 158 31 [l0, l1, l2, l3, l4] (.int v :: st) h K ↔ tm_A d 158 33 [l0, l1, l2, l3, some (.int v)] st h K := tm_s o158_31 rfl rfl rfl
theorem o158_33 : tm_op 158 33 = some (.aload_n 0, (0, 0, 0, 0)) := rfl
theorem r158_33 (d : Nat) (v : Nat) (l1 l2 l3 l4 : Option Value) (st : List Value) (h : tm_H) (K : Option Value → tm_H → Prop) : tm_A d 158 33 [some (.ref v), l1, l2, l3, l4] st h K ↔ tm_A d 158 34 [some (.ref v), l1, l2, l3, l4] (.ref v :: st) h K := tm_s o158_33 rfl rfl rfl
theorem o158_34 : tm_op 158 34 = some (.getfield 74, (2, 10, 31, 0)) := rfl
theorem r158_34 (d : Nat) (a : Nat) (ls : tm_Lo) (st : List Value) (G : tm_G) (I : Nat → Nat → Int32) (J : Nat → Nat → Int64) (R : Nat → Nat → Option Nat) (K : Option Value → tm_H → Prop) : tm_A d 158 34 ls (.ref a :: st) (G, I, J, R) K ↔ G.2.2 a = (0, 10) ∧ tm_A d 158 37 ls (tm_rf (R a 31) :: st) (G, I, J, R) K := tm_getR o158_34
theorem o158_37 : tm_op 158 37 = some (.iload 4, (0, 0, 0, 0)) := rfl
theorem r158_37 (d : Nat) (v : Int32) (l0 l1 l2 l3 : Option Value) (st : List Value) (h : tm_H) (K : Option Value → tm_H → Prop) : tm_A d 158 37 [l0, l1, l2, l3, some (.int v)] st h K ↔ tm_A d 158 39 [l0, l1, l2, l3, some (.int v)] (.int v :: st) h K := tm_s o158_37 rfl rfl rfl
theorem o158_39 : tm_op 158 39 = some (.iaload, (0, 0, 0, 0)) := rfl
theorem r158_39 (d : Nat) (v : Int32) (a : Nat) (ls : tm_Lo) (st : List Value) (G : tm_G) (I : Nat → Nat → Int32) (J : Nat → Nat → Int64) (R : Nat → Nat → Option Nat) (K : Option Value → tm_H → Prop) : tm_A d 158 39 ls (.int v :: .ref a :: st) (G, I, J, R) K ↔ ((G.2.2 a).1 = 1 ∧ tm_in v (G.2.2 a).2) ∧ tm_A d 158 40 ls (.int (I a (tm_ix v)) :: st) (G, I, J, R) K := tm_iald o158_39
theorem o158_40 : tm_op 158 40 = some (.iload_n 3, (0, 0, 0, 0)) := rfl
theorem r158_40 (d : Nat) (v : Int32) (l0 l1 l2 l4 : Option Value) (st : List Value) (h : tm_H) (K : Option Value → tm_H → Prop) : tm_A d 158 40 [l0, l1, l2, some (.int v), l4] st h K ↔ tm_A d 158 41 [l0, l1, l2, some (.int v), l4] (.int v :: st) h K := tm_s o158_40 rfl rfl rfl
theorem o158_41 : tm_op 158 41 = some (.if_icmp .eq 9, (0, 0, 0, 0)) := rfl
theorem r158_41 (d : Nat) (y x : Int32) (ls : tm_Lo) (st : List Value) (h : tm_H) (K : Option Value → tm_H → Prop) : tm_A d 158 41 ls (.int y :: .int x :: st) h K ↔ if x = y then tm_A d 158 50 ls st h K else tm_A d 158 44 ls st h K := tm_b o158_41 rfl rfl rfl rfl
theorem o158_44 : tm_op 158 44 = some (.iinc 4 1, (0, 0, 0, 0)) := rfl
theorem r158_44 (d : Nat) (v : Int32) (l0 l1 l2 l3 : Option Value) (st : List Value) (h : tm_H) (K : Option Value → tm_H → Prop) : tm_A d 158 44 [l0, l1, l2, l3, some (.int v)] st h K ↔ tm_A d 158 47 [l0, l1, l2, l3, some (.int (v + (1 : Int32)))] st h K := tm_s o158_44 rfl rfl rfl
theorem o158_47 : tm_op 158 47 = some (.goto (-14), (0, 0, 0, 0)) := rfl
theorem r158_47 (d : Nat) (ls : tm_Lo) (st : List Value) (h : tm_H) (K : Option Value → tm_H → Prop) : tm_A d 158 47 ls st h K ↔ tm_A d 158 33 ls st h K := tm_s o158_47 rfl rfl rfl
theorem o158_50 : tm_op 158 50 = some (.aload_n 0, (0, 0, 0, 0)) := rfl
theorem r158_50 (d : Nat) (v : Nat) (l1 l2 l3 l4 : Option Value) (st : List Value) (h : tm_H) (K : Option Value → tm_H → Prop) : tm_A d 158 50 [some (.ref v), l1, l2, l3, l4] st h K ↔ tm_A d 158 51 [some (.ref v), l1, l2, l3, l4] (.ref v :: st) h K := tm_s o158_50 rfl rfl rfl
theorem o158_51 : tm_op 158 51 = some (.getfield 62, (2, 10, 27, 0)) := rfl
theorem r158_51 (d : Nat) (a : Nat) (ls : tm_Lo) (st : List Value) (G : tm_G) (I : Nat → Nat → Int32) (J : Nat → Nat → Int64) (R : Nat → Nat → Option Nat) (K : Option Value → tm_H → Prop) : tm_A d 158 51 ls (.ref a :: st) (G, I, J, R) K ↔ G.2.2 a = (0, 10) ∧ tm_A d 158 54 ls (tm_rf (R a 27) :: st) (G, I, J, R) K := tm_getR o158_51
theorem o158_54 : tm_op 158 54 = some (.iload 4, (0, 0, 0, 0)) := rfl
theorem r158_54 (d : Nat) (v : Int32) (l0 l1 l2 l3 : Option Value) (st : List Value) (h : tm_H) (K : Option Value → tm_H → Prop) : tm_A d 158 54 [l0, l1, l2, l3, some (.int v)] st h K ↔ tm_A d 158 56 [l0, l1, l2, l3, some (.int v)] (.int v :: st) h K := tm_s o158_54 rfl rfl rfl
theorem o158_56 : tm_op 158 56 = some (.iaload, (0, 0, 0, 0)) := rfl
theorem r158_56 (d : Nat) (v : Int32) (a : Nat) (ls : tm_Lo) (st : List Value) (G : tm_G) (I : Nat → Nat → Int32) (J : Nat → Nat → Int64) (R : Nat → Nat → Option Nat) (K : Option Value → tm_H → Prop) : tm_A d 158 56 ls (.int v :: .ref a :: st) (G, I, J, R) K ↔ ((G.2.2 a).1 = 1 ∧ tm_in v (G.2.2 a).2) ∧ tm_A d 158 57 ls (.int (I a (tm_ix v)) :: st) (G, I, J, R) K := tm_iald o158_56
theorem o158_57 : tm_op 158 57 = some (.ireturn, (0, 0, 0, 0)) := rfl
theorem r158_57 (d : Nat) (v : Int32) (ls : tm_Lo) (h : tm_H) (K : Option Value → tm_H → Prop) : tm_A d 158 57 ls [.int v] h K ↔ K (some (.int v)) h := tm_reti o158_57 rfl
theorem o159_0 : tm_op 159 0 = some (.iload_n 1, (0, 0, 0, 0)) := rfl
theorem r159_0 (d : Nat) (v : Int32) (l0 : Option Value) (st : List Value) (h : tm_H) (K : Option Value → tm_H → Prop) : tm_A d 159 0 [l0, some (.int v)] st h K ↔ tm_A d 159 1 [l0, some (.int v)] (.int v :: st) h K := tm_s o159_0 rfl rfl rfl
theorem o159_1 : tm_op 159 1 = some (.iconst 0, (0, 0, 0, 0)) := rfl
theorem r159_1 (d : Nat) (ls : tm_Lo) (st : List Value) (h : tm_H) (K : Option Value → tm_H → Prop) : tm_A d 159 1 ls st h K ↔ tm_A d 159 2 ls (.int (0 : Int32) :: st) h K := tm_ic o159_1 (by decide)
theorem o159_2 : tm_op 159 2 = some (.aload_n 0, (0, 0, 0, 0)) := rfl
theorem r159_2 (d : Nat) (v : Nat) (l1 : Option Value) (st : List Value) (h : tm_H) (K : Option Value → tm_H → Prop) : tm_A d 159 2 [some (.ref v), l1] st h K ↔ tm_A d 159 3 [some (.ref v), l1] (.ref v :: st) h K := tm_s o159_2 rfl rfl rfl
theorem o159_3 : tm_op 159 3 = some (.getfield 87, (0, 10, 0, 0)) := rfl
theorem r159_3 (d : Nat) (a : Nat) (ls : tm_Lo) (st : List Value) (G : tm_G) (I : Nat → Nat → Int32) (J : Nat → Nat → Int64) (R : Nat → Nat → Option Nat) (K : Option Value → tm_H → Prop) : tm_A d 159 3 ls (.ref a :: st) (G, I, J, R) K ↔ G.2.2 a = (0, 10) ∧ tm_A d 159 6 ls (.int (I a 0) :: st) (G, I, J, R) K := tm_getI o159_3
theorem o159_6 : tm_op 159 6 = some (.invokestatic 83, (1, 117, 3, 0)) := rfl
theorem r159_6 (d : Nat) (v0 : Int32) (v1 : Int32) (v2 : Int32) (ls : tm_Lo) (st : List Value) (h : tm_H) (K : Option Value → tm_H → Prop) : tm_A (d + 1) 159 6 ls (.int v2 :: .int v1 :: .int v0 :: st) h K ↔ tm_cs st ∧ tm_R d 117 [.int v0, .int v1, .int v2] h (fun r h' => tm_A (d + 1) 159 9 ls (r.toList ++ st) h' K) := tm_callS (as := [.int v0, .int v1, .int v2]) o159_6 rfl rfl rfl rfl
theorem o159_9 : tm_op 159 9 = some (.ifCond .eq 18, (0, 0, 0, 0)) := rfl
theorem r159_9 (d : Nat) (x : Int32) (ls : tm_Lo) (st : List Value) (h : tm_H) (K : Option Value → tm_H → Prop) : tm_A d 159 9 ls (.int x :: st) h K ↔ if x = 0 then tm_A d 159 27 ls st h K else tm_A d 159 12 ls st h K := tm_b o159_9 rfl rfl rfl rfl
theorem o159_12 : tm_op 159 12 = some (.aload_n 0, (0, 0, 0, 0)) := rfl
theorem r159_12 (d : Nat) (v : Nat) (l1 : Option Value) (st : List Value) (h : tm_H) (K : Option Value → tm_H → Prop) : tm_A d 159 12 [some (.ref v), l1] st h K ↔ tm_A d 159 13 [some (.ref v), l1] (.ref v :: st) h K := tm_s o159_12 rfl rfl rfl
theorem o159_13 : tm_op 159 13 = some (.iload_n 1, (0, 0, 0, 0)) := rfl
theorem r159_13 (d : Nat) (v : Int32) (l0 : Option Value) (st : List Value) (h : tm_H) (K : Option Value → tm_H → Prop) : tm_A d 159 13 [l0, some (.int v)] st h K ↔ tm_A d 159 14 [l0, some (.int v)] (.int v :: st) h K := tm_s o159_13 rfl rfl rfl
theorem o159_14 : tm_op 159 14 = some (.invokevirtual 218, (2, 156, 2, 10)) := rfl
theorem r159_14 (d : Nat) (v1 : Int32) (a : Nat) (ls : tm_Lo) (st : List Value) (h : tm_H) (K : Option Value → tm_H → Prop) : tm_A (d + 1) 159 14 ls (.int v1 :: .ref a :: st) h K ↔ (h.1.2.2 a = (0, 10) ∧ tm_cs st) ∧ tm_R d 156 [.ref a, .int v1] h (fun r h' => tm_A (d + 1) 159 17 ls (r.toList ++ st) h' K) := tm_callV (as := [.int v1]) o159_14 rfl rfl rfl rfl
theorem o159_17 : tm_op 159 17 = some (.ifCond .eq 10, (0, 0, 0, 0)) := rfl
theorem r159_17 (d : Nat) (x : Int32) (ls : tm_Lo) (st : List Value) (h : tm_H) (K : Option Value → tm_H → Prop) : tm_A d 159 17 ls (.int x :: st) h K ↔ if x = 0 then tm_A d 159 27 ls st h K else tm_A d 159 20 ls st h K := tm_b o159_17 rfl rfl rfl rfl
theorem o159_20 : tm_op 159 20 = some (.aload_n 0, (0, 0, 0, 0)) := rfl
theorem r159_20 (d : Nat) (v : Nat) (l1 : Option Value) (st : List Value) (h : tm_H) (K : Option Value → tm_H → Prop) : tm_A d 159 20 [some (.ref v), l1] st h K ↔ tm_A d 159 21 [some (.ref v), l1] (.ref v :: st) h K := tm_s o159_20 rfl rfl rfl
theorem o159_21 : tm_op 159 21 = some (.getfield 205, (0, 10, 32, 0)) := rfl
theorem r159_21 (d : Nat) (a : Nat) (ls : tm_Lo) (st : List Value) (G : tm_G) (I : Nat → Nat → Int32) (J : Nat → Nat → Int64) (R : Nat → Nat → Option Nat) (K : Option Value → tm_H → Prop) : tm_A d 159 21 ls (.ref a :: st) (G, I, J, R) K ↔ G.2.2 a = (0, 10) ∧ tm_A d 159 24 ls (.int (I a 32) :: st) (G, I, J, R) K := tm_getI o159_21
theorem o159_24 : tm_op 159 24 = some (.goto 6, (0, 0, 0, 0)) := rfl
theorem r159_24 (d : Nat) (ls : tm_Lo) (st : List Value) (h : tm_H) (K : Option Value → tm_H → Prop) : tm_A d 159 24 ls st h K ↔ tm_A d 159 30 ls st h K := tm_s o159_24 rfl rfl rfl
theorem o159_27 : tm_op 159 27 = some (.sipush (-10000), (0, 0, 0, 0)) := rfl
theorem r159_27 (d : Nat) (ls : tm_Lo) (st : List Value) (h : tm_H) (K : Option Value → tm_H → Prop) : tm_A d 159 27 ls st h K ↔ tm_A d 159 30 ls (.int (-10000 : Int32) :: st) h K := tm_sp o159_27 (by decide)
theorem o159_30 : tm_op 159 30 = some (.ireturn, (0, 0, 0, 0)) := rfl
theorem r159_30 (d : Nat) (v : Int32) (ls : tm_Lo) (h : tm_H) (K : Option Value → tm_H → Prop) : tm_A d 159 30 ls [.int v] h K ↔ K (some (.int v)) h := tm_reti o159_30 rfl
theorem o160_0 : tm_op 160 0 = some (.iload_n 1, (0, 0, 0, 0)) := rfl
theorem r160_0 (d : Nat) (v : Int32) (l0 : Option Value) (st : List Value) (h : tm_H) (K : Option Value → tm_H → Prop) : tm_A d 160 0 [l0, some (.int v)] st h K ↔ tm_A d 160 1 [l0, some (.int v)] (.int v :: st) h K := tm_s o160_0 rfl rfl rfl
theorem o160_1 : tm_op 160 1 = some (.iconst 0, (0, 0, 0, 0)) := rfl
theorem r160_1 (d : Nat) (ls : tm_Lo) (st : List Value) (h : tm_H) (K : Option Value → tm_H → Prop) : tm_A d 160 1 ls st h K ↔ tm_A d 160 2 ls (.int (0 : Int32) :: st) h K := tm_ic o160_1 (by decide)
theorem o160_2 : tm_op 160 2 = some (.aload_n 0, (0, 0, 0, 0)) := rfl
theorem r160_2 (d : Nat) (v : Nat) (l1 : Option Value) (st : List Value) (h : tm_H) (K : Option Value → tm_H → Prop) : tm_A d 160 2 [some (.ref v), l1] st h K ↔ tm_A d 160 3 [some (.ref v), l1] (.ref v :: st) h K := tm_s o160_2 rfl rfl rfl
theorem o160_3 : tm_op 160 3 = some (.getfield 87, (0, 10, 0, 0)) := rfl
theorem r160_3 (d : Nat) (a : Nat) (ls : tm_Lo) (st : List Value) (G : tm_G) (I : Nat → Nat → Int32) (J : Nat → Nat → Int64) (R : Nat → Nat → Option Nat) (K : Option Value → tm_H → Prop) : tm_A d 160 3 ls (.ref a :: st) (G, I, J, R) K ↔ G.2.2 a = (0, 10) ∧ tm_A d 160 6 ls (.int (I a 0) :: st) (G, I, J, R) K := tm_getI o160_3
theorem o160_6 : tm_op 160 6 = some (.invokestatic 83, (1, 117, 3, 0)) := rfl
theorem r160_6 (d : Nat) (v0 : Int32) (v1 : Int32) (v2 : Int32) (ls : tm_Lo) (st : List Value) (h : tm_H) (K : Option Value → tm_H → Prop) : tm_A (d + 1) 160 6 ls (.int v2 :: .int v1 :: .int v0 :: st) h K ↔ tm_cs st ∧ tm_R d 117 [.int v0, .int v1, .int v2] h (fun r h' => tm_A (d + 1) 160 9 ls (r.toList ++ st) h' K) := tm_callS (as := [.int v0, .int v1, .int v2]) o160_6 rfl rfl rfl rfl
theorem o160_9 : tm_op 160 9 = some (.ifCond .eq 18, (0, 0, 0, 0)) := rfl
theorem r160_9 (d : Nat) (x : Int32) (ls : tm_Lo) (st : List Value) (h : tm_H) (K : Option Value → tm_H → Prop) : tm_A d 160 9 ls (.int x :: st) h K ↔ if x = 0 then tm_A d 160 27 ls st h K else tm_A d 160 12 ls st h K := tm_b o160_9 rfl rfl rfl rfl
theorem o160_12 : tm_op 160 12 = some (.aload_n 0, (0, 0, 0, 0)) := rfl
theorem r160_12 (d : Nat) (v : Nat) (l1 : Option Value) (st : List Value) (h : tm_H) (K : Option Value → tm_H → Prop) : tm_A d 160 12 [some (.ref v), l1] st h K ↔ tm_A d 160 13 [some (.ref v), l1] (.ref v :: st) h K := tm_s o160_12 rfl rfl rfl
theorem o160_13 : tm_op 160 13 = some (.iload_n 1, (0, 0, 0, 0)) := rfl
theorem r160_13 (d : Nat) (v : Int32) (l0 : Option Value) (st : List Value) (h : tm_H) (K : Option Value → tm_H → Prop) : tm_A d 160 13 [l0, some (.int v)] st h K ↔ tm_A d 160 14 [l0, some (.int v)] (.int v :: st) h K := tm_s o160_13 rfl rfl rfl
theorem o160_14 : tm_op 160 14 = some (.invokevirtual 218, (2, 156, 2, 10)) := rfl
theorem r160_14 (d : Nat) (v1 : Int32) (a : Nat) (ls : tm_Lo) (st : List Value) (h : tm_H) (K : Option Value → tm_H → Prop) : tm_A (d + 1) 160 14 ls (.int v1 :: .ref a :: st) h K ↔ (h.1.2.2 a = (0, 10) ∧ tm_cs st) ∧ tm_R d 156 [.ref a, .int v1] h (fun r h' => tm_A (d + 1) 160 17 ls (r.toList ++ st) h' K) := tm_callV (as := [.int v1]) o160_14 rfl rfl rfl rfl
theorem o160_17 : tm_op 160 17 = some (.ifCond .eq 10, (0, 0, 0, 0)) := rfl
theorem r160_17 (d : Nat) (x : Int32) (ls : tm_Lo) (st : List Value) (h : tm_H) (K : Option Value → tm_H → Prop) : tm_A d 160 17 ls (.int x :: st) h K ↔ if x = 0 then tm_A d 160 27 ls st h K else tm_A d 160 20 ls st h K := tm_b o160_17 rfl rfl rfl rfl
theorem o160_20 : tm_op 160 20 = some (.aload_n 0, (0, 0, 0, 0)) := rfl
theorem r160_20 (d : Nat) (v : Nat) (l1 : Option Value) (st : List Value) (h : tm_H) (K : Option Value → tm_H → Prop) : tm_A d 160 20 [some (.ref v), l1] st h K ↔ tm_A d 160 21 [some (.ref v), l1] (.ref v :: st) h K := tm_s o160_20 rfl rfl rfl
theorem o160_21 : tm_op 160 21 = some (.getfield 208, (0, 10, 33, 0)) := rfl
theorem r160_21 (d : Nat) (a : Nat) (ls : tm_Lo) (st : List Value) (G : tm_G) (I : Nat → Nat → Int32) (J : Nat → Nat → Int64) (R : Nat → Nat → Option Nat) (K : Option Value → tm_H → Prop) : tm_A d 160 21 ls (.ref a :: st) (G, I, J, R) K ↔ G.2.2 a = (0, 10) ∧ tm_A d 160 24 ls (.int (I a 33) :: st) (G, I, J, R) K := tm_getI o160_21
theorem o160_24 : tm_op 160 24 = some (.goto 4, (0, 0, 0, 0)) := rfl
theorem r160_24 (d : Nat) (ls : tm_Lo) (st : List Value) (h : tm_H) (K : Option Value → tm_H → Prop) : tm_A d 160 24 ls st h K ↔ tm_A d 160 28 ls st h K := tm_s o160_24 rfl rfl rfl
theorem o160_27 : tm_op 160 27 = some (.iconst (-1), (0, 0, 0, 0)) := rfl
theorem r160_27 (d : Nat) (ls : tm_Lo) (st : List Value) (h : tm_H) (K : Option Value → tm_H → Prop) : tm_A d 160 27 ls st h K ↔ tm_A d 160 28 ls (.int (-1 : Int32) :: st) h K := tm_ic o160_27 (by decide)
theorem o160_28 : tm_op 160 28 = some (.ireturn, (0, 0, 0, 0)) := rfl
theorem r160_28 (d : Nat) (v : Int32) (ls : tm_Lo) (h : tm_H) (K : Option Value → tm_H → Prop) : tm_A d 160 28 ls [.int v] h K ↔ K (some (.int v)) h := tm_reti o160_28 rfl
theorem o161_0 : tm_op 161 0 = some (.iconst (-1), (0, 0, 0, 0)) := rfl
theorem r161_0 (d : Nat) (ls : tm_Lo) (st : List Value) (h : tm_H) (K : Option Value → tm_H → Prop) : tm_A d 161 0 ls st h K ↔ tm_A d 161 1 ls (.int (-1 : Int32) :: st) h K := tm_ic o161_0 (by decide)
theorem o161_1 : tm_op 161 1 = some (.istore_n 3, (0, 0, 0, 0)) := rfl
theorem r161_1 (d : Nat) (v : Int32) (l0 l1 l2 l3 l4 l5 : Option Value) (st : List Value) (h : tm_H) (K : Option Value → tm_H → Prop) : tm_A d 161 1 [l0, l1, l2, l3, l4, l5] (.int v :: st) h K ↔ tm_A d 161 2 [l0, l1, l2, some (.int v), l4, l5] st h K := tm_s o161_1 rfl rfl rfl
theorem o161_2 : tm_op 161 2 = some (.iconst 0, (0, 0, 0, 0)) := rfl
theorem r161_2 (d : Nat) (ls : tm_Lo) (st : List Value) (h : tm_H) (K : Option Value → tm_H → Prop) : tm_A d 161 2 ls st h K ↔ tm_A d 161 3 ls (.int (0 : Int32) :: st) h K := tm_ic o161_2 (by decide)
theorem o161_3 : tm_op 161 3 = some (.istore 4, (0, 0, 0, 0)) := rfl
theorem r161_3 (d : Nat) (v : Int32) (l0 l1 l2 l3 l4 l5 : Option Value) (st : List Value) (h : tm_H) (K : Option Value → tm_H → Prop) : tm_A d 161 3 [l0, l1, l2, l3, l4, l5] (.int v :: st) h K ↔ tm_A d 161 5 [l0, l1, l2, l3, some (.int v), l5] st h K := tm_s o161_3 rfl rfl rfl
theorem o161_5 : tm_op 161 5 = some (.iload 4, (0, 0, 0, 0)) := rfl
theorem r161_5 (d : Nat) (v : Int32) (l0 l1 l2 l3 l5 : Option Value) (st : List Value) (h : tm_H) (K : Option Value → tm_H → Prop) : tm_A d 161 5 [l0, l1, l2, l3, some (.int v), l5] st h K ↔ tm_A d 161 7 [l0, l1, l2, l3, some (.int v), l5] (.int v :: st) h K := tm_s o161_5 rfl rfl rfl
theorem o161_7 : tm_op 161 7 = some (.aload_n 0, (0, 0, 0, 0)) := rfl
theorem r161_7 (d : Nat) (v : Nat) (l1 l2 l3 l4 l5 : Option Value) (st : List Value) (h : tm_H) (K : Option Value → tm_H → Prop) : tm_A d 161 7 [some (.ref v), l1, l2, l3, l4, l5] st h K ↔ tm_A d 161 8 [some (.ref v), l1, l2, l3, l4, l5] (.ref v :: st) h K := tm_s o161_7 rfl rfl rfl
theorem o161_8 : tm_op 161 8 = some (.getfield 159, (0, 10, 26, 0)) := rfl
theorem r161_8 (d : Nat) (a : Nat) (ls : tm_Lo) (st : List Value) (G : tm_G) (I : Nat → Nat → Int32) (J : Nat → Nat → Int64) (R : Nat → Nat → Option Nat) (K : Option Value → tm_H → Prop) : tm_A d 161 8 ls (.ref a :: st) (G, I, J, R) K ↔ G.2.2 a = (0, 10) ∧ tm_A d 161 11 ls (.int (I a 26) :: st) (G, I, J, R) K := tm_getI o161_8
theorem o161_11 : tm_op 161 11 = some (.if_icmp .ge 77, (0, 0, 0, 0)) := rfl
theorem r161_11 (d : Nat) (y x : Int32) (ls : tm_Lo) (st : List Value) (h : tm_H) (K : Option Value → tm_H → Prop) : tm_A d 161 11 ls (.int y :: .int x :: st) h K ↔ if y ≤ x then tm_A d 161 88 ls st h K else tm_A d 161 14 ls st h K := tm_b o161_11 rfl rfl rfl rfl
theorem o161_14 : tm_op 161 14 = some (.aload_n 0, (0, 0, 0, 0)) := rfl
theorem r161_14 (d : Nat) (v : Nat) (l1 l2 l3 l4 l5 : Option Value) (st : List Value) (h : tm_H) (K : Option Value → tm_H → Prop) : tm_A d 161 14 [some (.ref v), l1, l2, l3, l4, l5] st h K ↔ tm_A d 161 15 [some (.ref v), l1, l2, l3, l4, l5] (.ref v :: st) h K := tm_s o161_14 rfl rfl rfl
theorem o161_15 : tm_op 161 15 = some (.getfield 74, (2, 10, 31, 0)) := rfl
theorem r161_15 (d : Nat) (a : Nat) (ls : tm_Lo) (st : List Value) (G : tm_G) (I : Nat → Nat → Int32) (J : Nat → Nat → Int64) (R : Nat → Nat → Option Nat) (K : Option Value → tm_H → Prop) : tm_A d 161 15 ls (.ref a :: st) (G, I, J, R) K ↔ G.2.2 a = (0, 10) ∧ tm_A d 161 18 ls (tm_rf (R a 31) :: st) (G, I, J, R) K := tm_getR o161_15
theorem o161_18 : tm_op 161 18 = some (.iload 4, (0, 0, 0, 0)) := rfl
theorem r161_18 (d : Nat) (v : Int32) (l0 l1 l2 l3 l5 : Option Value) (st : List Value) (h : tm_H) (K : Option Value → tm_H → Prop) : tm_A d 161 18 [l0, l1, l2, l3, some (.int v), l5] st h K ↔ tm_A d 161 20 [l0, l1, l2, l3, some (.int v), l5] (.int v :: st) h K := tm_s o161_18 rfl rfl rfl
theorem o161_20 : tm_op 161 20 = some (.iaload, (0, 0, 0, 0)) := rfl
theorem r161_20 (d : Nat) (v : Int32) (a : Nat) (ls : tm_Lo) (st : List Value) (G : tm_G) (I : Nat → Nat → Int32) (J : Nat → Nat → Int64) (R : Nat → Nat → Option Nat) (K : Option Value → tm_H → Prop) : tm_A d 161 20 ls (.int v :: .ref a :: st) (G, I, J, R) K ↔ ((G.2.2 a).1 = 1 ∧ tm_in v (G.2.2 a).2) ∧ tm_A d 161 21 ls (.int (I a (tm_ix v)) :: st) (G, I, J, R) K := tm_iald o161_20
theorem o161_21 : tm_op 161 21 = some (.iload_n 1, (0, 0, 0, 0)) := rfl
theorem r161_21 (d : Nat) (v : Int32) (l0 l2 l3 l4 l5 : Option Value) (st : List Value) (h : tm_H) (K : Option Value → tm_H → Prop) : tm_A d 161 21 [l0, some (.int v), l2, l3, l4, l5] st h K ↔ tm_A d 161 22 [l0, some (.int v), l2, l3, l4, l5] (.int v :: st) h K := tm_s o161_21 rfl rfl rfl
theorem o161_22 : tm_op 161 22 = some (.if_icmp .ne 60, (0, 0, 0, 0)) := rfl
theorem r161_22 (d : Nat) (y x : Int32) (ls : tm_Lo) (st : List Value) (h : tm_H) (K : Option Value → tm_H → Prop) : tm_A d 161 22 ls (.int y :: .int x :: st) h K ↔ if ¬ x = y then tm_A d 161 82 ls st h K else tm_A d 161 25 ls st h K := tm_b o161_22 rfl rfl rfl rfl
theorem o161_25 : tm_op 161 25 = some (.aload_n 0, (0, 0, 0, 0)) := rfl
theorem r161_25 (d : Nat) (v : Nat) (l1 l2 l3 l4 l5 : Option Value) (st : List Value) (h : tm_H) (K : Option Value → tm_H → Prop) : tm_A d 161 25 [some (.ref v), l1, l2, l3, l4, l5] st h K ↔ tm_A d 161 26 [some (.ref v), l1, l2, l3, l4, l5] (.ref v :: st) h K := tm_s o161_25 rfl rfl rfl
theorem o161_26 : tm_op 161 26 = some (.aload_n 0, (0, 0, 0, 0)) := rfl
theorem r161_26 (d : Nat) (v : Nat) (l1 l2 l3 l4 l5 : Option Value) (st : List Value) (h : tm_H) (K : Option Value → tm_H → Prop) : tm_A d 161 26 [some (.ref v), l1, l2, l3, l4, l5] st h K ↔ tm_A d 161 27 [some (.ref v), l1, l2, l3, l4, l5] (.ref v :: st) h K := tm_s o161_26 rfl rfl rfl
theorem o161_27 : tm_op 161 27 = some (.getfield 62, (2, 10, 27, 0)) := rfl
theorem r161_27 (d : Nat) (a : Nat) (ls : tm_Lo) (st : List Value) (G : tm_G) (I : Nat → Nat → Int32) (J : Nat → Nat → Int64) (R : Nat → Nat → Option Nat) (K : Option Value → tm_H → Prop) : tm_A d 161 27 ls (.ref a :: st) (G, I, J, R) K ↔ G.2.2 a = (0, 10) ∧ tm_A d 161 30 ls (tm_rf (R a 27) :: st) (G, I, J, R) K := tm_getR o161_27
theorem o161_30 : tm_op 161 30 = some (.iload 4, (0, 0, 0, 0)) := rfl
theorem r161_30 (d : Nat) (v : Int32) (l0 l1 l2 l3 l5 : Option Value) (st : List Value) (h : tm_H) (K : Option Value → tm_H → Prop) : tm_A d 161 30 [l0, l1, l2, l3, some (.int v), l5] st h K ↔ tm_A d 161 32 [l0, l1, l2, l3, some (.int v), l5] (.int v :: st) h K := tm_s o161_30 rfl rfl rfl
theorem o161_32 : tm_op 161 32 = some (.iaload, (0, 0, 0, 0)) := rfl
theorem r161_32 (d : Nat) (v : Int32) (a : Nat) (ls : tm_Lo) (st : List Value) (G : tm_G) (I : Nat → Nat → Int32) (J : Nat → Nat → Int64) (R : Nat → Nat → Option Nat) (K : Option Value → tm_H → Prop) : tm_A d 161 32 ls (.int v :: .ref a :: st) (G, I, J, R) K ↔ ((G.2.2 a).1 = 1 ∧ tm_in v (G.2.2 a).2) ∧ tm_A d 161 33 ls (.int (I a (tm_ix v)) :: st) (G, I, J, R) K := tm_iald o161_32
theorem o161_33 : tm_op 161 33 = some (.iload_n 2, (0, 0, 0, 0)) := rfl
theorem r161_33 (d : Nat) (v : Int32) (l0 l1 l3 l4 l5 : Option Value) (st : List Value) (h : tm_H) (K : Option Value → tm_H → Prop) : tm_A d 161 33 [l0, l1, some (.int v), l3, l4, l5] st h K ↔ tm_A d 161 34 [l0, l1, some (.int v), l3, l4, l5] (.int v :: st) h K := tm_s o161_33 rfl rfl rfl
theorem o161_34 : tm_op 161 34 = some (.invokevirtual 176, (2, 140, 3, 10)) := rfl
theorem r161_34 (d : Nat) (v1 : Int32) (v2 : Int32) (a : Nat) (ls : tm_Lo) (st : List Value) (h : tm_H) (K : Option Value → tm_H → Prop) : tm_A (d + 1) 161 34 ls (.int v2 :: .int v1 :: .ref a :: st) h K ↔ (h.1.2.2 a = (0, 10) ∧ tm_cs st) ∧ tm_R d 140 [.ref a, .int v1, .int v2] h (fun r h' => tm_A (d + 1) 161 37 ls (r.toList ++ st) h' K) := tm_callV (as := [.int v1, .int v2]) o161_34 rfl rfl rfl rfl
theorem o161_37 : tm_op 161 37 = some (.ifCond .eq 45, (0, 0, 0, 0)) := rfl
theorem r161_37 (d : Nat) (x : Int32) (ls : tm_Lo) (st : List Value) (h : tm_H) (K : Option Value → tm_H → Prop) : tm_A d 161 37 ls (.int x :: st) h K ↔ if x = 0 then tm_A d 161 82 ls st h K else tm_A d 161 40 ls st h K := tm_b o161_37 rfl rfl rfl rfl
theorem o161_40 : tm_op 161 40 = some (.aload_n 0, (0, 0, 0, 0)) := rfl
theorem r161_40 (d : Nat) (v : Nat) (l1 l2 l3 l4 l5 : Option Value) (st : List Value) (h : tm_H) (K : Option Value → tm_H → Prop) : tm_A d 161 40 [some (.ref v), l1, l2, l3, l4, l5] st h K ↔ tm_A d 161 41 [some (.ref v), l1, l2, l3, l4, l5] (.ref v :: st) h K := tm_s o161_40 rfl rfl rfl
theorem o161_41 : tm_op 161 41 = some (.aload_n 0, (0, 0, 0, 0)) := rfl
theorem r161_41 (d : Nat) (v : Nat) (l1 l2 l3 l4 l5 : Option Value) (st : List Value) (h : tm_H) (K : Option Value → tm_H → Prop) : tm_A d 161 41 [some (.ref v), l1, l2, l3, l4, l5] st h K ↔ tm_A d 161 42 [some (.ref v), l1, l2, l3, l4, l5] (.ref v :: st) h K := tm_s o161_41 rfl rfl rfl
theorem o161_42 : tm_op 161 42 = some (.getfield 62, (2, 10, 27, 0)) := rfl
theorem r161_42 (d : Nat) (a : Nat) (ls : tm_Lo) (st : List Value) (G : tm_G) (I : Nat → Nat → Int32) (J : Nat → Nat → Int64) (R : Nat → Nat → Option Nat) (K : Option Value → tm_H → Prop) : tm_A d 161 42 ls (.ref a :: st) (G, I, J, R) K ↔ G.2.2 a = (0, 10) ∧ tm_A d 161 45 ls (tm_rf (R a 27) :: st) (G, I, J, R) K := tm_getR o161_42
theorem o161_45 : tm_op 161 45 = some (.iload 4, (0, 0, 0, 0)) := rfl
theorem r161_45 (d : Nat) (v : Int32) (l0 l1 l2 l3 l5 : Option Value) (st : List Value) (h : tm_H) (K : Option Value → tm_H → Prop) : tm_A d 161 45 [l0, l1, l2, l3, some (.int v), l5] st h K ↔ tm_A d 161 47 [l0, l1, l2, l3, some (.int v), l5] (.int v :: st) h K := tm_s o161_45 rfl rfl rfl
theorem o161_47 : tm_op 161 47 = some (.iaload, (0, 0, 0, 0)) := rfl
theorem r161_47 (d : Nat) (v : Int32) (a : Nat) (ls : tm_Lo) (st : List Value) (G : tm_G) (I : Nat → Nat → Int32) (J : Nat → Nat → Int64) (R : Nat → Nat → Option Nat) (K : Option Value → tm_H → Prop) : tm_A d 161 47 ls (.int v :: .ref a :: st) (G, I, J, R) K ↔ ((G.2.2 a).1 = 1 ∧ tm_in v (G.2.2 a).2) ∧ tm_A d 161 48 ls (.int (I a (tm_ix v)) :: st) (G, I, J, R) K := tm_iald o161_47
theorem o161_48 : tm_op 161 48 = some (.iload_n 2, (0, 0, 0, 0)) := rfl
theorem r161_48 (d : Nat) (v : Int32) (l0 l1 l3 l4 l5 : Option Value) (st : List Value) (h : tm_H) (K : Option Value → tm_H → Prop) : tm_A d 161 48 [l0, l1, some (.int v), l3, l4, l5] st h K ↔ tm_A d 161 49 [l0, l1, some (.int v), l3, l4, l5] (.int v :: st) h K := tm_s o161_48 rfl rfl rfl
theorem o161_49 : tm_op 161 49 = some (.invokevirtual 179, (2, 141, 3, 10)) := rfl
theorem r161_49 (d : Nat) (v1 : Int32) (v2 : Int32) (a : Nat) (ls : tm_Lo) (st : List Value) (h : tm_H) (K : Option Value → tm_H → Prop) : tm_A (d + 1) 161 49 ls (.int v2 :: .int v1 :: .ref a :: st) h K ↔ (h.1.2.2 a = (0, 10) ∧ tm_cs st) ∧ tm_R d 141 [.ref a, .int v1, .int v2] h (fun r h' => tm_A (d + 1) 161 52 ls (r.toList ++ st) h' K) := tm_callV (as := [.int v1, .int v2]) o161_49 rfl rfl rfl rfl
theorem o161_52 : tm_op 161 52 = some (.istore 5, (0, 0, 0, 0)) := rfl
theorem r161_52 (d : Nat) (v : Int32) (l0 l1 l2 l3 l4 l5 : Option Value) (st : List Value) (h : tm_H) (K : Option Value → tm_H → Prop) : tm_A d 161 52 [l0, l1, l2, l3, l4, l5] (.int v :: st) h K ↔ tm_A d 161 54 [l0, l1, l2, l3, l4, some (.int v)] st h K := tm_s o161_52 rfl rfl rfl
theorem o161_54 : tm_op 161 54 = some (.iload_n 3, (0, 0, 0, 0)) := rfl
theorem r161_54 (d : Nat) (v : Int32) (l0 l1 l2 l4 l5 : Option Value) (st : List Value) (h : tm_H) (K : Option Value → tm_H → Prop) : tm_A d 161 54 [l0, l1, l2, some (.int v), l4, l5] st h K ↔ tm_A d 161 55 [l0, l1, l2, some (.int v), l4, l5] (.int v :: st) h K := tm_s o161_54 rfl rfl rfl
theorem o161_55 : tm_op 161 55 = some (.iconst (-1), (0, 0, 0, 0)) := rfl
theorem r161_55 (d : Nat) (ls : tm_Lo) (st : List Value) (h : tm_H) (K : Option Value → tm_H → Prop) : tm_A d 161 55 ls st h K ↔ tm_A d 161 56 ls (.int (-1 : Int32) :: st) h K := tm_ic o161_55 (by decide)
theorem o161_56 : tm_op 161 56 = some (.if_icmp .eq 9, (0, 0, 0, 0)) := rfl
theorem r161_56 (d : Nat) (y x : Int32) (ls : tm_Lo) (st : List Value) (h : tm_H) (K : Option Value → tm_H → Prop) : tm_A d 161 56 ls (.int y :: .int x :: st) h K ↔ if x = y then tm_A d 161 65 ls st h K else tm_A d 161 59 ls st h K := tm_b o161_56 rfl rfl rfl rfl
theorem o161_59 : tm_op 161 59 = some (.iload_n 3, (0, 0, 0, 0)) := rfl
theorem r161_59 (d : Nat) (v : Int32) (l0 l1 l2 l4 l5 : Option Value) (st : List Value) (h : tm_H) (K : Option Value → tm_H → Prop) : tm_A d 161 59 [l0, l1, l2, some (.int v), l4, l5] st h K ↔ tm_A d 161 60 [l0, l1, l2, some (.int v), l4, l5] (.int v :: st) h K := tm_s o161_59 rfl rfl rfl
theorem o161_60 : tm_op 161 60 = some (.iload 5, (0, 0, 0, 0)) := rfl
theorem r161_60 (d : Nat) (v : Int32) (l0 l1 l2 l3 l4 : Option Value) (st : List Value) (h : tm_H) (K : Option Value → tm_H → Prop) : tm_A d 161 60 [l0, l1, l2, l3, l4, some (.int v)] st h K ↔ tm_A d 161 62 [l0, l1, l2, l3, l4, some (.int v)] (.int v :: st) h K := tm_s o161_60 rfl rfl rfl
theorem o161_62 : tm_op 161 62 = some (.if_icmp .ne 8, (0, 0, 0, 0)) := rfl
theorem r161_62 (d : Nat) (y x : Int32) (ls : tm_Lo) (st : List Value) (h : tm_H) (K : Option Value → tm_H → Prop) : tm_A d 161 62 ls (.int y :: .int x :: st) h K ↔ if ¬ x = y then tm_A d 161 70 ls st h K else tm_A d 161 65 ls st h K := tm_b o161_62 rfl rfl rfl rfl
theorem o161_65 : tm_op 161 65 = some (.iload 5, (0, 0, 0, 0)) := rfl
theorem r161_65 (d : Nat) (v : Int32) (l0 l1 l2 l3 l4 : Option Value) (st : List Value) (h : tm_H) (K : Option Value → tm_H → Prop) : tm_A d 161 65 [l0, l1, l2, l3, l4, some (.int v)] st h K ↔ tm_A d 161 67 [l0, l1, l2, l3, l4, some (.int v)] (.int v :: st) h K := tm_s o161_65 rfl rfl rfl
theorem o161_67 : tm_op 161 67 = some (.goto 5, (0, 0, 0, 0)) := rfl
theorem r161_67 (d : Nat) (ls : tm_Lo) (st : List Value) (h : tm_H) (K : Option Value → tm_H → Prop) : tm_A d 161 67 ls st h K ↔ tm_A d 161 72 ls st h K := tm_s o161_67 rfl rfl rfl
theorem o161_70 : tm_op 161 70 = some (.bipush (-2), (0, 0, 0, 0)) := rfl
theorem r161_70 (d : Nat) (ls : tm_Lo) (st : List Value) (h : tm_H) (K : Option Value → tm_H → Prop) : tm_A d 161 70 ls st h K ↔ tm_A d 161 72 ls (.int (-2 : Int32) :: st) h K := tm_bp o161_70 (by decide)
theorem o161_72 : tm_op 161 72 = some (.istore_n 3, (0, 0, 0, 0)) := rfl
theorem r161_72 (d : Nat) (v : Int32) (l0 l1 l2 l3 l4 l5 : Option Value) (st : List Value) (h : tm_H) (K : Option Value → tm_H → Prop) : tm_A d 161 72 [l0, l1, l2, l3, l4, l5] (.int v :: st) h K ↔ tm_A d 161 73 [l0, l1, l2, some (.int v), l4, l5] st h K := tm_s o161_72 rfl rfl rfl
theorem o161_73 : tm_op 161 73 = some (.iload_n 3, (0, 0, 0, 0)) := rfl
theorem r161_73 (d : Nat) (v : Int32) (l0 l1 l2 l4 l5 : Option Value) (st : List Value) (h : tm_H) (K : Option Value → tm_H → Prop) : tm_A d 161 73 [l0, l1, l2, some (.int v), l4, l5] st h K ↔ tm_A d 161 74 [l0, l1, l2, some (.int v), l4, l5] (.int v :: st) h K := tm_s o161_73 rfl rfl rfl
theorem o161_74 : tm_op 161 74 = some (.bipush (-2), (0, 0, 0, 0)) := rfl
theorem r161_74 (d : Nat) (ls : tm_Lo) (st : List Value) (h : tm_H) (K : Option Value → tm_H → Prop) : tm_A d 161 74 ls st h K ↔ tm_A d 161 76 ls (.int (-2 : Int32) :: st) h K := tm_bp o161_74 (by decide)
theorem o161_76 : tm_op 161 76 = some (.if_icmp .ne 6, (0, 0, 0, 0)) := rfl
theorem r161_76 (d : Nat) (y x : Int32) (ls : tm_Lo) (st : List Value) (h : tm_H) (K : Option Value → tm_H → Prop) : tm_A d 161 76 ls (.int y :: .int x :: st) h K ↔ if ¬ x = y then tm_A d 161 82 ls st h K else tm_A d 161 79 ls st h K := tm_b o161_76 rfl rfl rfl rfl
theorem o161_79 : tm_op 161 79 = some (.bipush (-2), (0, 0, 0, 0)) := rfl
theorem r161_79 (d : Nat) (ls : tm_Lo) (st : List Value) (h : tm_H) (K : Option Value → tm_H → Prop) : tm_A d 161 79 ls st h K ↔ tm_A d 161 81 ls (.int (-2 : Int32) :: st) h K := tm_bp o161_79 (by decide)
theorem o161_81 : tm_op 161 81 = some (.ireturn, (0, 0, 0, 0)) := rfl
theorem r161_81 (d : Nat) (v : Int32) (ls : tm_Lo) (h : tm_H) (K : Option Value → tm_H → Prop) : tm_A d 161 81 ls [.int v] h K ↔ K (some (.int v)) h := tm_reti o161_81 rfl
theorem o161_82 : tm_op 161 82 = some (.iinc 4 1, (0, 0, 0, 0)) := rfl
theorem r161_82 (d : Nat) (v : Int32) (l0 l1 l2 l3 l5 : Option Value) (st : List Value) (h : tm_H) (K : Option Value → tm_H → Prop) : tm_A d 161 82 [l0, l1, l2, l3, some (.int v), l5] st h K ↔ tm_A d 161 85 [l0, l1, l2, l3, some (.int (v + (1 : Int32))), l5] st h K := tm_s o161_82 rfl rfl rfl
theorem o161_85 : tm_op 161 85 = some (.goto (-80), (0, 0, 0, 0)) := rfl
theorem r161_85 (d : Nat) (ls : tm_Lo) (st : List Value) (h : tm_H) (K : Option Value → tm_H → Prop) : tm_A d 161 85 ls st h K ↔ tm_A d 161 5 ls st h K := tm_s o161_85 rfl rfl rfl
theorem o161_88 : tm_op 161 88 = some (.iload_n 3, (0, 0, 0, 0)) := rfl
theorem r161_88 (d : Nat) (v : Int32) (l0 l1 l2 l4 l5 : Option Value) (st : List Value) (h : tm_H) (K : Option Value → tm_H → Prop) : tm_A d 161 88 [l0, l1, l2, some (.int v), l4, l5] st h K ↔ tm_A d 161 89 [l0, l1, l2, some (.int v), l4, l5] (.int v :: st) h K := tm_s o161_88 rfl rfl rfl
theorem o161_89 : tm_op 161 89 = some (.ireturn, (0, 0, 0, 0)) := rfl
theorem r161_89 (d : Nat) (v : Int32) (ls : tm_Lo) (h : tm_H) (K : Option Value → tm_H → Prop) : tm_A d 161 89 ls [.int v] h K ↔ K (some (.int v)) h := tm_reti o161_89 rfl
theorem o162_0 : tm_op 162 0 = some (.iconst (-1), (0, 0, 0, 0)) := rfl
theorem r162_0 (d : Nat) (ls : tm_Lo) (st : List Value) (h : tm_H) (K : Option Value → tm_H → Prop) : tm_A d 162 0 ls st h K ↔ tm_A d 162 1 ls (.int (-1 : Int32) :: st) h K := tm_ic o162_0 (by decide)
theorem o162_1 : tm_op 162 1 = some (.istore_n 3, (0, 0, 0, 0)) := rfl
theorem r162_1 (d : Nat) (v : Int32) (l0 l1 l2 l3 l4 l5 : Option Value) (st : List Value) (h : tm_H) (K : Option Value → tm_H → Prop) : tm_A d 162 1 [l0, l1, l2, l3, l4, l5] (.int v :: st) h K ↔ tm_A d 162 2 [l0, l1, l2, some (.int v), l4, l5] st h K := tm_s o162_1 rfl rfl rfl
theorem o162_2 : tm_op 162 2 = some (.iconst 0, (0, 0, 0, 0)) := rfl
theorem r162_2 (d : Nat) (ls : tm_Lo) (st : List Value) (h : tm_H) (K : Option Value → tm_H → Prop) : tm_A d 162 2 ls st h K ↔ tm_A d 162 3 ls (.int (0 : Int32) :: st) h K := tm_ic o162_2 (by decide)
theorem o162_3 : tm_op 162 3 = some (.istore 4, (0, 0, 0, 0)) := rfl
theorem r162_3 (d : Nat) (v : Int32) (l0 l1 l2 l3 l4 l5 : Option Value) (st : List Value) (h : tm_H) (K : Option Value → tm_H → Prop) : tm_A d 162 3 [l0, l1, l2, l3, l4, l5] (.int v :: st) h K ↔ tm_A d 162 5 [l0, l1, l2, l3, some (.int v), l5] st h K := tm_s o162_3 rfl rfl rfl
theorem o162_5 : tm_op 162 5 = some (.iload 4, (0, 0, 0, 0)) := rfl
theorem r162_5 (d : Nat) (v : Int32) (l0 l1 l2 l3 l5 : Option Value) (st : List Value) (h : tm_H) (K : Option Value → tm_H → Prop) : tm_A d 162 5 [l0, l1, l2, l3, some (.int v), l5] st h K ↔ tm_A d 162 7 [l0, l1, l2, l3, some (.int v), l5] (.int v :: st) h K := tm_s o162_5 rfl rfl rfl
theorem o162_7 : tm_op 162 7 = some (.aload_n 0, (0, 0, 0, 0)) := rfl
theorem r162_7 (d : Nat) (v : Nat) (l1 l2 l3 l4 l5 : Option Value) (st : List Value) (h : tm_H) (K : Option Value → tm_H → Prop) : tm_A d 162 7 [some (.ref v), l1, l2, l3, l4, l5] st h K ↔ tm_A d 162 8 [some (.ref v), l1, l2, l3, l4, l5] (.ref v :: st) h K := tm_s o162_7 rfl rfl rfl
theorem o162_8 : tm_op 162 8 = some (.getfield 159, (0, 10, 26, 0)) := rfl
theorem r162_8 (d : Nat) (a : Nat) (ls : tm_Lo) (st : List Value) (G : tm_G) (I : Nat → Nat → Int32) (J : Nat → Nat → Int64) (R : Nat → Nat → Option Nat) (K : Option Value → tm_H → Prop) : tm_A d 162 8 ls (.ref a :: st) (G, I, J, R) K ↔ G.2.2 a = (0, 10) ∧ tm_A d 162 11 ls (.int (I a 26) :: st) (G, I, J, R) K := tm_getI o162_8
theorem o162_11 : tm_op 162 11 = some (.if_icmp .ge 97, (0, 0, 0, 0)) := rfl
theorem r162_11 (d : Nat) (y x : Int32) (ls : tm_Lo) (st : List Value) (h : tm_H) (K : Option Value → tm_H → Prop) : tm_A d 162 11 ls (.int y :: .int x :: st) h K ↔ if y ≤ x then tm_A d 162 108 ls st h K else tm_A d 162 14 ls st h K := tm_b o162_11 rfl rfl rfl rfl
theorem o162_14 : tm_op 162 14 = some (.aload_n 0, (0, 0, 0, 0)) := rfl
theorem r162_14 (d : Nat) (v : Nat) (l1 l2 l3 l4 l5 : Option Value) (st : List Value) (h : tm_H) (K : Option Value → tm_H → Prop) : tm_A d 162 14 [some (.ref v), l1, l2, l3, l4, l5] st h K ↔ tm_A d 162 15 [some (.ref v), l1, l2, l3, l4, l5] (.ref v :: st) h K := tm_s o162_14 rfl rfl rfl
theorem o162_15 : tm_op 162 15 = some (.getfield 74, (2, 10, 31, 0)) := rfl
theorem r162_15 (d : Nat) (a : Nat) (ls : tm_Lo) (st : List Value) (G : tm_G) (I : Nat → Nat → Int32) (J : Nat → Nat → Int64) (R : Nat → Nat → Option Nat) (K : Option Value → tm_H → Prop) : tm_A d 162 15 ls (.ref a :: st) (G, I, J, R) K ↔ G.2.2 a = (0, 10) ∧ tm_A d 162 18 ls (tm_rf (R a 31) :: st) (G, I, J, R) K := tm_getR o162_15
theorem o162_18 : tm_op 162 18 = some (.iload 4, (0, 0, 0, 0)) := rfl
theorem r162_18 (d : Nat) (v : Int32) (l0 l1 l2 l3 l5 : Option Value) (st : List Value) (h : tm_H) (K : Option Value → tm_H → Prop) : tm_A d 162 18 [l0, l1, l2, l3, some (.int v), l5] st h K ↔ tm_A d 162 20 [l0, l1, l2, l3, some (.int v), l5] (.int v :: st) h K := tm_s o162_18 rfl rfl rfl
theorem o162_20 : tm_op 162 20 = some (.iaload, (0, 0, 0, 0)) := rfl
theorem r162_20 (d : Nat) (v : Int32) (a : Nat) (ls : tm_Lo) (st : List Value) (G : tm_G) (I : Nat → Nat → Int32) (J : Nat → Nat → Int64) (R : Nat → Nat → Option Nat) (K : Option Value → tm_H → Prop) : tm_A d 162 20 ls (.int v :: .ref a :: st) (G, I, J, R) K ↔ ((G.2.2 a).1 = 1 ∧ tm_in v (G.2.2 a).2) ∧ tm_A d 162 21 ls (.int (I a (tm_ix v)) :: st) (G, I, J, R) K := tm_iald o162_20
theorem o162_21 : tm_op 162 21 = some (.iload_n 1, (0, 0, 0, 0)) := rfl
theorem r162_21 (d : Nat) (v : Int32) (l0 l2 l3 l4 l5 : Option Value) (st : List Value) (h : tm_H) (K : Option Value → tm_H → Prop) : tm_A d 162 21 [l0, some (.int v), l2, l3, l4, l5] st h K ↔ tm_A d 162 22 [l0, some (.int v), l2, l3, l4, l5] (.int v :: st) h K := tm_s o162_21 rfl rfl rfl
theorem o162_22 : tm_op 162 22 = some (.if_icmp .ne 80, (0, 0, 0, 0)) := rfl
theorem r162_22 (d : Nat) (y x : Int32) (ls : tm_Lo) (st : List Value) (h : tm_H) (K : Option Value → tm_H → Prop) : tm_A d 162 22 ls (.int y :: .int x :: st) h K ↔ if ¬ x = y then tm_A d 162 102 ls st h K else tm_A d 162 25 ls st h K := tm_b o162_22 rfl rfl rfl rfl
theorem o162_25 : tm_op 162 25 = some (.aload_n 0, (0, 0, 0, 0)) := rfl
theorem r162_25 (d : Nat) (v : Nat) (l1 l2 l3 l4 l5 : Option Value) (st : List Value) (h : tm_H) (K : Option Value → tm_H → Prop) : tm_A d 162 25 [some (.ref v), l1, l2, l3, l4, l5] st h K ↔ tm_A d 162 26 [some (.ref v), l1, l2, l3, l4, l5] (.ref v :: st) h K := tm_s o162_25 rfl rfl rfl
theorem o162_26 : tm_op 162 26 = some (.aload_n 0, (0, 0, 0, 0)) := rfl
theorem r162_26 (d : Nat) (v : Nat) (l1 l2 l3 l4 l5 : Option Value) (st : List Value) (h : tm_H) (K : Option Value → tm_H → Prop) : tm_A d 162 26 [some (.ref v), l1, l2, l3, l4, l5] st h K ↔ tm_A d 162 27 [some (.ref v), l1, l2, l3, l4, l5] (.ref v :: st) h K := tm_s o162_26 rfl rfl rfl
theorem o162_27 : tm_op 162 27 = some (.getfield 62, (2, 10, 27, 0)) := rfl
theorem r162_27 (d : Nat) (a : Nat) (ls : tm_Lo) (st : List Value) (G : tm_G) (I : Nat → Nat → Int32) (J : Nat → Nat → Int64) (R : Nat → Nat → Option Nat) (K : Option Value → tm_H → Prop) : tm_A d 162 27 ls (.ref a :: st) (G, I, J, R) K ↔ G.2.2 a = (0, 10) ∧ tm_A d 162 30 ls (tm_rf (R a 27) :: st) (G, I, J, R) K := tm_getR o162_27
theorem o162_30 : tm_op 162 30 = some (.iload 4, (0, 0, 0, 0)) := rfl
theorem r162_30 (d : Nat) (v : Int32) (l0 l1 l2 l3 l5 : Option Value) (st : List Value) (h : tm_H) (K : Option Value → tm_H → Prop) : tm_A d 162 30 [l0, l1, l2, l3, some (.int v), l5] st h K ↔ tm_A d 162 32 [l0, l1, l2, l3, some (.int v), l5] (.int v :: st) h K := tm_s o162_30 rfl rfl rfl
theorem o162_32 : tm_op 162 32 = some (.iaload, (0, 0, 0, 0)) := rfl
theorem r162_32 (d : Nat) (v : Int32) (a : Nat) (ls : tm_Lo) (st : List Value) (G : tm_G) (I : Nat → Nat → Int32) (J : Nat → Nat → Int64) (R : Nat → Nat → Option Nat) (K : Option Value → tm_H → Prop) : tm_A d 162 32 ls (.int v :: .ref a :: st) (G, I, J, R) K ↔ ((G.2.2 a).1 = 1 ∧ tm_in v (G.2.2 a).2) ∧ tm_A d 162 33 ls (.int (I a (tm_ix v)) :: st) (G, I, J, R) K := tm_iald o162_32
theorem o162_33 : tm_op 162 33 = some (.iconst 2, (0, 0, 0, 0)) := rfl
theorem r162_33 (d : Nat) (ls : tm_Lo) (st : List Value) (h : tm_H) (K : Option Value → tm_H → Prop) : tm_A d 162 33 ls st h K ↔ tm_A d 162 34 ls (.int (2 : Int32) :: st) h K := tm_ic o162_33 (by decide)
theorem o162_34 : tm_op 162 34 = some (.invokevirtual 176, (2, 140, 3, 10)) := rfl
theorem r162_34 (d : Nat) (v1 : Int32) (v2 : Int32) (a : Nat) (ls : tm_Lo) (st : List Value) (h : tm_H) (K : Option Value → tm_H → Prop) : tm_A (d + 1) 162 34 ls (.int v2 :: .int v1 :: .ref a :: st) h K ↔ (h.1.2.2 a = (0, 10) ∧ tm_cs st) ∧ tm_R d 140 [.ref a, .int v1, .int v2] h (fun r h' => tm_A (d + 1) 162 37 ls (r.toList ++ st) h' K) := tm_callV (as := [.int v1, .int v2]) o162_34 rfl rfl rfl rfl
theorem o162_37 : tm_op 162 37 = some (.ifCond .eq 65, (0, 0, 0, 0)) := rfl
theorem r162_37 (d : Nat) (x : Int32) (ls : tm_Lo) (st : List Value) (h : tm_H) (K : Option Value → tm_H → Prop) : tm_A d 162 37 ls (.int x :: st) h K ↔ if x = 0 then tm_A d 162 102 ls st h K else tm_A d 162 40 ls st h K := tm_b o162_37 rfl rfl rfl rfl
theorem o162_40 : tm_op 162 40 = some (.iload_n 2, (0, 0, 0, 0)) := rfl
theorem r162_40 (d : Nat) (v : Int32) (l0 l1 l3 l4 l5 : Option Value) (st : List Value) (h : tm_H) (K : Option Value → tm_H → Prop) : tm_A d 162 40 [l0, l1, some (.int v), l3, l4, l5] st h K ↔ tm_A d 162 41 [l0, l1, some (.int v), l3, l4, l5] (.int v :: st) h K := tm_s o162_40 rfl rfl rfl
theorem o162_41 : tm_op 162 41 = some (.ifCond .eq 17, (0, 0, 0, 0)) := rfl
theorem r162_41 (d : Nat) (x : Int32) (ls : tm_Lo) (st : List Value) (h : tm_H) (K : Option Value → tm_H → Prop) : tm_A d 162 41 ls (.int x :: st) h K ↔ if x = 0 then tm_A d 162 58 ls st h K else tm_A d 162 44 ls st h K := tm_b o162_41 rfl rfl rfl rfl
theorem o162_44 : tm_op 162 44 = some (.aload_n 0, (0, 0, 0, 0)) := rfl
theorem r162_44 (d : Nat) (v : Nat) (l1 l2 l3 l4 l5 : Option Value) (st : List Value) (h : tm_H) (K : Option Value → tm_H → Prop) : tm_A d 162 44 [some (.ref v), l1, l2, l3, l4, l5] st h K ↔ tm_A d 162 45 [some (.ref v), l1, l2, l3, l4, l5] (.ref v :: st) h K := tm_s o162_44 rfl rfl rfl
theorem o162_45 : tm_op 162 45 = some (.aload_n 0, (0, 0, 0, 0)) := rfl
theorem r162_45 (d : Nat) (v : Nat) (l1 l2 l3 l4 l5 : Option Value) (st : List Value) (h : tm_H) (K : Option Value → tm_H → Prop) : tm_A d 162 45 [some (.ref v), l1, l2, l3, l4, l5] st h K ↔ tm_A d 162 46 [some (.ref v), l1, l2, l3, l4, l5] (.ref v :: st) h K := tm_s o162_45 rfl rfl rfl
theorem o162_46 : tm_op 162 46 = some (.getfield 62, (2, 10, 27, 0)) := rfl
theorem r162_46 (d : Nat) (a : Nat) (ls : tm_Lo) (st : List Value) (G : tm_G) (I : Nat → Nat → Int32) (J : Nat → Nat → Int64) (R : Nat → Nat → Option Nat) (K : Option Value → tm_H → Prop) : tm_A d 162 46 ls (.ref a :: st) (G, I, J, R) K ↔ G.2.2 a = (0, 10) ∧ tm_A d 162 49 ls (tm_rf (R a 27) :: st) (G, I, J, R) K := tm_getR o162_46
theorem o162_49 : tm_op 162 49 = some (.iload 4, (0, 0, 0, 0)) := rfl
theorem r162_49 (d : Nat) (v : Int32) (l0 l1 l2 l3 l5 : Option Value) (st : List Value) (h : tm_H) (K : Option Value → tm_H → Prop) : tm_A d 162 49 [l0, l1, l2, l3, some (.int v), l5] st h K ↔ tm_A d 162 51 [l0, l1, l2, l3, some (.int v), l5] (.int v :: st) h K := tm_s o162_49 rfl rfl rfl
theorem o162_51 : tm_op 162 51 = some (.iaload, (0, 0, 0, 0)) := rfl
theorem r162_51 (d : Nat) (v : Int32) (a : Nat) (ls : tm_Lo) (st : List Value) (G : tm_G) (I : Nat → Nat → Int32) (J : Nat → Nat → Int64) (R : Nat → Nat → Option Nat) (K : Option Value → tm_H → Prop) : tm_A d 162 51 ls (.int v :: .ref a :: st) (G, I, J, R) K ↔ ((G.2.2 a).1 = 1 ∧ tm_in v (G.2.2 a).2) ∧ tm_A d 162 52 ls (.int (I a (tm_ix v)) :: st) (G, I, J, R) K := tm_iald o162_51
theorem o162_52 : tm_op 162 52 = some (.invokevirtual 188, (2, 142, 2, 10)) := rfl
theorem r162_52 (d : Nat) (v1 : Int32) (a : Nat) (ls : tm_Lo) (st : List Value) (h : tm_H) (K : Option Value → tm_H → Prop) : tm_A (d + 1) 162 52 ls (.int v1 :: .ref a :: st) h K ↔ (h.1.2.2 a = (0, 10) ∧ tm_cs st) ∧ tm_R d 142 [.ref a, .int v1] h (fun r h' => tm_A (d + 1) 162 55 ls (r.toList ++ st) h' K) := tm_callV (as := [.int v1]) o162_52 rfl rfl rfl rfl
theorem o162_55 : tm_op 162 55 = some (.goto 15, (0, 0, 0, 0)) := rfl
theorem r162_55 (d : Nat) (ls : tm_Lo) (st : List Value) (h : tm_H) (K : Option Value → tm_H → Prop) : tm_A d 162 55 ls st h K ↔ tm_A d 162 70 ls st h K := tm_s o162_55 rfl rfl rfl
theorem o162_58 : tm_op 162 58 = some (.aload_n 0, (0, 0, 0, 0)) := rfl
theorem r162_58 (d : Nat) (v : Nat) (l1 l2 l3 l4 l5 : Option Value) (st : List Value) (h : tm_H) (K : Option Value → tm_H → Prop) : tm_A d 162 58 [some (.ref v), l1, l2, l3, l4, l5] st h K ↔ tm_A d 162 59 [some (.ref v), l1, l2, l3, l4, l5] (.ref v :: st) h K := tm_s o162_58 rfl rfl rfl
theorem o162_59 : tm_op 162 59 = some (.aload_n 0, (0, 0, 0, 0)) := rfl
theorem r162_59 (d : Nat) (v : Nat) (l1 l2 l3 l4 l5 : Option Value) (st : List Value) (h : tm_H) (K : Option Value → tm_H → Prop) : tm_A d 162 59 [some (.ref v), l1, l2, l3, l4, l5] st h K ↔ tm_A d 162 60 [some (.ref v), l1, l2, l3, l4, l5] (.ref v :: st) h K := tm_s o162_59 rfl rfl rfl
theorem o162_60 : tm_op 162 60 = some (.getfield 62, (2, 10, 27, 0)) := rfl
theorem r162_60 (d : Nat) (a : Nat) (ls : tm_Lo) (st : List Value) (G : tm_G) (I : Nat → Nat → Int32) (J : Nat → Nat → Int64) (R : Nat → Nat → Option Nat) (K : Option Value → tm_H → Prop) : tm_A d 162 60 ls (.ref a :: st) (G, I, J, R) K ↔ G.2.2 a = (0, 10) ∧ tm_A d 162 63 ls (tm_rf (R a 27) :: st) (G, I, J, R) K := tm_getR o162_60
theorem o162_63 : tm_op 162 63 = some (.iload 4, (0, 0, 0, 0)) := rfl
theorem r162_63 (d : Nat) (v : Int32) (l0 l1 l2 l3 l5 : Option Value) (st : List Value) (h : tm_H) (K : Option Value → tm_H → Prop) : tm_A d 162 63 [l0, l1, l2, l3, some (.int v), l5] st h K ↔ tm_A d 162 65 [l0, l1, l2, l3, some (.int v), l5] (.int v :: st) h K := tm_s o162_63 rfl rfl rfl
theorem o162_65 : tm_op 162 65 = some (.iaload, (0, 0, 0, 0)) := rfl
theorem r162_65 (d : Nat) (v : Int32) (a : Nat) (ls : tm_Lo) (st : List Value) (G : tm_G) (I : Nat → Nat → Int32) (J : Nat → Nat → Int64) (R : Nat → Nat → Option Nat) (K : Option Value → tm_H → Prop) : tm_A d 162 65 ls (.int v :: .ref a :: st) (G, I, J, R) K ↔ ((G.2.2 a).1 = 1 ∧ tm_in v (G.2.2 a).2) ∧ tm_A d 162 66 ls (.int (I a (tm_ix v)) :: st) (G, I, J, R) K := tm_iald o162_65
theorem o162_66 : tm_op 162 66 = some (.iconst 2, (0, 0, 0, 0)) := rfl
theorem r162_66 (d : Nat) (ls : tm_Lo) (st : List Value) (h : tm_H) (K : Option Value → tm_H → Prop) : tm_A d 162 66 ls st h K ↔ tm_A d 162 67 ls (.int (2 : Int32) :: st) h K := tm_ic o162_66 (by decide)
theorem o162_67 : tm_op 162 67 = some (.invokevirtual 179, (2, 141, 3, 10)) := rfl
theorem r162_67 (d : Nat) (v1 : Int32) (v2 : Int32) (a : Nat) (ls : tm_Lo) (st : List Value) (h : tm_H) (K : Option Value → tm_H → Prop) : tm_A (d + 1) 162 67 ls (.int v2 :: .int v1 :: .ref a :: st) h K ↔ (h.1.2.2 a = (0, 10) ∧ tm_cs st) ∧ tm_R d 141 [.ref a, .int v1, .int v2] h (fun r h' => tm_A (d + 1) 162 70 ls (r.toList ++ st) h' K) := tm_callV (as := [.int v1, .int v2]) o162_67 rfl rfl rfl rfl
theorem o162_70 : tm_op 162 70 = some (.istore 5, (0, 0, 0, 0)) := rfl
theorem r162_70 (d : Nat) (v : Int32) (l0 l1 l2 l3 l4 l5 : Option Value) (st : List Value) (h : tm_H) (K : Option Value → tm_H → Prop) : tm_A d 162 70 [l0, l1, l2, l3, l4, l5] (.int v :: st) h K ↔ tm_A d 162 72 [l0, l1, l2, l3, l4, some (.int v)] st h K := tm_s o162_70 rfl rfl rfl
theorem o162_72 : tm_op 162 72 = some (.iload_n 3, (0, 0, 0, 0)) := rfl
theorem r162_72 (d : Nat) (v : Int32) (l0 l1 l2 l4 l5 : Option Value) (st : List Value) (h : tm_H) (K : Option Value → tm_H → Prop) : tm_A d 162 72 [l0, l1, l2, some (.int v), l4, l5] st h K ↔ tm_A d 162 73 [l0, l1, l2, some (.int v), l4, l5] (.int v :: st) h K := tm_s o162_72 rfl rfl rfl
theorem o162_73 : tm_op 162 73 = some (.iconst (-1), (0, 0, 0, 0)) := rfl
theorem r162_73 (d : Nat) (ls : tm_Lo) (st : List Value) (h : tm_H) (K : Option Value → tm_H → Prop) : tm_A d 162 73 ls st h K ↔ tm_A d 162 74 ls (.int (-1 : Int32) :: st) h K := tm_ic o162_73 (by decide)
theorem o162_74 : tm_op 162 74 = some (.if_icmp .ne 8, (0, 0, 0, 0)) := rfl
theorem r162_74 (d : Nat) (y x : Int32) (ls : tm_Lo) (st : List Value) (h : tm_H) (K : Option Value → tm_H → Prop) : tm_A d 162 74 ls (.int y :: .int x :: st) h K ↔ if ¬ x = y then tm_A d 162 82 ls st h K else tm_A d 162 77 ls st h K := tm_b o162_74 rfl rfl rfl rfl
theorem o162_77 : tm_op 162 77 = some (.iload 5, (0, 0, 0, 0)) := rfl
theorem r162_77 (d : Nat) (v : Int32) (l0 l1 l2 l3 l4 : Option Value) (st : List Value) (h : tm_H) (K : Option Value → tm_H → Prop) : tm_A d 162 77 [l0, l1, l2, l3, l4, some (.int v)] st h K ↔ tm_A d 162 79 [l0, l1, l2, l3, l4, some (.int v)] (.int v :: st) h K := tm_s o162_77 rfl rfl rfl
theorem o162_79 : tm_op 162 79 = some (.goto 22, (0, 0, 0, 0)) := rfl
theorem r162_79 (d : Nat) (ls : tm_Lo) (st : List Value) (h : tm_H) (K : Option Value → tm_H → Prop) : tm_A d 162 79 ls st h K ↔ tm_A d 162 101 ls st h K := tm_s o162_79 rfl rfl rfl
theorem o162_82 : tm_op 162 82 = some (.iload_n 2, (0, 0, 0, 0)) := rfl
theorem r162_82 (d : Nat) (v : Int32) (l0 l1 l3 l4 l5 : Option Value) (st : List Value) (h : tm_H) (K : Option Value → tm_H → Prop) : tm_A d 162 82 [l0, l1, some (.int v), l3, l4, l5] st h K ↔ tm_A d 162 83 [l0, l1, some (.int v), l3, l4, l5] (.int v :: st) h K := tm_s o162_82 rfl rfl rfl
theorem o162_83 : tm_op 162 83 = some (.ifCond .eq 12, (0, 0, 0, 0)) := rfl
theorem r162_83 (d : Nat) (x : Int32) (ls : tm_Lo) (st : List Value) (h : tm_H) (K : Option Value → tm_H → Prop) : tm_A d 162 83 ls (.int x :: st) h K ↔ if x = 0 then tm_A d 162 95 ls st h K else tm_A d 162 86 ls st h K := tm_b o162_83 rfl rfl rfl rfl
theorem o162_86 : tm_op 162 86 = some (.iload_n 3, (0, 0, 0, 0)) := rfl
theorem r162_86 (d : Nat) (v : Int32) (l0 l1 l2 l4 l5 : Option Value) (st : List Value) (h : tm_H) (K : Option Value → tm_H → Prop) : tm_A d 162 86 [l0, l1, l2, some (.int v), l4, l5] st h K ↔ tm_A d 162 87 [l0, l1, l2, some (.int v), l4, l5] (.int v :: st) h K := tm_s o162_86 rfl rfl rfl
theorem o162_87 : tm_op 162 87 = some (.iload 5, (0, 0, 0, 0)) := rfl
theorem r162_87 (d : Nat) (v : Int32) (l0 l1 l2 l3 l4 : Option Value) (st : List Value) (h : tm_H) (K : Option Value → tm_H → Prop) : tm_A d 162 87 [l0, l1, l2, l3, l4, some (.int v)] st h K ↔ tm_A d 162 89 [l0, l1, l2, l3, l4, some (.int v)] (.int v :: st) h K := tm_s o162_87 rfl rfl rfl
theorem o162_89 : tm_op 162 89 = some (.invokestatic 224, (8, 0, 0, 0)) := rfl
theorem r162_89 (d : Nat) (v0 v1 : Int32) (ls : tm_Lo) (st : List Value) (h : tm_H) (K : Option Value → tm_H → Prop) : tm_A (d + 1) 162 89 ls (.int v1 :: .int v0 :: st) h K ↔ tm_cs st ∧ tm_A (d + 1) 162 92 ls (.int (if v1 < v0 then v1 else v0) :: st) h K := tm_min o162_89 rfl rfl
theorem o162_92 : tm_op 162 92 = some (.goto 9, (0, 0, 0, 0)) := rfl
theorem r162_92 (d : Nat) (ls : tm_Lo) (st : List Value) (h : tm_H) (K : Option Value → tm_H → Prop) : tm_A d 162 92 ls st h K ↔ tm_A d 162 101 ls st h K := tm_s o162_92 rfl rfl rfl
theorem o162_95 : tm_op 162 95 = some (.iload_n 3, (0, 0, 0, 0)) := rfl
theorem r162_95 (d : Nat) (v : Int32) (l0 l1 l2 l4 l5 : Option Value) (st : List Value) (h : tm_H) (K : Option Value → tm_H → Prop) : tm_A d 162 95 [l0, l1, l2, some (.int v), l4, l5] st h K ↔ tm_A d 162 96 [l0, l1, l2, some (.int v), l4, l5] (.int v :: st) h K := tm_s o162_95 rfl rfl rfl
theorem o162_96 : tm_op 162 96 = some (.iload 5, (0, 0, 0, 0)) := rfl
theorem r162_96 (d : Nat) (v : Int32) (l0 l1 l2 l3 l4 : Option Value) (st : List Value) (h : tm_H) (K : Option Value → tm_H → Prop) : tm_A d 162 96 [l0, l1, l2, l3, l4, some (.int v)] st h K ↔ tm_A d 162 98 [l0, l1, l2, l3, l4, some (.int v)] (.int v :: st) h K := tm_s o162_96 rfl rfl rfl
theorem o162_98 : tm_op 162 98 = some (.invokestatic 227, (7, 0, 0, 0)) := rfl
theorem r162_98 (d : Nat) (v0 v1 : Int32) (ls : tm_Lo) (st : List Value) (h : tm_H) (K : Option Value → tm_H → Prop) : tm_A (d + 1) 162 98 ls (.int v1 :: .int v0 :: st) h K ↔ tm_cs st ∧ tm_A (d + 1) 162 101 ls (.int (if v0 < v1 then v1 else v0) :: st) h K := tm_max o162_98 rfl rfl
theorem o162_101 : tm_op 162 101 = some (.istore_n 3, (0, 0, 0, 0)) := rfl
theorem r162_101 (d : Nat) (v : Int32) (l0 l1 l2 l3 l4 l5 : Option Value) (st : List Value) (h : tm_H) (K : Option Value → tm_H → Prop) : tm_A d 162 101 [l0, l1, l2, l3, l4, l5] (.int v :: st) h K ↔ tm_A d 162 102 [l0, l1, l2, some (.int v), l4, l5] st h K := tm_s o162_101 rfl rfl rfl
theorem o162_102 : tm_op 162 102 = some (.iinc 4 1, (0, 0, 0, 0)) := rfl
theorem r162_102 (d : Nat) (v : Int32) (l0 l1 l2 l3 l5 : Option Value) (st : List Value) (h : tm_H) (K : Option Value → tm_H → Prop) : tm_A d 162 102 [l0, l1, l2, l3, some (.int v), l5] st h K ↔ tm_A d 162 105 [l0, l1, l2, l3, some (.int (v + (1 : Int32))), l5] st h K := tm_s o162_102 rfl rfl rfl
theorem o162_105 : tm_op 162 105 = some (.goto (-100), (0, 0, 0, 0)) := rfl
theorem r162_105 (d : Nat) (ls : tm_Lo) (st : List Value) (h : tm_H) (K : Option Value → tm_H → Prop) : tm_A d 162 105 ls st h K ↔ tm_A d 162 5 ls st h K := tm_s o162_105 rfl rfl rfl
theorem o162_108 : tm_op 162 108 = some (.iload_n 3, (0, 0, 0, 0)) := rfl
theorem r162_108 (d : Nat) (v : Int32) (l0 l1 l2 l4 l5 : Option Value) (st : List Value) (h : tm_H) (K : Option Value → tm_H → Prop) : tm_A d 162 108 [l0, l1, l2, some (.int v), l4, l5] st h K ↔ tm_A d 162 109 [l0, l1, l2, some (.int v), l4, l5] (.int v :: st) h K := tm_s o162_108 rfl rfl rfl
theorem o162_109 : tm_op 162 109 = some (.ireturn, (0, 0, 0, 0)) := rfl
theorem r162_109 (d : Nat) (v : Int32) (ls : tm_Lo) (h : tm_H) (K : Option Value → tm_H → Prop) : tm_A d 162 109 ls [.int v] h K ↔ K (some (.int v)) h := tm_reti o162_109 rfl
theorem o163_0 : tm_op 163 0 = some (.aload_n 0, (0, 0, 0, 0)) := rfl
theorem r163_0 (d : Nat) (v : Nat) (l1 l2 l3 l4 l5 l6 : Option Value) (st : List Value) (h : tm_H) (K : Option Value → tm_H → Prop) : tm_A d 163 0 [some (.ref v), l1, l2, l3, l4, l5, l6] st h K ↔ tm_A d 163 1 [some (.ref v), l1, l2, l3, l4, l5, l6] (.ref v :: st) h K := tm_s o163_0 rfl rfl rfl
theorem o163_1 : tm_op 163 1 = some (.iload_n 1, (0, 0, 0, 0)) := rfl
theorem r163_1 (d : Nat) (v : Int32) (l0 l2 l3 l4 l5 l6 : Option Value) (st : List Value) (h : tm_H) (K : Option Value → tm_H → Prop) : tm_A d 163 1 [l0, some (.int v), l2, l3, l4, l5, l6] st h K ↔ tm_A d 163 2 [l0, some (.int v), l2, l3, l4, l5, l6] (.int v :: st) h K := tm_s o163_1 rfl rfl rfl
theorem o163_2 : tm_op 163 2 = some (.iload_n 3, (0, 0, 0, 0)) := rfl
theorem r163_2 (d : Nat) (v : Int32) (l0 l1 l2 l4 l5 l6 : Option Value) (st : List Value) (h : tm_H) (K : Option Value → tm_H → Prop) : tm_A d 163 2 [l0, l1, l2, some (.int v), l4, l5, l6] st h K ↔ tm_A d 163 3 [l0, l1, l2, some (.int v), l4, l5, l6] (.int v :: st) h K := tm_s o163_2 rfl rfl rfl
theorem o163_3 : tm_op 163 3 = some (.invokevirtual 166, (2, 138, 3, 10)) := rfl
theorem r163_3 (d : Nat) (v1 : Int32) (v2 : Int32) (a : Nat) (ls : tm_Lo) (st : List Value) (h : tm_H) (K : Option Value → tm_H → Prop) : tm_A (d + 1) 163 3 ls (.int v2 :: .int v1 :: .ref a :: st) h K ↔ (h.1.2.2 a = (0, 10) ∧ tm_cs st) ∧ tm_R d 138 [.ref a, .int v1, .int v2] h (fun r h' => tm_A (d + 1) 163 6 ls (r.toList ++ st) h' K) := tm_callV (as := [.int v1, .int v2]) o163_3 rfl rfl rfl rfl
theorem o163_6 : tm_op 163 6 = some (.ifCond .eq 11, (0, 0, 0, 0)) := rfl
theorem r163_6 (d : Nat) (x : Int32) (ls : tm_Lo) (st : List Value) (h : tm_H) (K : Option Value → tm_H → Prop) : tm_A d 163 6 ls (.int x :: st) h K ↔ if x = 0 then tm_A d 163 17 ls st h K else tm_A d 163 9 ls st h K := tm_b o163_6 rfl rfl rfl rfl
theorem o163_9 : tm_op 163 9 = some (.aload_n 0, (0, 0, 0, 0)) := rfl
theorem r163_9 (d : Nat) (v : Nat) (l1 l2 l3 l4 l5 l6 : Option Value) (st : List Value) (h : tm_H) (K : Option Value → tm_H → Prop) : tm_A d 163 9 [some (.ref v), l1, l2, l3, l4, l5, l6] st h K ↔ tm_A d 163 10 [some (.ref v), l1, l2, l3, l4, l5, l6] (.ref v :: st) h K := tm_s o163_9 rfl rfl rfl
theorem o163_10 : tm_op 163 10 = some (.iload_n 3, (0, 0, 0, 0)) := rfl
theorem r163_10 (d : Nat) (v : Int32) (l0 l1 l2 l4 l5 l6 : Option Value) (st : List Value) (h : tm_H) (K : Option Value → tm_H → Prop) : tm_A d 163 10 [l0, l1, l2, some (.int v), l4, l5, l6] st h K ↔ tm_A d 163 11 [l0, l1, l2, some (.int v), l4, l5, l6] (.int v :: st) h K := tm_s o163_10 rfl rfl rfl
theorem o163_11 : tm_op 163 11 = some (.invokevirtual 218, (2, 156, 2, 10)) := rfl
theorem r163_11 (d : Nat) (v1 : Int32) (a : Nat) (ls : tm_Lo) (st : List Value) (h : tm_H) (K : Option Value → tm_H → Prop) : tm_A (d + 1) 163 11 ls (.int v1 :: .ref a :: st) h K ↔ (h.1.2.2 a = (0, 10) ∧ tm_cs st) ∧ tm_R d 156 [.ref a, .int v1] h (fun r h' => tm_A (d + 1) 163 14 ls (r.toList ++ st) h' K) := tm_callV (as := [.int v1]) o163_11 rfl rfl rfl rfl
theorem o163_14 : tm_op 163 14 = some (.ifCond .ne 5, (0, 0, 0, 0)) := rfl
theorem r163_14 (d : Nat) (x : Int32) (ls : tm_Lo) (st : List Value) (h : tm_H) (K : Option Value → tm_H → Prop) : tm_A d 163 14 ls (.int x :: st) h K ↔ if ¬ x = 0 then tm_A d 163 19 ls st h K else tm_A d 163 17 ls st h K := tm_b o163_14 rfl rfl rfl rfl
theorem o163_17 : tm_op 163 17 = some (.iconst (-1), (0, 0, 0, 0)) := rfl
theorem r163_17 (d : Nat) (ls : tm_Lo) (st : List Value) (h : tm_H) (K : Option Value → tm_H → Prop) : tm_A d 163 17 ls st h K ↔ tm_A d 163 18 ls (.int (-1 : Int32) :: st) h K := tm_ic o163_17 (by decide)
theorem o163_18 : tm_op 163 18 = some (.ireturn, (0, 0, 0, 0)) := rfl
theorem r163_18 (d : Nat) (v : Int32) (ls : tm_Lo) (h : tm_H) (K : Option Value → tm_H → Prop) : tm_A d 163 18 ls [.int v] h K ↔ K (some (.int v)) h := tm_reti o163_18 rfl
theorem o163_19 : tm_op 163 19 = some (.aload_n 0, (0, 0, 0, 0)) := rfl
theorem r163_19 (d : Nat) (v : Nat) (l1 l2 l3 l4 l5 l6 : Option Value) (st : List Value) (h : tm_H) (K : Option Value → tm_H → Prop) : tm_A d 163 19 [some (.ref v), l1, l2, l3, l4, l5, l6] st h K ↔ tm_A d 163 20 [some (.ref v), l1, l2, l3, l4, l5, l6] (.ref v :: st) h K := tm_s o163_19 rfl rfl rfl
theorem o163_20 : tm_op 163 20 = some (.getfield 74, (2, 10, 31, 0)) := rfl
theorem r163_20 (d : Nat) (a : Nat) (ls : tm_Lo) (st : List Value) (G : tm_G) (I : Nat → Nat → Int32) (J : Nat → Nat → Int64) (R : Nat → Nat → Option Nat) (K : Option Value → tm_H → Prop) : tm_A d 163 20 ls (.ref a :: st) (G, I, J, R) K ↔ G.2.2 a = (0, 10) ∧ tm_A d 163 23 ls (tm_rf (R a 31) :: st) (G, I, J, R) K := tm_getR o163_20
theorem o163_23 : tm_op 163 23 = some (.aload_n 0, (0, 0, 0, 0)) := rfl
theorem r163_23 (d : Nat) (v : Nat) (l1 l2 l3 l4 l5 l6 : Option Value) (st : List Value) (h : tm_H) (K : Option Value → tm_H → Prop) : tm_A d 163 23 [some (.ref v), l1, l2, l3, l4, l5, l6] st h K ↔ tm_A d 163 24 [some (.ref v), l1, l2, l3, l4, l5, l6] (.ref v :: st) h K := tm_s o163_23 rfl rfl rfl
theorem o163_24 : tm_op 163 24 = some (.iload_n 1, (0, 0, 0, 0)) := rfl
theorem r163_24 (d : Nat) (v : Int32) (l0 l2 l3 l4 l5 l6 : Option Value) (st : List Value) (h : tm_H) (K : Option Value → tm_H → Prop) : tm_A d 163 24 [l0, some (.int v), l2, l3, l4, l5, l6] st h K ↔ tm_A d 163 25 [l0, some (.int v), l2, l3, l4, l5, l6] (.int v :: st) h K := tm_s o163_24 rfl rfl rfl
theorem o163_25 : tm_op 163 25 = some (.invokevirtual 221, (2, 157, 2, 10)) := rfl
theorem r163_25 (d : Nat) (v1 : Int32) (a : Nat) (ls : tm_Lo) (st : List Value) (h : tm_H) (K : Option Value → tm_H → Prop) : tm_A (d + 1) 163 25 ls (.int v1 :: .ref a :: st) h K ↔ (h.1.2.2 a = (0, 10) ∧ tm_cs st) ∧ tm_R d 157 [.ref a, .int v1] h (fun r h' => tm_A (d + 1) 163 28 ls (r.toList ++ st) h' K) := tm_callV (as := [.int v1]) o163_25 rfl rfl rfl rfl
theorem o163_28 : tm_op 163 28 = some (.iaload, (0, 0, 0, 0)) := rfl
theorem r163_28 (d : Nat) (v : Int32) (a : Nat) (ls : tm_Lo) (st : List Value) (G : tm_G) (I : Nat → Nat → Int32) (J : Nat → Nat → Int64) (R : Nat → Nat → Option Nat) (K : Option Value → tm_H → Prop) : tm_A d 163 28 ls (.int v :: .ref a :: st) (G, I, J, R) K ↔ ((G.2.2 a).1 = 1 ∧ tm_in v (G.2.2 a).2) ∧ tm_A d 163 29 ls (.int (I a (tm_ix v)) :: st) (G, I, J, R) K := tm_iald o163_28
theorem o163_29 : tm_op 163 29 = some (.istore 4, (0, 0, 0, 0)) := rfl
theorem r163_29 (d : Nat) (v : Int32) (l0 l1 l2 l3 l4 l5 l6 : Option Value) (st : List Value) (h : tm_H) (K : Option Value → tm_H → Prop) : tm_A d 163 29 [l0, l1, l2, l3, l4, l5, l6] (.int v :: st) h K ↔ tm_A d 163 31 [l0, l1, l2, l3, some (.int v), l5, l6] st h K := tm_s o163_29 rfl rfl rfl
theorem o163_31 : tm_op 163 31 = some (.iconst 0, (0, 0, 0, 0)) := rfl
theorem r163_31 (d : Nat) (ls : tm_Lo) (st : List Value) (h : tm_H) (K : Option Value → tm_H → Prop) : tm_A d 163 31 ls st h K ↔ tm_A d 163 32 ls (.int (0 : Int32) :: st) h K := tm_ic o163_31 (by decide)
theorem o163_32 : tm_op 163 32 = some (.istore 5, (0, 0, 0, 0)) := rfl
theorem r163_32 (d : Nat) (v : Int32) (l0 l1 l2 l3 l4 l5 l6 : Option Value) (st : List Value) (h : tm_H) (K : Option Value → tm_H → Prop) : tm_A d 163 32 [l0, l1, l2, l3, l4, l5, l6] (.int v :: st) h K ↔ tm_A d 163 34 [l0, l1, l2, l3, l4, some (.int v), l6] st h K := tm_s o163_32 rfl rfl rfl
theorem o163_34 : tm_op 163 34 = some (.iconst 0, (0, 0, 0, 0)) := rfl
theorem r163_34 (d : Nat) (ls : tm_Lo) (st : List Value) (h : tm_H) (K : Option Value → tm_H → Prop) : tm_A d 163 34 ls st h K ↔ tm_A d 163 35 ls (.int (0 : Int32) :: st) h K := tm_ic o163_34 (by decide)
theorem o163_35 : tm_op 163 35 = some (.istore 6, (0, 0, 0, 0)) := rfl
theorem r163_35 (d : Nat) (v : Int32) (l0 l1 l2 l3 l4 l5 l6 : Option Value) (st : List Value) (h : tm_H) (K : Option Value → tm_H → Prop) : tm_A d 163 35 [l0, l1, l2, l3, l4, l5, l6] (.int v :: st) h K ↔ tm_A d 163 37 [l0, l1, l2, l3, l4, l5, some (.int v)] st h K := tm_s o163_35 rfl rfl rfl
theorem o163_37 : tm_op 163 37 = some (.iload 6, (0, 0, 0, 0)) := rfl
theorem r163_37 (d : Nat) (v : Int32) (l0 l1 l2 l3 l4 l5 : Option Value) (st : List Value) (h : tm_H) (K : Option Value → tm_H → Prop) : tm_A d 163 37 [l0, l1, l2, l3, l4, l5, some (.int v)] st h K ↔ tm_A d 163 39 [l0, l1, l2, l3, l4, l5, some (.int v)] (.int v :: st) h K := tm_s o163_37 rfl rfl rfl
theorem o163_39 : tm_op 163 39 = some (.aload_n 0, (0, 0, 0, 0)) := rfl
theorem r163_39 (d : Nat) (v : Nat) (l1 l2 l3 l4 l5 l6 : Option Value) (st : List Value) (h : tm_H) (K : Option Value → tm_H → Prop) : tm_A d 163 39 [some (.ref v), l1, l2, l3, l4, l5, l6] st h K ↔ tm_A d 163 40 [some (.ref v), l1, l2, l3, l4, l5, l6] (.ref v :: st) h K := tm_s o163_39 rfl rfl rfl
theorem o163_40 : tm_op 163 40 = some (.getfield 159, (0, 10, 26, 0)) := rfl
theorem r163_40 (d : Nat) (a : Nat) (ls : tm_Lo) (st : List Value) (G : tm_G) (I : Nat → Nat → Int32) (J : Nat → Nat → Int64) (R : Nat → Nat → Option Nat) (K : Option Value → tm_H → Prop) : tm_A d 163 40 ls (.ref a :: st) (G, I, J, R) K ↔ G.2.2 a = (0, 10) ∧ tm_A d 163 43 ls (.int (I a 26) :: st) (G, I, J, R) K := tm_getI o163_40
theorem o163_43 : tm_op 163 43 = some (.if_icmp .ge 31, (0, 0, 0, 0)) := rfl
theorem r163_43 (d : Nat) (y x : Int32) (ls : tm_Lo) (st : List Value) (h : tm_H) (K : Option Value → tm_H → Prop) : tm_A d 163 43 ls (.int y :: .int x :: st) h K ↔ if y ≤ x then tm_A d 163 74 ls st h K else tm_A d 163 46 ls st h K := tm_b o163_43 rfl rfl rfl rfl
theorem o163_46 : tm_op 163 46 = some (.iload 5, (0, 0, 0, 0)) := rfl
theorem r163_46 (d : Nat) (v : Int32) (l0 l1 l2 l3 l4 l6 : Option Value) (st : List Value) (h : tm_H) (K : Option Value → tm_H → Prop) : tm_A d 163 46 [l0, l1, l2, l3, l4, some (.int v), l6] st h K ↔ tm_A d 163 48 [l0, l1, l2, l3, l4, some (.int v), l6] (.int v :: st) h K := tm_s o163_46 rfl rfl rfl
theorem o163_48 : tm_op 163 48 = some (.aload_n 0, (0, 0, 0, 0)) := rfl
theorem r163_48 (d : Nat) (v : Nat) (l1 l2 l3 l4 l5 l6 : Option Value) (st : List Value) (h : tm_H) (K : Option Value → tm_H → Prop) : tm_A d 163 48 [some (.ref v), l1, l2, l3, l4, l5, l6] st h K ↔ tm_A d 163 49 [some (.ref v), l1, l2, l3, l4, l5, l6] (.ref v :: st) h K := tm_s o163_48 rfl rfl rfl
theorem o163_49 : tm_op 163 49 = some (.getfield 74, (2, 10, 31, 0)) := rfl
theorem r163_49 (d : Nat) (a : Nat) (ls : tm_Lo) (st : List Value) (G : tm_G) (I : Nat → Nat → Int32) (J : Nat → Nat → Int64) (R : Nat → Nat → Option Nat) (K : Option Value → tm_H → Prop) : tm_A d 163 49 ls (.ref a :: st) (G, I, J, R) K ↔ G.2.2 a = (0, 10) ∧ tm_A d 163 52 ls (tm_rf (R a 31) :: st) (G, I, J, R) K := tm_getR o163_49
theorem o163_52 : tm_op 163 52 = some (.iload 6, (0, 0, 0, 0)) := rfl
theorem r163_52 (d : Nat) (v : Int32) (l0 l1 l2 l3 l4 l5 : Option Value) (st : List Value) (h : tm_H) (K : Option Value → tm_H → Prop) : tm_A d 163 52 [l0, l1, l2, l3, l4, l5, some (.int v)] st h K ↔ tm_A d 163 54 [l0, l1, l2, l3, l4, l5, some (.int v)] (.int v :: st) h K := tm_s o163_52 rfl rfl rfl
theorem o163_54 : tm_op 163 54 = some (.iaload, (0, 0, 0, 0)) := rfl
theorem r163_54 (d : Nat) (v : Int32) (a : Nat) (ls : tm_Lo) (st : List Value) (G : tm_G) (I : Nat → Nat → Int32) (J : Nat → Nat → Int64) (R : Nat → Nat → Option Nat) (K : Option Value → tm_H → Prop) : tm_A d 163 54 ls (.int v :: .ref a :: st) (G, I, J, R) K ↔ ((G.2.2 a).1 = 1 ∧ tm_in v (G.2.2 a).2) ∧ tm_A d 163 55 ls (.int (I a (tm_ix v)) :: st) (G, I, J, R) K := tm_iald o163_54
theorem o163_55 : tm_op 163 55 = some (.iload 4, (0, 0, 0, 0)) := rfl
theorem r163_55 (d : Nat) (v : Int32) (l0 l1 l2 l3 l5 l6 : Option Value) (st : List Value) (h : tm_H) (K : Option Value → tm_H → Prop) : tm_A d 163 55 [l0, l1, l2, l3, some (.int v), l5, l6] st h K ↔ tm_A d 163 57 [l0, l1, l2, l3, some (.int v), l5, l6] (.int v :: st) h K := tm_s o163_55 rfl rfl rfl
theorem o163_57 : tm_op 163 57 = some (.if_icmp .ne 7, (0, 0, 0, 0)) := rfl
theorem r163_57 (d : Nat) (y x : Int32) (ls : tm_Lo) (st : List Value) (h : tm_H) (K : Option Value → tm_H → Prop) : tm_A d 163 57 ls (.int y :: .int x :: st) h K ↔ if ¬ x = y then tm_A d 163 64 ls st h K else tm_A d 163 60 ls st h K := tm_b o163_57 rfl rfl rfl rfl
theorem o163_60 : tm_op 163 60 = some (.iconst 1, (0, 0, 0, 0)) := rfl
theorem r163_60 (d : Nat) (ls : tm_Lo) (st : List Value) (h : tm_H) (K : Option Value → tm_H → Prop) : tm_A d 163 60 ls st h K ↔ tm_A d 163 61 ls (.int (1 : Int32) :: st) h K := tm_ic o163_60 (by decide)
theorem o163_61 : tm_op 163 61 = some (.goto 4, (0, 0, 0, 0)) := rfl
theorem r163_61 (d : Nat) (ls : tm_Lo) (st : List Value) (h : tm_H) (K : Option Value → tm_H → Prop) : tm_A d 163 61 ls st h K ↔ tm_A d 163 65 ls st h K := tm_s o163_61 rfl rfl rfl
theorem o163_64 : tm_op 163 64 = some (.iconst 0, (0, 0, 0, 0)) := rfl
theorem r163_64 (d : Nat) (ls : tm_Lo) (st : List Value) (h : tm_H) (K : Option Value → tm_H → Prop) : tm_A d 163 64 ls st h K ↔ tm_A d 163 65 ls (.int (0 : Int32) :: st) h K := tm_ic o163_64 (by decide)
theorem o163_65 : tm_op 163 65 = some (.iadd, (0, 0, 0, 0)) := rfl
theorem r163_65 (d : Nat) (u v : Int32) (ls : tm_Lo) (st : List Value) (h : tm_H) (K : Option Value → tm_H → Prop) : tm_A d 163 65 ls (.int u :: .int v :: st) h K ↔ tm_A d 163 66 ls (.int (v + u) :: st) h K := tm_s o163_65 rfl rfl rfl
theorem o163_66 : tm_op 163 66 = some (.istore 5, (0, 0, 0, 0)) := rfl
theorem r163_66 (d : Nat) (v : Int32) (l0 l1 l2 l3 l4 l5 l6 : Option Value) (st : List Value) (h : tm_H) (K : Option Value → tm_H → Prop) : tm_A d 163 66 [l0, l1, l2, l3, l4, l5, l6] (.int v :: st) h K ↔ tm_A d 163 68 [l0, l1, l2, l3, l4, some (.int v), l6] st h K := tm_s o163_66 rfl rfl rfl
theorem o163_68 : tm_op 163 68 = some (.iinc 6 1, (0, 0, 0, 0)) := rfl
theorem r163_68 (d : Nat) (v : Int32) (l0 l1 l2 l3 l4 l5 : Option Value) (st : List Value) (h : tm_H) (K : Option Value → tm_H → Prop) : tm_A d 163 68 [l0, l1, l2, l3, l4, l5, some (.int v)] st h K ↔ tm_A d 163 71 [l0, l1, l2, l3, l4, l5, some (.int (v + (1 : Int32)))] st h K := tm_s o163_68 rfl rfl rfl
theorem o163_71 : tm_op 163 71 = some (.goto (-34), (0, 0, 0, 0)) := rfl
theorem r163_71 (d : Nat) (ls : tm_Lo) (st : List Value) (h : tm_H) (K : Option Value → tm_H → Prop) : tm_A d 163 71 ls st h K ↔ tm_A d 163 37 ls st h K := tm_s o163_71 rfl rfl rfl
theorem o163_74 : tm_op 163 74 = some (.aload_n 0, (0, 0, 0, 0)) := rfl
theorem r163_74 (d : Nat) (v : Nat) (l1 l2 l3 l4 l5 l6 : Option Value) (st : List Value) (h : tm_H) (K : Option Value → tm_H → Prop) : tm_A d 163 74 [some (.ref v), l1, l2, l3, l4, l5, l6] st h K ↔ tm_A d 163 75 [some (.ref v), l1, l2, l3, l4, l5, l6] (.ref v :: st) h K := tm_s o163_74 rfl rfl rfl
theorem o163_75 : tm_op 163 75 = some (.iload 4, (0, 0, 0, 0)) := rfl
theorem r163_75 (d : Nat) (v : Int32) (l0 l1 l2 l3 l5 l6 : Option Value) (st : List Value) (h : tm_H) (K : Option Value → tm_H → Prop) : tm_A d 163 75 [l0, l1, l2, l3, some (.int v), l5, l6] st h K ↔ tm_A d 163 77 [l0, l1, l2, l3, some (.int v), l5, l6] (.int v :: st) h K := tm_s o163_75 rfl rfl rfl
theorem o163_77 : tm_op 163 77 = some (.iconst 0, (0, 0, 0, 0)) := rfl
theorem r163_77 (d : Nat) (ls : tm_Lo) (st : List Value) (h : tm_H) (K : Option Value → tm_H → Prop) : tm_A d 163 77 ls st h K ↔ tm_A d 163 78 ls (.int (0 : Int32) :: st) h K := tm_ic o163_77 (by decide)
theorem o163_78 : tm_op 163 78 = some (.invokevirtual 230, (2, 162, 3, 10)) := rfl
theorem r163_78 (d : Nat) (v1 : Int32) (v2 : Int32) (a : Nat) (ls : tm_Lo) (st : List Value) (h : tm_H) (K : Option Value → tm_H → Prop) : tm_A (d + 1) 163 78 ls (.int v2 :: .int v1 :: .ref a :: st) h K ↔ (h.1.2.2 a = (0, 10) ∧ tm_cs st) ∧ tm_R d 162 [.ref a, .int v1, .int v2] h (fun r h' => tm_A (d + 1) 163 81 ls (r.toList ++ st) h' K) := tm_callV (as := [.int v1, .int v2]) o163_78 rfl rfl rfl rfl
theorem o163_81 : tm_op 163 81 = some (.aload_n 0, (0, 0, 0, 0)) := rfl
theorem r163_81 (d : Nat) (v : Nat) (l1 l2 l3 l4 l5 l6 : Option Value) (st : List Value) (h : tm_H) (K : Option Value → tm_H → Prop) : tm_A d 163 81 [some (.ref v), l1, l2, l3, l4, l5, l6] st h K ↔ tm_A d 163 82 [some (.ref v), l1, l2, l3, l4, l5, l6] (.ref v :: st) h K := tm_s o163_81 rfl rfl rfl
theorem o163_82 : tm_op 163 82 = some (.iload 4, (0, 0, 0, 0)) := rfl
theorem r163_82 (d : Nat) (v : Int32) (l0 l1 l2 l3 l5 l6 : Option Value) (st : List Value) (h : tm_H) (K : Option Value → tm_H → Prop) : tm_A d 163 82 [l0, l1, l2, l3, some (.int v), l5, l6] st h K ↔ tm_A d 163 84 [l0, l1, l2, l3, some (.int v), l5, l6] (.int v :: st) h K := tm_s o163_82 rfl rfl rfl
theorem o163_84 : tm_op 163 84 = some (.iconst 1, (0, 0, 0, 0)) := rfl
theorem r163_84 (d : Nat) (ls : tm_Lo) (st : List Value) (h : tm_H) (K : Option Value → tm_H → Prop) : tm_A d 163 84 ls st h K ↔ tm_A d 163 85 ls (.int (1 : Int32) :: st) h K := tm_ic o163_84 (by decide)
theorem o163_85 : tm_op 163 85 = some (.invokevirtual 230, (2, 162, 3, 10)) := rfl
theorem r163_85 (d : Nat) (v1 : Int32) (v2 : Int32) (a : Nat) (ls : tm_Lo) (st : List Value) (h : tm_H) (K : Option Value → tm_H → Prop) : tm_A (d + 1) 163 85 ls (.int v2 :: .int v1 :: .ref a :: st) h K ↔ (h.1.2.2 a = (0, 10) ∧ tm_cs st) ∧ tm_R d 162 [.ref a, .int v1, .int v2] h (fun r h' => tm_A (d + 1) 163 88 ls (r.toList ++ st) h' K) := tm_callV (as := [.int v1, .int v2]) o163_85 rfl rfl rfl rfl
theorem o163_88 : tm_op 163 88 = some (.if_icmp .le 7, (0, 0, 0, 0)) := rfl
theorem r163_88 (d : Nat) (y x : Int32) (ls : tm_Lo) (st : List Value) (h : tm_H) (K : Option Value → tm_H → Prop) : tm_A d 163 88 ls (.int y :: .int x :: st) h K ↔ if x ≤ y then tm_A d 163 95 ls st h K else tm_A d 163 91 ls st h K := tm_b o163_88 rfl rfl rfl rfl
theorem o163_91 : tm_op 163 91 = some (.iconst 1, (0, 0, 0, 0)) := rfl
theorem r163_91 (d : Nat) (ls : tm_Lo) (st : List Value) (h : tm_H) (K : Option Value → tm_H → Prop) : tm_A d 163 91 ls st h K ↔ tm_A d 163 92 ls (.int (1 : Int32) :: st) h K := tm_ic o163_91 (by decide)
theorem o163_92 : tm_op 163 92 = some (.goto 4, (0, 0, 0, 0)) := rfl
theorem r163_92 (d : Nat) (ls : tm_Lo) (st : List Value) (h : tm_H) (K : Option Value → tm_H → Prop) : tm_A d 163 92 ls st h K ↔ tm_A d 163 96 ls st h K := tm_s o163_92 rfl rfl rfl
theorem o163_95 : tm_op 163 95 = some (.iconst 0, (0, 0, 0, 0)) := rfl
theorem r163_95 (d : Nat) (ls : tm_Lo) (st : List Value) (h : tm_H) (K : Option Value → tm_H → Prop) : tm_A d 163 95 ls st h K ↔ tm_A d 163 96 ls (.int (0 : Int32) :: st) h K := tm_ic o163_95 (by decide)
theorem o163_96 : tm_op 163 96 = some (.istore 6, (0, 0, 0, 0)) := rfl
theorem r163_96 (d : Nat) (v : Int32) (l0 l1 l2 l3 l4 l5 l6 : Option Value) (st : List Value) (h : tm_H) (K : Option Value → tm_H → Prop) : tm_A d 163 96 [l0, l1, l2, l3, l4, l5, l6] (.int v :: st) h K ↔ tm_A d 163 98 [l0, l1, l2, l3, l4, l5, some (.int v)] st h K := tm_s o163_96 rfl rfl rfl
theorem o163_98 : tm_op 163 98 = some (.iload_n 2, (0, 0, 0, 0)) := rfl
theorem r163_98 (d : Nat) (v : Int32) (l0 l1 l3 l4 l5 l6 : Option Value) (st : List Value) (h : tm_H) (K : Option Value → tm_H → Prop) : tm_A d 163 98 [l0, l1, some (.int v), l3, l4, l5, l6] st h K ↔ tm_A d 163 99 [l0, l1, some (.int v), l3, l4, l5, l6] (.int v :: st) h K := tm_s o163_98 rfl rfl rfl
theorem o163_99 : tm_op 163 99 = some (.tableswitch 115 0 6 #[41, 49, 57, 75, 93, 101, 104], (41, 0, 0, 0)) := rfl
theorem r163_99 (d : Nat) (v : Int32) (ls : tm_Lo) (st : List Value) (h : tm_H) (K : Option Value → tm_H → Prop) : tm_A d 163 99 ls (.int v :: st) h K ↔ tm_A d 163 (tm_tsw (115) (0) (6) #[41, 49, 57, 75, 93, 101, 104] 99 v) ls st h K := tm_s o163_99 rfl rfl rfl
theorem o163_140 : tm_op 163 140 = some (.aload_n 0, (0, 0, 0, 0)) := rfl
theorem r163_140 (d : Nat) (v : Nat) (l1 l2 l3 l4 l5 l6 : Option Value) (st : List Value) (h : tm_H) (K : Option Value → tm_H → Prop) : tm_A d 163 140 [some (.ref v), l1, l2, l3, l4, l5, l6] st h K ↔ tm_A d 163 141 [some (.ref v), l1, l2, l3, l4, l5, l6] (.ref v :: st) h K := tm_s o163_140 rfl rfl rfl
theorem o163_141 : tm_op 163 141 = some (.iload 4, (0, 0, 0, 0)) := rfl
theorem r163_141 (d : Nat) (v : Int32) (l0 l1 l2 l3 l5 l6 : Option Value) (st : List Value) (h : tm_H) (K : Option Value → tm_H → Prop) : tm_A d 163 141 [l0, l1, l2, l3, some (.int v), l5, l6] st h K ↔ tm_A d 163 143 [l0, l1, l2, l3, some (.int v), l5, l6] (.int v :: st) h K := tm_s o163_141 rfl rfl rfl
theorem o163_143 : tm_op 163 143 = some (.iconst 0, (0, 0, 0, 0)) := rfl
theorem r163_143 (d : Nat) (ls : tm_Lo) (st : List Value) (h : tm_H) (K : Option Value → tm_H → Prop) : tm_A d 163 143 ls st h K ↔ tm_A d 163 144 ls (.int (0 : Int32) :: st) h K := tm_ic o163_143 (by decide)
theorem o163_144 : tm_op 163 144 = some (.invokevirtual 234, (2, 161, 3, 10)) := rfl
theorem r163_144 (d : Nat) (v1 : Int32) (v2 : Int32) (a : Nat) (ls : tm_Lo) (st : List Value) (h : tm_H) (K : Option Value → tm_H → Prop) : tm_A (d + 1) 163 144 ls (.int v2 :: .int v1 :: .ref a :: st) h K ↔ (h.1.2.2 a = (0, 10) ∧ tm_cs st) ∧ tm_R d 161 [.ref a, .int v1, .int v2] h (fun r h' => tm_A (d + 1) 163 147 ls (r.toList ++ st) h' K) := tm_callV (as := [.int v1, .int v2]) o163_144 rfl rfl rfl rfl
theorem o163_147 : tm_op 163 147 = some (.ireturn, (0, 0, 0, 0)) := rfl
theorem r163_147 (d : Nat) (v : Int32) (ls : tm_Lo) (h : tm_H) (K : Option Value → tm_H → Prop) : tm_A d 163 147 ls [.int v] h K ↔ K (some (.int v)) h := tm_reti o163_147 rfl
theorem o163_148 : tm_op 163 148 = some (.aload_n 0, (0, 0, 0, 0)) := rfl
theorem r163_148 (d : Nat) (v : Nat) (l1 l2 l3 l4 l5 l6 : Option Value) (st : List Value) (h : tm_H) (K : Option Value → tm_H → Prop) : tm_A d 163 148 [some (.ref v), l1, l2, l3, l4, l5, l6] st h K ↔ tm_A d 163 149 [some (.ref v), l1, l2, l3, l4, l5, l6] (.ref v :: st) h K := tm_s o163_148 rfl rfl rfl
theorem o163_149 : tm_op 163 149 = some (.iload 4, (0, 0, 0, 0)) := rfl
theorem r163_149 (d : Nat) (v : Int32) (l0 l1 l2 l3 l5 l6 : Option Value) (st : List Value) (h : tm_H) (K : Option Value → tm_H → Prop) : tm_A d 163 149 [l0, l1, l2, l3, some (.int v), l5, l6] st h K ↔ tm_A d 163 151 [l0, l1, l2, l3, some (.int v), l5, l6] (.int v :: st) h K := tm_s o163_149 rfl rfl rfl
theorem o163_151 : tm_op 163 151 = some (.iconst 1, (0, 0, 0, 0)) := rfl
theorem r163_151 (d : Nat) (ls : tm_Lo) (st : List Value) (h : tm_H) (K : Option Value → tm_H → Prop) : tm_A d 163 151 ls st h K ↔ tm_A d 163 152 ls (.int (1 : Int32) :: st) h K := tm_ic o163_151 (by decide)
theorem o163_152 : tm_op 163 152 = some (.invokevirtual 234, (2, 161, 3, 10)) := rfl
theorem r163_152 (d : Nat) (v1 : Int32) (v2 : Int32) (a : Nat) (ls : tm_Lo) (st : List Value) (h : tm_H) (K : Option Value → tm_H → Prop) : tm_A (d + 1) 163 152 ls (.int v2 :: .int v1 :: .ref a :: st) h K ↔ (h.1.2.2 a = (0, 10) ∧ tm_cs st) ∧ tm_R d 161 [.ref a, .int v1, .int v2] h (fun r h' => tm_A (d + 1) 163 155 ls (r.toList ++ st) h' K) := tm_callV (as := [.int v1, .int v2]) o163_152 rfl rfl rfl rfl
theorem o163_155 : tm_op 163 155 = some (.ireturn, (0, 0, 0, 0)) := rfl
theorem r163_155 (d : Nat) (v : Int32) (ls : tm_Lo) (h : tm_H) (K : Option Value → tm_H → Prop) : tm_A d 163 155 ls [.int v] h K ↔ K (some (.int v)) h := tm_reti o163_155 rfl
theorem o163_156 : tm_op 163 156 = some (.iload 6, (0, 0, 0, 0)) := rfl
theorem r163_156 (d : Nat) (v : Int32) (l0 l1 l2 l3 l4 l5 : Option Value) (st : List Value) (h : tm_H) (K : Option Value → tm_H → Prop) : tm_A d 163 156 [l0, l1, l2, l3, l4, l5, some (.int v)] st h K ↔ tm_A d 163 158 [l0, l1, l2, l3, l4, l5, some (.int v)] (.int v :: st) h K := tm_s o163_156 rfl rfl rfl
theorem o163_158 : tm_op 163 158 = some (.ifCond .eq 8, (0, 0, 0, 0)) := rfl
theorem r163_158 (d : Nat) (x : Int32) (ls : tm_Lo) (st : List Value) (h : tm_H) (K : Option Value → tm_H → Prop) : tm_A d 163 158 ls (.int x :: st) h K ↔ if x = 0 then tm_A d 163 166 ls st h K else tm_A d 163 161 ls st h K := tm_b o163_158 rfl rfl rfl rfl
theorem o163_161 : tm_op 163 161 = some (.bipush (-2), (0, 0, 0, 0)) := rfl
theorem r163_161 (d : Nat) (ls : tm_Lo) (st : List Value) (h : tm_H) (K : Option Value → tm_H → Prop) : tm_A d 163 161 ls st h K ↔ tm_A d 163 163 ls (.int (-2 : Int32) :: st) h K := tm_bp o163_161 (by decide)
theorem o163_163 : tm_op 163 163 = some (.goto 10, (0, 0, 0, 0)) := rfl
theorem r163_163 (d : Nat) (ls : tm_Lo) (st : List Value) (h : tm_H) (K : Option Value → tm_H → Prop) : tm_A d 163 163 ls st h K ↔ tm_A d 163 173 ls st h K := tm_s o163_163 rfl rfl rfl
theorem o163_166 : tm_op 163 166 = some (.aload_n 0, (0, 0, 0, 0)) := rfl
theorem r163_166 (d : Nat) (v : Nat) (l1 l2 l3 l4 l5 l6 : Option Value) (st : List Value) (h : tm_H) (K : Option Value → tm_H → Prop) : tm_A d 163 166 [some (.ref v), l1, l2, l3, l4, l5, l6] st h K ↔ tm_A d 163 167 [some (.ref v), l1, l2, l3, l4, l5, l6] (.ref v :: st) h K := tm_s o163_166 rfl rfl rfl
theorem o163_167 : tm_op 163 167 = some (.iload 4, (0, 0, 0, 0)) := rfl
theorem r163_167 (d : Nat) (v : Int32) (l0 l1 l2 l3 l5 l6 : Option Value) (st : List Value) (h : tm_H) (K : Option Value → tm_H → Prop) : tm_A d 163 167 [l0, l1, l2, l3, some (.int v), l5, l6] st h K ↔ tm_A d 163 169 [l0, l1, l2, l3, some (.int v), l5, l6] (.int v :: st) h K := tm_s o163_167 rfl rfl rfl
theorem o163_169 : tm_op 163 169 = some (.iconst 0, (0, 0, 0, 0)) := rfl
theorem r163_169 (d : Nat) (ls : tm_Lo) (st : List Value) (h : tm_H) (K : Option Value → tm_H → Prop) : tm_A d 163 169 ls st h K ↔ tm_A d 163 170 ls (.int (0 : Int32) :: st) h K := tm_ic o163_169 (by decide)
theorem o163_170 : tm_op 163 170 = some (.invokevirtual 230, (2, 162, 3, 10)) := rfl
theorem r163_170 (d : Nat) (v1 : Int32) (v2 : Int32) (a : Nat) (ls : tm_Lo) (st : List Value) (h : tm_H) (K : Option Value → tm_H → Prop) : tm_A (d + 1) 163 170 ls (.int v2 :: .int v1 :: .ref a :: st) h K ↔ (h.1.2.2 a = (0, 10) ∧ tm_cs st) ∧ tm_R d 162 [.ref a, .int v1, .int v2] h (fun r h' => tm_A (d + 1) 163 173 ls (r.toList ++ st) h' K) := tm_callV (as := [.int v1, .int v2]) o163_170 rfl rfl rfl rfl
theorem o163_173 : tm_op 163 173 = some (.ireturn, (0, 0, 0, 0)) := rfl
theorem r163_173 (d : Nat) (v : Int32) (ls : tm_Lo) (h : tm_H) (K : Option Value → tm_H → Prop) : tm_A d 163 173 ls [.int v] h K ↔ K (some (.int v)) h := tm_reti o163_173 rfl
theorem o163_174 : tm_op 163 174 = some (.iload 6, (0, 0, 0, 0)) := rfl
theorem r163_174 (d : Nat) (v : Int32) (l0 l1 l2 l3 l4 l5 : Option Value) (st : List Value) (h : tm_H) (K : Option Value → tm_H → Prop) : tm_A d 163 174 [l0, l1, l2, l3, l4, l5, some (.int v)] st h K ↔ tm_A d 163 176 [l0, l1, l2, l3, l4, l5, some (.int v)] (.int v :: st) h K := tm_s o163_174 rfl rfl rfl
theorem o163_176 : tm_op 163 176 = some (.ifCond .eq 8, (0, 0, 0, 0)) := rfl
theorem r163_176 (d : Nat) (x : Int32) (ls : tm_Lo) (st : List Value) (h : tm_H) (K : Option Value → tm_H → Prop) : tm_A d 163 176 ls (.int x :: st) h K ↔ if x = 0 then tm_A d 163 184 ls st h K else tm_A d 163 179 ls st h K := tm_b o163_176 rfl rfl rfl rfl
theorem o163_179 : tm_op 163 179 = some (.bipush (-2), (0, 0, 0, 0)) := rfl
theorem r163_179 (d : Nat) (ls : tm_Lo) (st : List Value) (h : tm_H) (K : Option Value → tm_H → Prop) : tm_A d 163 179 ls st h K ↔ tm_A d 163 181 ls (.int (-2 : Int32) :: st) h K := tm_bp o163_179 (by decide)
theorem o163_181 : tm_op 163 181 = some (.goto 10, (0, 0, 0, 0)) := rfl
theorem r163_181 (d : Nat) (ls : tm_Lo) (st : List Value) (h : tm_H) (K : Option Value → tm_H → Prop) : tm_A d 163 181 ls st h K ↔ tm_A d 163 191 ls st h K := tm_s o163_181 rfl rfl rfl
theorem o163_184 : tm_op 163 184 = some (.aload_n 0, (0, 0, 0, 0)) := rfl
theorem r163_184 (d : Nat) (v : Nat) (l1 l2 l3 l4 l5 l6 : Option Value) (st : List Value) (h : tm_H) (K : Option Value → tm_H → Prop) : tm_A d 163 184 [some (.ref v), l1, l2, l3, l4, l5, l6] st h K ↔ tm_A d 163 185 [some (.ref v), l1, l2, l3, l4, l5, l6] (.ref v :: st) h K := tm_s o163_184 rfl rfl rfl
theorem o163_185 : tm_op 163 185 = some (.iload 4, (0, 0, 0, 0)) := rfl
theorem r163_185 (d : Nat) (v : Int32) (l0 l1 l2 l3 l5 l6 : Option Value) (st : List Value) (h : tm_H) (K : Option Value → tm_H → Prop) : tm_A d 163 185 [l0, l1, l2, l3, some (.int v), l5, l6] st h K ↔ tm_A d 163 187 [l0, l1, l2, l3, some (.int v), l5, l6] (.int v :: st) h K := tm_s o163_185 rfl rfl rfl
theorem o163_187 : tm_op 163 187 = some (.iconst 1, (0, 0, 0, 0)) := rfl
theorem r163_187 (d : Nat) (ls : tm_Lo) (st : List Value) (h : tm_H) (K : Option Value → tm_H → Prop) : tm_A d 163 187 ls st h K ↔ tm_A d 163 188 ls (.int (1 : Int32) :: st) h K := tm_ic o163_187 (by decide)
theorem o163_188 : tm_op 163 188 = some (.invokevirtual 230, (2, 162, 3, 10)) := rfl
theorem r163_188 (d : Nat) (v1 : Int32) (v2 : Int32) (a : Nat) (ls : tm_Lo) (st : List Value) (h : tm_H) (K : Option Value → tm_H → Prop) : tm_A (d + 1) 163 188 ls (.int v2 :: .int v1 :: .ref a :: st) h K ↔ (h.1.2.2 a = (0, 10) ∧ tm_cs st) ∧ tm_R d 162 [.ref a, .int v1, .int v2] h (fun r h' => tm_A (d + 1) 163 191 ls (r.toList ++ st) h' K) := tm_callV (as := [.int v1, .int v2]) o163_188 rfl rfl rfl rfl
theorem o163_191 : tm_op 163 191 = some (.ireturn, (0, 0, 0, 0)) := rfl
theorem r163_191 (d : Nat) (v : Int32) (ls : tm_Lo) (h : tm_H) (K : Option Value → tm_H → Prop) : tm_A d 163 191 ls [.int v] h K ↔ K (some (.int v)) h := tm_reti o163_191 rfl
theorem o163_192 : tm_op 163 192 = some (.aload_n 0, (0, 0, 0, 0)) := rfl
theorem r163_192 (d : Nat) (v : Nat) (l1 l2 l3 l4 l5 l6 : Option Value) (st : List Value) (h : tm_H) (K : Option Value → tm_H → Prop) : tm_A d 163 192 [some (.ref v), l1, l2, l3, l4, l5, l6] st h K ↔ tm_A d 163 193 [some (.ref v), l1, l2, l3, l4, l5, l6] (.ref v :: st) h K := tm_s o163_192 rfl rfl rfl
theorem o163_193 : tm_op 163 193 = some (.iload 4, (0, 0, 0, 0)) := rfl
theorem r163_193 (d : Nat) (v : Int32) (l0 l1 l2 l3 l5 l6 : Option Value) (st : List Value) (h : tm_H) (K : Option Value → tm_H → Prop) : tm_A d 163 193 [l0, l1, l2, l3, some (.int v), l5, l6] st h K ↔ tm_A d 163 195 [l0, l1, l2, l3, some (.int v), l5, l6] (.int v :: st) h K := tm_s o163_193 rfl rfl rfl
theorem o163_195 : tm_op 163 195 = some (.iconst 4, (0, 0, 0, 0)) := rfl
theorem r163_195 (d : Nat) (ls : tm_Lo) (st : List Value) (h : tm_H) (K : Option Value → tm_H → Prop) : tm_A d 163 195 ls st h K ↔ tm_A d 163 196 ls (.int (4 : Int32) :: st) h K := tm_ic o163_195 (by decide)
theorem o163_196 : tm_op 163 196 = some (.invokevirtual 234, (2, 161, 3, 10)) := rfl
theorem r163_196 (d : Nat) (v1 : Int32) (v2 : Int32) (a : Nat) (ls : tm_Lo) (st : List Value) (h : tm_H) (K : Option Value → tm_H → Prop) : tm_A (d + 1) 163 196 ls (.int v2 :: .int v1 :: .ref a :: st) h K ↔ (h.1.2.2 a = (0, 10) ∧ tm_cs st) ∧ tm_R d 161 [.ref a, .int v1, .int v2] h (fun r h' => tm_A (d + 1) 163 199 ls (r.toList ++ st) h' K) := tm_callV (as := [.int v1, .int v2]) o163_196 rfl rfl rfl rfl
theorem o163_199 : tm_op 163 199 = some (.ireturn, (0, 0, 0, 0)) := rfl
theorem r163_199 (d : Nat) (v : Int32) (ls : tm_Lo) (h : tm_H) (K : Option Value → tm_H → Prop) : tm_A d 163 199 ls [.int v] h K ↔ K (some (.int v)) h := tm_reti o163_199 rfl
theorem o163_200 : tm_op 163 200 = some (.iload 5, (0, 0, 0, 0)) := rfl
theorem r163_200 (d : Nat) (v : Int32) (l0 l1 l2 l3 l4 l6 : Option Value) (st : List Value) (h : tm_H) (K : Option Value → tm_H → Prop) : tm_A d 163 200 [l0, l1, l2, l3, l4, some (.int v), l6] st h K ↔ tm_A d 163 202 [l0, l1, l2, l3, l4, some (.int v), l6] (.int v :: st) h K := tm_s o163_200 rfl rfl rfl
theorem o163_202 : tm_op 163 202 = some (.ireturn, (0, 0, 0, 0)) := rfl
theorem r163_202 (d : Nat) (v : Int32) (ls : tm_Lo) (h : tm_H) (K : Option Value → tm_H → Prop) : tm_A d 163 202 ls [.int v] h K ↔ K (some (.int v)) h := tm_reti o163_202 rfl
theorem o163_203 : tm_op 163 203 = some (.iload 6, (0, 0, 0, 0)) := rfl
theorem r163_203 (d : Nat) (v : Int32) (l0 l1 l2 l3 l4 l5 : Option Value) (st : List Value) (h : tm_H) (K : Option Value → tm_H → Prop) : tm_A d 163 203 [l0, l1, l2, l3, l4, l5, some (.int v)] st h K ↔ tm_A d 163 205 [l0, l1, l2, l3, l4, l5, some (.int v)] (.int v :: st) h K := tm_s o163_203 rfl rfl rfl
theorem o163_205 : tm_op 163 205 = some (.ifCond .eq 7, (0, 0, 0, 0)) := rfl
theorem r163_205 (d : Nat) (x : Int32) (ls : tm_Lo) (st : List Value) (h : tm_H) (K : Option Value → tm_H → Prop) : tm_A d 163 205 ls (.int x :: st) h K ↔ if x = 0 then tm_A d 163 212 ls st h K else tm_A d 163 208 ls st h K := tm_b o163_205 rfl rfl rfl rfl
theorem o163_208 : tm_op 163 208 = some (.iconst 1, (0, 0, 0, 0)) := rfl
theorem r163_208 (d : Nat) (ls : tm_Lo) (st : List Value) (h : tm_H) (K : Option Value → tm_H → Prop) : tm_A d 163 208 ls st h K ↔ tm_A d 163 209 ls (.int (1 : Int32) :: st) h K := tm_ic o163_208 (by decide)
theorem o163_209 : tm_op 163 209 = some (.goto 4, (0, 0, 0, 0)) := rfl
theorem r163_209 (d : Nat) (ls : tm_Lo) (st : List Value) (h : tm_H) (K : Option Value → tm_H → Prop) : tm_A d 163 209 ls st h K ↔ tm_A d 163 213 ls st h K := tm_s o163_209 rfl rfl rfl
theorem o163_212 : tm_op 163 212 = some (.iconst 0, (0, 0, 0, 0)) := rfl
theorem r163_212 (d : Nat) (ls : tm_Lo) (st : List Value) (h : tm_H) (K : Option Value → tm_H → Prop) : tm_A d 163 212 ls st h K ↔ tm_A d 163 213 ls (.int (0 : Int32) :: st) h K := tm_ic o163_212 (by decide)
theorem o163_213 : tm_op 163 213 = some (.ireturn, (0, 0, 0, 0)) := rfl
theorem r163_213 (d : Nat) (v : Int32) (ls : tm_Lo) (h : tm_H) (K : Option Value → tm_H → Prop) : tm_A d 163 213 ls [.int v] h K ↔ K (some (.int v)) h := tm_reti o163_213 rfl
theorem o163_214 : tm_op 163 214 = some (.iconst (-1), (0, 0, 0, 0)) := rfl
theorem r163_214 (d : Nat) (ls : tm_Lo) (st : List Value) (h : tm_H) (K : Option Value → tm_H → Prop) : tm_A d 163 214 ls st h K ↔ tm_A d 163 215 ls (.int (-1 : Int32) :: st) h K := tm_ic o163_214 (by decide)
theorem o163_215 : tm_op 163 215 = some (.ireturn, (0, 0, 0, 0)) := rfl
theorem r163_215 (d : Nat) (v : Int32) (ls : tm_Lo) (h : tm_H) (K : Option Value → tm_H → Prop) : tm_A d 163 215 ls [.int v] h K ↔ K (some (.int v)) h := tm_reti o163_215 rfl
theorem o164_0 : tm_op 164 0 = some (.iload_n 1, (0, 0, 0, 0)) := rfl
theorem r164_0 (d : Nat) (v : Int32) (l0 l2 l3 l4 : Option Value) (st : List Value) (h : tm_H) (K : Option Value → tm_H → Prop) : tm_A d 164 0 [l0, some (.int v), l2, l3, l4] st h K ↔ tm_A d 164 1 [l0, some (.int v), l2, l3, l4] (.int v :: st) h K := tm_s o164_0 rfl rfl rfl
theorem o164_1 : tm_op 164 1 = some (.iconst 0, (0, 0, 0, 0)) := rfl
theorem r164_1 (d : Nat) (ls : tm_Lo) (st : List Value) (h : tm_H) (K : Option Value → tm_H → Prop) : tm_A d 164 1 ls st h K ↔ tm_A d 164 2 ls (.int (0 : Int32) :: st) h K := tm_ic o164_1 (by decide)
theorem o164_2 : tm_op 164 2 = some (.bipush 99, (0, 0, 0, 0)) := rfl
theorem r164_2 (d : Nat) (ls : tm_Lo) (st : List Value) (h : tm_H) (K : Option Value → tm_H → Prop) : tm_A d 164 2 ls st h K ↔ tm_A d 164 4 ls (.int (99 : Int32) :: st) h K := tm_bp o164_2 (by decide)
theorem o164_4 : tm_op 164 4 = some (.invokestatic 83, (1, 117, 3, 0)) := rfl
theorem r164_4 (d : Nat) (v0 : Int32) (v1 : Int32) (v2 : Int32) (ls : tm_Lo) (st : List Value) (h : tm_H) (K : Option Value → tm_H → Prop) : tm_A (d + 1) 164 4 ls (.int v2 :: .int v1 :: .int v0 :: st) h K ↔ tm_cs st ∧ tm_R d 117 [.int v0, .int v1, .int v2] h (fun r h' => tm_A (d + 1) 164 7 ls (r.toList ++ st) h' K) := tm_callS (as := [.int v0, .int v1, .int v2]) o164_4 rfl rfl rfl rfl
theorem o164_7 : tm_op 164 7 = some (.ifCond .eq 23, (0, 0, 0, 0)) := rfl
theorem r164_7 (d : Nat) (x : Int32) (ls : tm_Lo) (st : List Value) (h : tm_H) (K : Option Value → tm_H → Prop) : tm_A d 164 7 ls (.int x :: st) h K ↔ if x = 0 then tm_A d 164 30 ls st h K else tm_A d 164 10 ls st h K := tm_b o164_7 rfl rfl rfl rfl
theorem o164_10 : tm_op 164 10 = some (.iload_n 2, (0, 0, 0, 0)) := rfl
theorem r164_10 (d : Nat) (v : Int32) (l0 l1 l3 l4 : Option Value) (st : List Value) (h : tm_H) (K : Option Value → tm_H → Prop) : tm_A d 164 10 [l0, l1, some (.int v), l3, l4] st h K ↔ tm_A d 164 11 [l0, l1, some (.int v), l3, l4] (.int v :: st) h K := tm_s o164_10 rfl rfl rfl
theorem o164_11 : tm_op 164 11 = some (.iconst 0, (0, 0, 0, 0)) := rfl
theorem r164_11 (d : Nat) (ls : tm_Lo) (st : List Value) (h : tm_H) (K : Option Value → tm_H → Prop) : tm_A d 164 11 ls st h K ↔ tm_A d 164 12 ls (.int (0 : Int32) :: st) h K := tm_ic o164_11 (by decide)
theorem o164_12 : tm_op 164 12 = some (.aload_n 0, (0, 0, 0, 0)) := rfl
theorem r164_12 (d : Nat) (v : Nat) (l1 l2 l3 l4 : Option Value) (st : List Value) (h : tm_H) (K : Option Value → tm_H → Prop) : tm_A d 164 12 [some (.ref v), l1, l2, l3, l4] st h K ↔ tm_A d 164 13 [some (.ref v), l1, l2, l3, l4] (.ref v :: st) h K := tm_s o164_12 rfl rfl rfl
theorem o164_13 : tm_op 164 13 = some (.getfield 87, (0, 10, 0, 0)) := rfl
theorem r164_13 (d : Nat) (a : Nat) (ls : tm_Lo) (st : List Value) (G : tm_G) (I : Nat → Nat → Int32) (J : Nat → Nat → Int64) (R : Nat → Nat → Option Nat) (K : Option Value → tm_H → Prop) : tm_A d 164 13 ls (.ref a :: st) (G, I, J, R) K ↔ G.2.2 a = (0, 10) ∧ tm_A d 164 16 ls (.int (I a 0) :: st) (G, I, J, R) K := tm_getI o164_13
theorem o164_16 : tm_op 164 16 = some (.invokestatic 83, (1, 117, 3, 0)) := rfl
theorem r164_16 (d : Nat) (v0 : Int32) (v1 : Int32) (v2 : Int32) (ls : tm_Lo) (st : List Value) (h : tm_H) (K : Option Value → tm_H → Prop) : tm_A (d + 1) 164 16 ls (.int v2 :: .int v1 :: .int v0 :: st) h K ↔ tm_cs st ∧ tm_R d 117 [.int v0, .int v1, .int v2] h (fun r h' => tm_A (d + 1) 164 19 ls (r.toList ++ st) h' K) := tm_callS (as := [.int v0, .int v1, .int v2]) o164_16 rfl rfl rfl rfl
theorem o164_19 : tm_op 164 19 = some (.ifCond .eq 11, (0, 0, 0, 0)) := rfl
theorem r164_19 (d : Nat) (x : Int32) (ls : tm_Lo) (st : List Value) (h : tm_H) (K : Option Value → tm_H → Prop) : tm_A d 164 19 ls (.int x :: st) h K ↔ if x = 0 then tm_A d 164 30 ls st h K else tm_A d 164 22 ls st h K := tm_b o164_19 rfl rfl rfl rfl
theorem o164_22 : tm_op 164 22 = some (.aload_n 0, (0, 0, 0, 0)) := rfl
theorem r164_22 (d : Nat) (v : Nat) (l1 l2 l3 l4 : Option Value) (st : List Value) (h : tm_H) (K : Option Value → tm_H → Prop) : tm_A d 164 22 [some (.ref v), l1, l2, l3, l4] st h K ↔ tm_A d 164 23 [some (.ref v), l1, l2, l3, l4] (.ref v :: st) h K := tm_s o164_22 rfl rfl rfl
theorem o164_23 : tm_op 164 23 = some (.iload_n 2, (0, 0, 0, 0)) := rfl
theorem r164_23 (d : Nat) (v : Int32) (l0 l1 l3 l4 : Option Value) (st : List Value) (h : tm_H) (K : Option Value → tm_H → Prop) : tm_A d 164 23 [l0, l1, some (.int v), l3, l4] st h K ↔ tm_A d 164 24 [l0, l1, some (.int v), l3, l4] (.int v :: st) h K := tm_s o164_23 rfl rfl rfl
theorem o164_24 : tm_op 164 24 = some (.invokevirtual 218, (2, 156, 2, 10)) := rfl
theorem r164_24 (d : Nat) (v1 : Int32) (a : Nat) (ls : tm_Lo) (st : List Value) (h : tm_H) (K : Option Value → tm_H → Prop) : tm_A (d + 1) 164 24 ls (.int v1 :: .ref a :: st) h K ↔ (h.1.2.2 a = (0, 10) ∧ tm_cs st) ∧ tm_R d 156 [.ref a, .int v1] h (fun r h' => tm_A (d + 1) 164 27 ls (r.toList ++ st) h' K) := tm_callV (as := [.int v1]) o164_24 rfl rfl rfl rfl
theorem o164_27 : tm_op 164 27 = some (.ifCond .ne 5, (0, 0, 0, 0)) := rfl
theorem r164_27 (d : Nat) (x : Int32) (ls : tm_Lo) (st : List Value) (h : tm_H) (K : Option Value → tm_H → Prop) : tm_A d 164 27 ls (.int x :: st) h K ↔ if ¬ x = 0 then tm_A d 164 32 ls st h K else tm_A d 164 30 ls st h K := tm_b o164_27 rfl rfl rfl rfl
theorem o164_30 : tm_op 164 30 = some (.iconst (-1), (0, 0, 0, 0)) := rfl
theorem r164_30 (d : Nat) (ls : tm_Lo) (st : List Value) (h : tm_H) (K : Option Value → tm_H → Prop) : tm_A d 164 30 ls st h K ↔ tm_A d 164 31 ls (.int (-1 : Int32) :: st) h K := tm_ic o164_30 (by decide)
theorem o164_31 : tm_op 164 31 = some (.ireturn, (0, 0, 0, 0)) := rfl
theorem r164_31 (d : Nat) (v : Int32) (ls : tm_Lo) (h : tm_H) (K : Option Value → tm_H → Prop) : tm_A d 164 31 ls [.int v] h K ↔ K (some (.int v)) h := tm_reti o164_31 rfl
theorem o164_32 : tm_op 164 32 = some (.iconst 0, (0, 0, 0, 0)) := rfl
theorem r164_32 (d : Nat) (ls : tm_Lo) (st : List Value) (h : tm_H) (K : Option Value → tm_H → Prop) : tm_A d 164 32 ls st h K ↔ tm_A d 164 33 ls (.int (0 : Int32) :: st) h K := tm_ic o164_32 (by decide)
theorem o164_33 : tm_op 164 33 = some (.istore_n 3, (0, 0, 0, 0)) := rfl
theorem r164_33 (d : Nat) (v : Int32) (l0 l1 l2 l3 l4 : Option Value) (st : List Value) (h : tm_H) (K : Option Value → tm_H → Prop) : tm_A d 164 33 [l0, l1, l2, l3, l4] (.int v :: st) h K ↔ tm_A d 164 34 [l0, l1, l2, some (.int v), l4] st h K := tm_s o164_33 rfl rfl rfl
theorem o164_34 : tm_op 164 34 = some (.iconst 0, (0, 0, 0, 0)) := rfl
theorem r164_34 (d : Nat) (ls : tm_Lo) (st : List Value) (h : tm_H) (K : Option Value → tm_H → Prop) : tm_A d 164 34 ls st h K ↔ tm_A d 164 35 ls (.int (0 : Int32) :: st) h K := tm_ic o164_34 (by decide)
theorem o164_35 : tm_op 164 35 = some (.istore 4, (0, 0, 0, 0)) := rfl
theorem r164_35 (d : Nat) (v : Int32) (l0 l1 l2 l3 l4 : Option Value) (st : List Value) (h : tm_H) (K : Option Value → tm_H → Prop) : tm_A d 164 35 [l0, l1, l2, l3, l4] (.int v :: st) h K ↔ tm_A d 164 37 [l0, l1, l2, l3, some (.int v)] st h K := tm_s o164_35 rfl rfl rfl
theorem o164_37 : tm_op 164 37 = some (.iload 4, (0, 0, 0, 0)) := rfl
theorem r164_37 (d : Nat) (v : Int32) (l0 l1 l2 l3 : Option Value) (st : List Value) (h : tm_H) (K : Option Value → tm_H → Prop) : tm_A d 164 37 [l0, l1, l2, l3, some (.int v)] st h K ↔ tm_A d 164 39 [l0, l1, l2, l3, some (.int v)] (.int v :: st) h K := tm_s o164_37 rfl rfl rfl
theorem o164_39 : tm_op 164 39 = some (.aload_n 0, (0, 0, 0, 0)) := rfl
theorem r164_39 (d : Nat) (v : Nat) (l1 l2 l3 l4 : Option Value) (st : List Value) (h : tm_H) (K : Option Value → tm_H → Prop) : tm_A d 164 39 [some (.ref v), l1, l2, l3, l4] st h K ↔ tm_A d 164 40 [some (.ref v), l1, l2, l3, l4] (.ref v :: st) h K := tm_s o164_39 rfl rfl rfl
theorem o164_40 : tm_op 164 40 = some (.getfield 208, (0, 10, 33, 0)) := rfl
theorem r164_40 (d : Nat) (a : Nat) (ls : tm_Lo) (st : List Value) (G : tm_G) (I : Nat → Nat → Int32) (J : Nat → Nat → Int64) (R : Nat → Nat → Option Nat) (K : Option Value → tm_H → Prop) : tm_A d 164 40 ls (.ref a :: st) (G, I, J, R) K ↔ G.2.2 a = (0, 10) ∧ tm_A d 164 43 ls (.int (I a 33) :: st) (G, I, J, R) K := tm_getI o164_40
theorem o164_43 : tm_op 164 43 = some (.if_icmp .ge 28, (0, 0, 0, 0)) := rfl
theorem r164_43 (d : Nat) (y x : Int32) (ls : tm_Lo) (st : List Value) (h : tm_H) (K : Option Value → tm_H → Prop) : tm_A d 164 43 ls (.int y :: .int x :: st) h K ↔ if y ≤ x then tm_A d 164 71 ls st h K else tm_A d 164 46 ls st h K := tm_b o164_43 rfl rfl rfl rfl
theorem o164_46 : tm_op 164 46 = some (.iload_n 3, (0, 0, 0, 0)) := rfl
theorem r164_46 (d : Nat) (v : Int32) (l0 l1 l2 l4 : Option Value) (st : List Value) (h : tm_H) (K : Option Value → tm_H → Prop) : tm_A d 164 46 [l0, l1, l2, some (.int v), l4] st h K ↔ tm_A d 164 47 [l0, l1, l2, some (.int v), l4] (.int v :: st) h K := tm_s o164_46 rfl rfl rfl
theorem o164_47 : tm_op 164 47 = some (.aload_n 0, (0, 0, 0, 0)) := rfl
theorem r164_47 (d : Nat) (v : Nat) (l1 l2 l3 l4 : Option Value) (st : List Value) (h : tm_H) (K : Option Value → tm_H → Prop) : tm_A d 164 47 [some (.ref v), l1, l2, l3, l4] st h K ↔ tm_A d 164 48 [some (.ref v), l1, l2, l3, l4] (.ref v :: st) h K := tm_s o164_47 rfl rfl rfl
theorem o164_48 : tm_op 164 48 = some (.iload 4, (0, 0, 0, 0)) := rfl
theorem r164_48 (d : Nat) (v : Int32) (l0 l1 l2 l3 : Option Value) (st : List Value) (h : tm_H) (K : Option Value → tm_H → Prop) : tm_A d 164 48 [l0, l1, l2, l3, some (.int v)] st h K ↔ tm_A d 164 50 [l0, l1, l2, l3, some (.int v)] (.int v :: st) h K := tm_s o164_48 rfl rfl rfl
theorem o164_50 : tm_op 164 50 = some (.iconst 0, (0, 0, 0, 0)) := rfl
theorem r164_50 (d : Nat) (ls : tm_Lo) (st : List Value) (h : tm_H) (K : Option Value → tm_H → Prop) : tm_A d 164 50 ls st h K ↔ tm_A d 164 51 ls (.int (0 : Int32) :: st) h K := tm_ic o164_50 (by decide)
theorem o164_51 : tm_op 164 51 = some (.invokevirtual 234, (2, 161, 3, 10)) := rfl
theorem r164_51 (d : Nat) (v1 : Int32) (v2 : Int32) (a : Nat) (ls : tm_Lo) (st : List Value) (h : tm_H) (K : Option Value → tm_H → Prop) : tm_A (d + 1) 164 51 ls (.int v2 :: .int v1 :: .ref a :: st) h K ↔ (h.1.2.2 a = (0, 10) ∧ tm_cs st) ∧ tm_R d 161 [.ref a, .int v1, .int v2] h (fun r h' => tm_A (d + 1) 164 54 ls (r.toList ++ st) h' K) := tm_callV (as := [.int v1, .int v2]) o164_51 rfl rfl rfl rfl
theorem o164_54 : tm_op 164 54 = some (.iload_n 1, (0, 0, 0, 0)) := rfl
theorem r164_54 (d : Nat) (v : Int32) (l0 l2 l3 l4 : Option Value) (st : List Value) (h : tm_H) (K : Option Value → tm_H → Prop) : tm_A d 164 54 [l0, some (.int v), l2, l3, l4] st h K ↔ tm_A d 164 55 [l0, some (.int v), l2, l3, l4] (.int v :: st) h K := tm_s o164_54 rfl rfl rfl
theorem o164_55 : tm_op 164 55 = some (.if_icmp .ne 7, (0, 0, 0, 0)) := rfl
theorem r164_55 (d : Nat) (y x : Int32) (ls : tm_Lo) (st : List Value) (h : tm_H) (K : Option Value → tm_H → Prop) : tm_A d 164 55 ls (.int y :: .int x :: st) h K ↔ if ¬ x = y then tm_A d 164 62 ls st h K else tm_A d 164 58 ls st h K := tm_b o164_55 rfl rfl rfl rfl
theorem o164_58 : tm_op 164 58 = some (.iconst 1, (0, 0, 0, 0)) := rfl
theorem r164_58 (d : Nat) (ls : tm_Lo) (st : List Value) (h : tm_H) (K : Option Value → tm_H → Prop) : tm_A d 164 58 ls st h K ↔ tm_A d 164 59 ls (.int (1 : Int32) :: st) h K := tm_ic o164_58 (by decide)
theorem o164_59 : tm_op 164 59 = some (.goto 4, (0, 0, 0, 0)) := rfl
theorem r164_59 (d : Nat) (ls : tm_Lo) (st : List Value) (h : tm_H) (K : Option Value → tm_H → Prop) : tm_A d 164 59 ls st h K ↔ tm_A d 164 63 ls st h K := tm_s o164_59 rfl rfl rfl
theorem o164_62 : tm_op 164 62 = some (.iconst 0, (0, 0, 0, 0)) := rfl
theorem r164_62 (d : Nat) (ls : tm_Lo) (st : List Value) (h : tm_H) (K : Option Value → tm_H → Prop) : tm_A d 164 62 ls st h K ↔ tm_A d 164 63 ls (.int (0 : Int32) :: st) h K := tm_ic o164_62 (by decide)
theorem o164_63 : tm_op 164 63 = some (.iadd, (0, 0, 0, 0)) := rfl
theorem r164_63 (d : Nat) (u v : Int32) (ls : tm_Lo) (st : List Value) (h : tm_H) (K : Option Value → tm_H → Prop) : tm_A d 164 63 ls (.int u :: .int v :: st) h K ↔ tm_A d 164 64 ls (.int (v + u) :: st) h K := tm_s o164_63 rfl rfl rfl
theorem o164_64 : tm_op 164 64 = some (.istore_n 3, (0, 0, 0, 0)) := rfl
theorem r164_64 (d : Nat) (v : Int32) (l0 l1 l2 l3 l4 : Option Value) (st : List Value) (h : tm_H) (K : Option Value → tm_H → Prop) : tm_A d 164 64 [l0, l1, l2, l3, l4] (.int v :: st) h K ↔ tm_A d 164 65 [l0, l1, l2, some (.int v), l4] st h K := tm_s o164_64 rfl rfl rfl
theorem o164_65 : tm_op 164 65 = some (.iinc 4 1, (0, 0, 0, 0)) := rfl
theorem r164_65 (d : Nat) (v : Int32) (l0 l1 l2 l3 : Option Value) (st : List Value) (h : tm_H) (K : Option Value → tm_H → Prop) : tm_A d 164 65 [l0, l1, l2, l3, some (.int v)] st h K ↔ tm_A d 164 68 [l0, l1, l2, l3, some (.int (v + (1 : Int32)))] st h K := tm_s o164_65 rfl rfl rfl
theorem o164_68 : tm_op 164 68 = some (.goto (-31), (0, 0, 0, 0)) := rfl
theorem r164_68 (d : Nat) (ls : tm_Lo) (st : List Value) (h : tm_H) (K : Option Value → tm_H → Prop) : tm_A d 164 68 ls st h K ↔ tm_A d 164 37 ls st h K := tm_s o164_68 rfl rfl rfl
theorem o164_71 : tm_op 164 71 = some (.iload_n 3, (0, 0, 0, 0)) := rfl
theorem r164_71 (d : Nat) (v : Int32) (l0 l1 l2 l4 : Option Value) (st : List Value) (h : tm_H) (K : Option Value → tm_H → Prop) : tm_A d 164 71 [l0, l1, l2, some (.int v), l4] st h K ↔ tm_A d 164 72 [l0, l1, l2, some (.int v), l4] (.int v :: st) h K := tm_s o164_71 rfl rfl rfl
theorem o164_72 : tm_op 164 72 = some (.ireturn, (0, 0, 0, 0)) := rfl
theorem r164_72 (d : Nat) (v : Int32) (ls : tm_Lo) (h : tm_H) (K : Option Value → tm_H → Prop) : tm_A d 164 72 ls [.int v] h K ↔ K (some (.int v)) h := tm_reti o164_72 rfl
theorem o165_0 : tm_op 165 0 = some (.iconst 0, (0, 0, 0, 0)) := rfl
theorem r165_0 (d : Nat) (ls : tm_Lo) (st : List Value) (h : tm_H) (K : Option Value → tm_H → Prop) : tm_A d 165 0 ls st h K ↔ tm_A d 165 1 ls (.int (0 : Int32) :: st) h K := tm_ic o165_0 (by decide)
theorem o165_1 : tm_op 165 1 = some (.istore_n 2, (0, 0, 0, 0)) := rfl
theorem r165_1 (d : Nat) (v : Int32) (l0 l1 l2 l3 : Option Value) (st : List Value) (h : tm_H) (K : Option Value → tm_H → Prop) : tm_A d 165 1 [l0, l1, l2, l3] (.int v :: st) h K ↔ tm_A d 165 2 [l0, l1, some (.int v), l3] st h K := tm_s o165_1 rfl rfl rfl
theorem o165_2 : tm_op 165 2 = some (.iconst 0, (0, 0, 0, 0)) := rfl
theorem r165_2 (d : Nat) (ls : tm_Lo) (st : List Value) (h : tm_H) (K : Option Value → tm_H → Prop) : tm_A d 165 2 ls st h K ↔ tm_A d 165 3 ls (.int (0 : Int32) :: st) h K := tm_ic o165_2 (by decide)
theorem o165_3 : tm_op 165 3 = some (.istore_n 3, (0, 0, 0, 0)) := rfl
theorem r165_3 (d : Nat) (v : Int32) (l0 l1 l2 l3 : Option Value) (st : List Value) (h : tm_H) (K : Option Value → tm_H → Prop) : tm_A d 165 3 [l0, l1, l2, l3] (.int v :: st) h K ↔ tm_A d 165 4 [l0, l1, l2, some (.int v)] st h K := tm_s o165_3 rfl rfl rfl
theorem o165_4 : tm_op 165 4 = some (.iload_n 3, (0, 0, 0, 0)) := rfl
theorem r165_4 (d : Nat) (v : Int32) (l0 l1 l2 : Option Value) (st : List Value) (h : tm_H) (K : Option Value → tm_H → Prop) : tm_A d 165 4 [l0, l1, l2, some (.int v)] st h K ↔ tm_A d 165 5 [l0, l1, l2, some (.int v)] (.int v :: st) h K := tm_s o165_4 rfl rfl rfl
theorem o165_5 : tm_op 165 5 = some (.iconst 5, (0, 0, 0, 0)) := rfl
theorem r165_5 (d : Nat) (ls : tm_Lo) (st : List Value) (h : tm_H) (K : Option Value → tm_H → Prop) : tm_A d 165 5 ls st h K ↔ tm_A d 165 6 ls (.int (5 : Int32) :: st) h K := tm_ic o165_5 (by decide)
theorem o165_6 : tm_op 165 6 = some (.if_icmp .ge 28, (0, 0, 0, 0)) := rfl
theorem r165_6 (d : Nat) (y x : Int32) (ls : tm_Lo) (st : List Value) (h : tm_H) (K : Option Value → tm_H → Prop) : tm_A d 165 6 ls (.int y :: .int x :: st) h K ↔ if y ≤ x then tm_A d 165 34 ls st h K else tm_A d 165 9 ls st h K := tm_b o165_6 rfl rfl rfl rfl
theorem o165_9 : tm_op 165 9 = some (.iload_n 2, (0, 0, 0, 0)) := rfl
theorem r165_9 (d : Nat) (v : Int32) (l0 l1 l3 : Option Value) (st : List Value) (h : tm_H) (K : Option Value → tm_H → Prop) : tm_A d 165 9 [l0, l1, some (.int v), l3] st h K ↔ tm_A d 165 10 [l0, l1, some (.int v), l3] (.int v :: st) h K := tm_s o165_9 rfl rfl rfl
theorem o165_10 : tm_op 165 10 = some (.aload_n 0, (0, 0, 0, 0)) := rfl
theorem r165_10 (d : Nat) (v : Nat) (l1 l2 l3 : Option Value) (st : List Value) (h : tm_H) (K : Option Value → tm_H → Prop) : tm_A d 165 10 [some (.ref v), l1, l2, l3] st h K ↔ tm_A d 165 11 [some (.ref v), l1, l2, l3] (.ref v :: st) h K := tm_s o165_10 rfl rfl rfl
theorem o165_11 : tm_op 165 11 = some (.iload_n 1, (0, 0, 0, 0)) := rfl
theorem r165_11 (d : Nat) (v : Int32) (l0 l2 l3 : Option Value) (st : List Value) (h : tm_H) (K : Option Value → tm_H → Prop) : tm_A d 165 11 [l0, some (.int v), l2, l3] st h K ↔ tm_A d 165 12 [l0, some (.int v), l2, l3] (.int v :: st) h K := tm_s o165_11 rfl rfl rfl
theorem o165_12 : tm_op 165 12 = some (.iload_n 3, (0, 0, 0, 0)) := rfl
theorem r165_12 (d : Nat) (v : Int32) (l0 l1 l2 : Option Value) (st : List Value) (h : tm_H) (K : Option Value → tm_H → Prop) : tm_A d 165 12 [l0, l1, l2, some (.int v)] st h K ↔ tm_A d 165 13 [l0, l1, l2, some (.int v)] (.int v :: st) h K := tm_s o165_12 rfl rfl rfl
theorem o165_13 : tm_op 165 13 = some (.invokevirtual 176, (2, 140, 3, 10)) := rfl
theorem r165_13 (d : Nat) (v1 : Int32) (v2 : Int32) (a : Nat) (ls : tm_Lo) (st : List Value) (h : tm_H) (K : Option Value → tm_H → Prop) : tm_A (d + 1) 165 13 ls (.int v2 :: .int v1 :: .ref a :: st) h K ↔ (h.1.2.2 a = (0, 10) ∧ tm_cs st) ∧ tm_R d 140 [.ref a, .int v1, .int v2] h (fun r h' => tm_A (d + 1) 165 16 ls (r.toList ++ st) h' K) := tm_callV (as := [.int v1, .int v2]) o165_13 rfl rfl rfl rfl
theorem o165_16 : tm_op 165 16 = some (.ifCond .eq 9, (0, 0, 0, 0)) := rfl
theorem r165_16 (d : Nat) (x : Int32) (ls : tm_Lo) (st : List Value) (h : tm_H) (K : Option Value → tm_H → Prop) : tm_A d 165 16 ls (.int x :: st) h K ↔ if x = 0 then tm_A d 165 25 ls st h K else tm_A d 165 19 ls st h K := tm_b o165_16 rfl rfl rfl rfl
theorem o165_19 : tm_op 165 19 = some (.iconst 1, (0, 0, 0, 0)) := rfl
theorem r165_19 (d : Nat) (ls : tm_Lo) (st : List Value) (h : tm_H) (K : Option Value → tm_H → Prop) : tm_A d 165 19 ls st h K ↔ tm_A d 165 20 ls (.int (1 : Int32) :: st) h K := tm_ic o165_19 (by decide)
theorem o165_20 : tm_op 165 20 = some (.iload_n 3, (0, 0, 0, 0)) := rfl
theorem r165_20 (d : Nat) (v : Int32) (l0 l1 l2 : Option Value) (st : List Value) (h : tm_H) (K : Option Value → tm_H → Prop) : tm_A d 165 20 [l0, l1, l2, some (.int v)] st h K ↔ tm_A d 165 21 [l0, l1, l2, some (.int v)] (.int v :: st) h K := tm_s o165_20 rfl rfl rfl
theorem o165_21 : tm_op 165 21 = some (.ishl, (0, 0, 0, 0)) := rfl
theorem r165_21 (d : Nat) (u v : Int32) (ls : tm_Lo) (st : List Value) (h : tm_H) (K : Option Value → tm_H → Prop) : tm_A d 165 21 ls (.int u :: .int v :: st) h K ↔ tm_A d 165 22 ls (.int (v <<< (u &&& 31)) :: st) h K := tm_s o165_21 rfl rfl rfl
theorem o165_22 : tm_op 165 22 = some (.goto 4, (0, 0, 0, 0)) := rfl
theorem r165_22 (d : Nat) (ls : tm_Lo) (st : List Value) (h : tm_H) (K : Option Value → tm_H → Prop) : tm_A d 165 22 ls st h K ↔ tm_A d 165 26 ls st h K := tm_s o165_22 rfl rfl rfl
theorem o165_25 : tm_op 165 25 = some (.iconst 0, (0, 0, 0, 0)) := rfl
theorem r165_25 (d : Nat) (ls : tm_Lo) (st : List Value) (h : tm_H) (K : Option Value → tm_H → Prop) : tm_A d 165 25 ls st h K ↔ tm_A d 165 26 ls (.int (0 : Int32) :: st) h K := tm_ic o165_25 (by decide)
theorem o165_26 : tm_op 165 26 = some (.ior, (0, 0, 0, 0)) := rfl
theorem r165_26 (d : Nat) (u v : Int32) (ls : tm_Lo) (st : List Value) (h : tm_H) (K : Option Value → tm_H → Prop) : tm_A d 165 26 ls (.int u :: .int v :: st) h K ↔ tm_A d 165 27 ls (.int (v ||| u) :: st) h K := tm_s o165_26 rfl rfl rfl
theorem o165_27 : tm_op 165 27 = some (.istore_n 2, (0, 0, 0, 0)) := rfl
theorem r165_27 (d : Nat) (v : Int32) (l0 l1 l2 l3 : Option Value) (st : List Value) (h : tm_H) (K : Option Value → tm_H → Prop) : tm_A d 165 27 [l0, l1, l2, l3] (.int v :: st) h K ↔ tm_A d 165 28 [l0, l1, some (.int v), l3] st h K := tm_s o165_27 rfl rfl rfl
theorem o165_28 : tm_op 165 28 = some (.iinc 3 1, (0, 0, 0, 0)) := rfl
theorem r165_28 (d : Nat) (v : Int32) (l0 l1 l2 : Option Value) (st : List Value) (h : tm_H) (K : Option Value → tm_H → Prop) : tm_A d 165 28 [l0, l1, l2, some (.int v)] st h K ↔ tm_A d 165 31 [l0, l1, l2, some (.int (v + (1 : Int32)))] st h K := tm_s o165_28 rfl rfl rfl
theorem o165_31 : tm_op 165 31 = some (.goto (-27), (0, 0, 0, 0)) := rfl
theorem r165_31 (d : Nat) (ls : tm_Lo) (st : List Value) (h : tm_H) (K : Option Value → tm_H → Prop) : tm_A d 165 31 ls st h K ↔ tm_A d 165 4 ls st h K := tm_s o165_31 rfl rfl rfl
theorem o165_34 : tm_op 165 34 = some (.iload_n 2, (0, 0, 0, 0)) := rfl
theorem r165_34 (d : Nat) (v : Int32) (l0 l1 l3 : Option Value) (st : List Value) (h : tm_H) (K : Option Value → tm_H → Prop) : tm_A d 165 34 [l0, l1, some (.int v), l3] st h K ↔ tm_A d 165 35 [l0, l1, some (.int v), l3] (.int v :: st) h K := tm_s o165_34 rfl rfl rfl
theorem o165_35 : tm_op 165 35 = some (.ireturn, (0, 0, 0, 0)) := rfl
theorem r165_35 (d : Nat) (v : Int32) (ls : tm_Lo) (h : tm_H) (K : Option Value → tm_H → Prop) : tm_A d 165 35 ls [.int v] h K ↔ K (some (.int v)) h := tm_reti o165_35 rfl
theorem o166_0 : tm_op 166 0 = some (.aload_n 0, (0, 0, 0, 0)) := rfl
theorem r166_0 (d : Nat) (v : Nat) (l1 l2 : Option Value) (st : List Value) (h : tm_H) (K : Option Value → tm_H → Prop) : tm_A d 166 0 [some (.ref v), l1, l2] st h K ↔ tm_A d 166 1 [some (.ref v), l1, l2] (.ref v :: st) h K := tm_s o166_0 rfl rfl rfl
theorem o166_1 : tm_op 166 1 = some (.iload_n 1, (0, 0, 0, 0)) := rfl
theorem r166_1 (d : Nat) (v : Int32) (l0 l2 : Option Value) (st : List Value) (h : tm_H) (K : Option Value → tm_H → Prop) : tm_A d 166 1 [l0, some (.int v), l2] st h K ↔ tm_A d 166 2 [l0, some (.int v), l2] (.int v :: st) h K := tm_s o166_1 rfl rfl rfl
theorem o166_2 : tm_op 166 2 = some (.iload_n 2, (0, 0, 0, 0)) := rfl
theorem r166_2 (d : Nat) (v : Int32) (l0 l1 : Option Value) (st : List Value) (h : tm_H) (K : Option Value → tm_H → Prop) : tm_A d 166 2 [l0, l1, some (.int v)] st h K ↔ tm_A d 166 3 [l0, l1, some (.int v)] (.int v :: st) h K := tm_s o166_2 rfl rfl rfl
theorem o166_3 : tm_op 166 3 = some (.invokevirtual 166, (2, 138, 3, 10)) := rfl
theorem r166_3 (d : Nat) (v1 : Int32) (v2 : Int32) (a : Nat) (ls : tm_Lo) (st : List Value) (h : tm_H) (K : Option Value → tm_H → Prop) : tm_A (d + 1) 166 3 ls (.int v2 :: .int v1 :: .ref a :: st) h K ↔ (h.1.2.2 a = (0, 10) ∧ tm_cs st) ∧ tm_R d 138 [.ref a, .int v1, .int v2] h (fun r h' => tm_A (d + 1) 166 6 ls (r.toList ++ st) h' K) := tm_callV (as := [.int v1, .int v2]) o166_3 rfl rfl rfl rfl
theorem o166_6 : tm_op 166 6 = some (.ifCond .ne 5, (0, 0, 0, 0)) := rfl
theorem r166_6 (d : Nat) (x : Int32) (ls : tm_Lo) (st : List Value) (h : tm_H) (K : Option Value → tm_H → Prop) : tm_A d 166 6 ls (.int x :: st) h K ↔ if ¬ x = 0 then tm_A d 166 11 ls st h K else tm_A d 166 9 ls st h K := tm_b o166_6 rfl rfl rfl rfl
theorem o166_9 : tm_op 166 9 = some (.iconst 0, (0, 0, 0, 0)) := rfl
theorem r166_9 (d : Nat) (ls : tm_Lo) (st : List Value) (h : tm_H) (K : Option Value → tm_H → Prop) : tm_A d 166 9 ls st h K ↔ tm_A d 166 10 ls (.int (0 : Int32) :: st) h K := tm_ic o166_9 (by decide)
theorem o166_10 : tm_op 166 10 = some (.ireturn, (0, 0, 0, 0)) := rfl
theorem r166_10 (d : Nat) (v : Int32) (ls : tm_Lo) (h : tm_H) (K : Option Value → tm_H → Prop) : tm_A d 166 10 ls [.int v] h K ↔ K (some (.int v)) h := tm_reti o166_10 rfl
theorem o166_11 : tm_op 166 11 = some (.aload_n 0, (0, 0, 0, 0)) := rfl
theorem r166_11 (d : Nat) (v : Nat) (l1 l2 : Option Value) (st : List Value) (h : tm_H) (K : Option Value → tm_H → Prop) : tm_A d 166 11 [some (.ref v), l1, l2] st h K ↔ tm_A d 166 12 [some (.ref v), l1, l2] (.ref v :: st) h K := tm_s o166_11 rfl rfl rfl
theorem o166_12 : tm_op 166 12 = some (.iload_n 2, (0, 0, 0, 0)) := rfl
theorem r166_12 (d : Nat) (v : Int32) (l0 l1 : Option Value) (st : List Value) (h : tm_H) (K : Option Value → tm_H → Prop) : tm_A d 166 12 [l0, l1, some (.int v)] st h K ↔ tm_A d 166 13 [l0, l1, some (.int v)] (.int v :: st) h K := tm_s o166_12 rfl rfl rfl
theorem o166_13 : tm_op 166 13 = some (.invokevirtual 194, (2, 139, 2, 10)) := rfl
theorem r166_13 (d : Nat) (v1 : Int32) (a : Nat) (ls : tm_Lo) (st : List Value) (h : tm_H) (K : Option Value → tm_H → Prop) : tm_A (d + 1) 166 13 ls (.int v1 :: .ref a :: st) h K ↔ (h.1.2.2 a = (0, 10) ∧ tm_cs st) ∧ tm_R d 139 [.ref a, .int v1] h (fun r h' => tm_A (d + 1) 166 16 ls (r.toList ++ st) h' K) := tm_callV (as := [.int v1]) o166_13 rfl rfl rfl rfl
theorem o166_16 : tm_op 166 16 = some (.aload_n 0, (0, 0, 0, 0)) := rfl
theorem r166_16 (d : Nat) (v : Nat) (l1 l2 : Option Value) (st : List Value) (h : tm_H) (K : Option Value → tm_H → Prop) : tm_A d 166 16 [some (.ref v), l1, l2] st h K ↔ tm_A d 166 17 [some (.ref v), l1, l2] (.ref v :: st) h K := tm_s o166_16 rfl rfl rfl
theorem o166_17 : tm_op 166 17 = some (.iload_n 1, (0, 0, 0, 0)) := rfl
theorem r166_17 (d : Nat) (v : Int32) (l0 l2 : Option Value) (st : List Value) (h : tm_H) (K : Option Value → tm_H → Prop) : tm_A d 166 17 [l0, some (.int v), l2] st h K ↔ tm_A d 166 18 [l0, some (.int v), l2] (.int v :: st) h K := tm_s o166_17 rfl rfl rfl
theorem o166_18 : tm_op 166 18 = some (.invokevirtual 237, (2, 165, 2, 10)) := rfl
theorem r166_18 (d : Nat) (v1 : Int32) (a : Nat) (ls : tm_Lo) (st : List Value) (h : tm_H) (K : Option Value → tm_H → Prop) : tm_A (d + 1) 166 18 ls (.int v1 :: .ref a :: st) h K ↔ (h.1.2.2 a = (0, 10) ∧ tm_cs st) ∧ tm_R d 165 [.ref a, .int v1] h (fun r h' => tm_A (d + 1) 166 21 ls (r.toList ++ st) h' K) := tm_callV (as := [.int v1]) o166_18 rfl rfl rfl rfl
theorem o166_21 : tm_op 166 21 = some (.ireturn, (0, 0, 0, 0)) := rfl
theorem r166_21 (d : Nat) (v : Int32) (ls : tm_Lo) (h : tm_H) (K : Option Value → tm_H → Prop) : tm_A d 166 21 ls [.int v] h K ↔ K (some (.int v)) h := tm_reti o166_21 rfl
theorem o167_0 : tm_op 167 0 = some (.iload_n 1, (0, 0, 0, 0)) := rfl
theorem r167_0 (d : Nat) (v : Int32) (l0 : Option Value) (st : List Value) (h : tm_H) (K : Option Value → tm_H → Prop) : tm_A d 167 0 [l0, some (.int v)] st h K ↔ tm_A d 167 1 [l0, some (.int v)] (.int v :: st) h K := tm_s o167_0 rfl rfl rfl
theorem o167_1 : tm_op 167 1 = some (.iload_n 0, (0, 0, 0, 0)) := rfl
theorem r167_1 (d : Nat) (v : Int32) (l1 : Option Value) (st : List Value) (h : tm_H) (K : Option Value → tm_H → Prop) : tm_A d 167 1 [some (.int v), l1] st h K ↔ tm_A d 167 2 [some (.int v), l1] (.int v :: st) h K := tm_s o167_1 rfl rfl rfl
theorem o167_2 : tm_op 167 2 = some (.iconst (-1), (0, 0, 0, 0)) := rfl
theorem r167_2 (d : Nat) (ls : tm_Lo) (st : List Value) (h : tm_H) (K : Option Value → tm_H → Prop) : tm_A d 167 2 ls st h K ↔ tm_A d 167 3 ls (.int (-1 : Int32) :: st) h K := tm_ic o167_2 (by decide)
theorem o167_3 : tm_op 167 3 = some (.ixor, (0, 0, 0, 0)) := rfl
theorem r167_3 (d : Nat) (u v : Int32) (ls : tm_Lo) (st : List Value) (h : tm_H) (K : Option Value → tm_H → Prop) : tm_A d 167 3 ls (.int u :: .int v :: st) h K ↔ tm_A d 167 4 ls (.int (v ^^^ u) :: st) h K := tm_s o167_3 rfl rfl rfl
theorem o167_4 : tm_op 167 4 = some (.iand, (0, 0, 0, 0)) := rfl
theorem r167_4 (d : Nat) (u v : Int32) (ls : tm_Lo) (st : List Value) (h : tm_H) (K : Option Value → tm_H → Prop) : tm_A d 167 4 ls (.int u :: .int v :: st) h K ↔ tm_A d 167 5 ls (.int (v &&& u) :: st) h K := tm_s o167_4 rfl rfl rfl
theorem o167_5 : tm_op 167 5 = some (.invokestatic 240, (1, 174, 1, 0)) := rfl
theorem r167_5 (d : Nat) (v0 : Int32) (ls : tm_Lo) (st : List Value) (h : tm_H) (K : Option Value → tm_H → Prop) : tm_A (d + 1) 167 5 ls (.int v0 :: st) h K ↔ tm_cs st ∧ tm_R d 174 [.int v0] h (fun r h' => tm_A (d + 1) 167 8 ls (r.toList ++ st) h' K) := tm_callS (as := [.int v0]) o167_5 rfl rfl rfl rfl
theorem o167_8 : tm_op 167 8 = some (.iconst 2, (0, 0, 0, 0)) := rfl
theorem r167_8 (d : Nat) (ls : tm_Lo) (st : List Value) (h : tm_H) (K : Option Value → tm_H → Prop) : tm_A d 167 8 ls st h K ↔ tm_A d 167 9 ls (.int (2 : Int32) :: st) h K := tm_ic o167_8 (by decide)
theorem o167_9 : tm_op 167 9 = some (.iload_n 0, (0, 0, 0, 0)) := rfl
theorem r167_9 (d : Nat) (v : Int32) (l1 : Option Value) (st : List Value) (h : tm_H) (K : Option Value → tm_H → Prop) : tm_A d 167 9 [some (.int v), l1] st h K ↔ tm_A d 167 10 [some (.int v), l1] (.int v :: st) h K := tm_s o167_9 rfl rfl rfl
theorem o167_10 : tm_op 167 10 = some (.iload_n 1, (0, 0, 0, 0)) := rfl
theorem r167_10 (d : Nat) (v : Int32) (l0 : Option Value) (st : List Value) (h : tm_H) (K : Option Value → tm_H → Prop) : tm_A d 167 10 [l0, some (.int v)] st h K ↔ tm_A d 167 11 [l0, some (.int v)] (.int v :: st) h K := tm_s o167_10 rfl rfl rfl
theorem o167_11 : tm_op 167 11 = some (.iconst (-1), (0, 0, 0, 0)) := rfl
theorem r167_11 (d : Nat) (ls : tm_Lo) (st : List Value) (h : tm_H) (K : Option Value → tm_H → Prop) : tm_A d 167 11 ls st h K ↔ tm_A d 167 12 ls (.int (-1 : Int32) :: st) h K := tm_ic o167_11 (by decide)
theorem o167_12 : tm_op 167 12 = some (.ixor, (0, 0, 0, 0)) := rfl
theorem r167_12 (d : Nat) (u v : Int32) (ls : tm_Lo) (st : List Value) (h : tm_H) (K : Option Value → tm_H → Prop) : tm_A d 167 12 ls (.int u :: .int v :: st) h K ↔ tm_A d 167 13 ls (.int (v ^^^ u) :: st) h K := tm_s o167_12 rfl rfl rfl
theorem o167_13 : tm_op 167 13 = some (.iand, (0, 0, 0, 0)) := rfl
theorem r167_13 (d : Nat) (u v : Int32) (ls : tm_Lo) (st : List Value) (h : tm_H) (K : Option Value → tm_H → Prop) : tm_A d 167 13 ls (.int u :: .int v :: st) h K ↔ tm_A d 167 14 ls (.int (v &&& u) :: st) h K := tm_s o167_13 rfl rfl rfl
theorem o167_14 : tm_op 167 14 = some (.invokestatic 240, (1, 174, 1, 0)) := rfl
theorem r167_14 (d : Nat) (v0 : Int32) (ls : tm_Lo) (st : List Value) (h : tm_H) (K : Option Value → tm_H → Prop) : tm_A (d + 1) 167 14 ls (.int v0 :: st) h K ↔ tm_cs st ∧ tm_R d 174 [.int v0] h (fun r h' => tm_A (d + 1) 167 17 ls (r.toList ++ st) h' K) := tm_callS (as := [.int v0]) o167_14 rfl rfl rfl rfl
theorem o167_17 : tm_op 167 17 = some (.imul, (0, 0, 0, 0)) := rfl
theorem r167_17 (d : Nat) (u v : Int32) (ls : tm_Lo) (st : List Value) (h : tm_H) (K : Option Value → tm_H → Prop) : tm_A d 167 17 ls (.int u :: .int v :: st) h K ↔ tm_A d 167 18 ls (.int (v * u) :: st) h K := tm_s o167_17 rfl rfl rfl
theorem o167_18 : tm_op 167 18 = some (.iadd, (0, 0, 0, 0)) := rfl
theorem r167_18 (d : Nat) (u v : Int32) (ls : tm_Lo) (st : List Value) (h : tm_H) (K : Option Value → tm_H → Prop) : tm_A d 167 18 ls (.int u :: .int v :: st) h K ↔ tm_A d 167 19 ls (.int (v + u) :: st) h K := tm_s o167_18 rfl rfl rfl
theorem o167_19 : tm_op 167 19 = some (.ireturn, (0, 0, 0, 0)) := rfl
theorem r167_19 (d : Nat) (v : Int32) (ls : tm_Lo) (h : tm_H) (K : Option Value → tm_H → Prop) : tm_A d 167 19 ls [.int v] h K ↔ K (some (.int v)) h := tm_reti o167_19 rfl
theorem o168_0 : tm_op 168 0 = some (.iload 4, (0, 0, 0, 0)) := rfl
theorem r168_0 (d : Nat) (v : Int32) (l0 l1 l2 l3 l5 l6 l7 : Option Value) (st : List Value) (h : tm_H) (K : Option Value → tm_H → Prop) : tm_A d 168 0 [l0, l1, l2, l3, some (.int v), l5, l6, l7] st h K ↔ tm_A d 168 2 [l0, l1, l2, l3, some (.int v), l5, l6, l7] (.int v :: st) h K := tm_s o168_0 rfl rfl rfl
theorem o168_2 : tm_op 168 2 = some (.aload_n 0, (0, 0, 0, 0)) := rfl
theorem r168_2 (d : Nat) (v : Nat) (l1 l2 l3 l4 l5 l6 l7 : Option Value) (st : List Value) (h : tm_H) (K : Option Value → tm_H → Prop) : tm_A d 168 2 [some (.ref v), l1, l2, l3, l4, l5, l6, l7] st h K ↔ tm_A d 168 3 [some (.ref v), l1, l2, l3, l4, l5, l6, l7] (.ref v :: st) h K := tm_s o168_2 rfl rfl rfl
theorem o168_3 : tm_op 168 3 = some (.getfield 13, (0, 10, 4, 0)) := rfl
theorem r168_3 (d : Nat) (a : Nat) (ls : tm_Lo) (st : List Value) (G : tm_G) (I : Nat → Nat → Int32) (J : Nat → Nat → Int64) (R : Nat → Nat → Option Nat) (K : Option Value → tm_H → Prop) : tm_A d 168 3 ls (.ref a :: st) (G, I, J, R) K ↔ G.2.2 a = (0, 10) ∧ tm_A d 168 6 ls (.int (I a 4) :: st) (G, I, J, R) K := tm_getI o168_3
theorem o168_6 : tm_op 168 6 = some (.imul, (0, 0, 0, 0)) := rfl
theorem r168_6 (d : Nat) (u v : Int32) (ls : tm_Lo) (st : List Value) (h : tm_H) (K : Option Value → tm_H → Prop) : tm_A d 168 6 ls (.int u :: .int v :: st) h K ↔ tm_A d 168 7 ls (.int (v * u) :: st) h K := tm_s o168_6 rfl rfl rfl
theorem o168_7 : tm_op 168 7 = some (.istore 5, (0, 0, 0, 0)) := rfl
theorem r168_7 (d : Nat) (v : Int32) (l0 l1 l2 l3 l4 l5 l6 l7 : Option Value) (st : List Value) (h : tm_H) (K : Option Value → tm_H → Prop) : tm_A d 168 7 [l0, l1, l2, l3, l4, l5, l6, l7] (.int v :: st) h K ↔ tm_A d 168 9 [l0, l1, l2, l3, l4, some (.int v), l6, l7] st h K := tm_s o168_7 rfl rfl rfl
theorem o168_9 : tm_op 168 9 = some (.iconst 0, (0, 0, 0, 0)) := rfl
theorem r168_9 (d : Nat) (ls : tm_Lo) (st : List Value) (h : tm_H) (K : Option Value → tm_H → Prop) : tm_A d 168 9 ls st h K ↔ tm_A d 168 10 ls (.int (0 : Int32) :: st) h K := tm_ic o168_9 (by decide)
theorem o168_10 : tm_op 168 10 = some (.istore 6, (0, 0, 0, 0)) := rfl
theorem r168_10 (d : Nat) (v : Int32) (l0 l1 l2 l3 l4 l5 l6 l7 : Option Value) (st : List Value) (h : tm_H) (K : Option Value → tm_H → Prop) : tm_A d 168 10 [l0, l1, l2, l3, l4, l5, l6, l7] (.int v :: st) h K ↔ tm_A d 168 12 [l0, l1, l2, l3, l4, l5, some (.int v), l7] st h K := tm_s o168_10 rfl rfl rfl
theorem o168_12 : tm_op 168 12 = some (.iload 6, (0, 0, 0, 0)) := rfl
theorem r168_12 (d : Nat) (v : Int32) (l0 l1 l2 l3 l4 l5 l7 : Option Value) (st : List Value) (h : tm_H) (K : Option Value → tm_H → Prop) : tm_A d 168 12 [l0, l1, l2, l3, l4, l5, some (.int v), l7] st h K ↔ tm_A d 168 14 [l0, l1, l2, l3, l4, l5, some (.int v), l7] (.int v :: st) h K := tm_s o168_12 rfl rfl rfl
theorem o168_14 : tm_op 168 14 = some (.aload_n 0, (0, 0, 0, 0)) := rfl
theorem r168_14 (d : Nat) (v : Nat) (l1 l2 l3 l4 l5 l6 l7 : Option Value) (st : List Value) (h : tm_H) (K : Option Value → tm_H → Prop) : tm_A d 168 14 [some (.ref v), l1, l2, l3, l4, l5, l6, l7] st h K ↔ tm_A d 168 15 [some (.ref v), l1, l2, l3, l4, l5, l6, l7] (.ref v :: st) h K := tm_s o168_14 rfl rfl rfl
theorem o168_15 : tm_op 168 15 = some (.getfield 159, (0, 10, 26, 0)) := rfl
theorem r168_15 (d : Nat) (a : Nat) (ls : tm_Lo) (st : List Value) (G : tm_G) (I : Nat → Nat → Int32) (J : Nat → Nat → Int64) (R : Nat → Nat → Option Nat) (K : Option Value → tm_H → Prop) : tm_A d 168 15 ls (.ref a :: st) (G, I, J, R) K ↔ G.2.2 a = (0, 10) ∧ tm_A d 168 18 ls (.int (I a 26) :: st) (G, I, J, R) K := tm_getI o168_15
theorem o168_18 : tm_op 168 18 = some (.if_icmp .ge 87, (0, 0, 0, 0)) := rfl
theorem r168_18 (d : Nat) (y x : Int32) (ls : tm_Lo) (st : List Value) (h : tm_H) (K : Option Value → tm_H → Prop) : tm_A d 168 18 ls (.int y :: .int x :: st) h K ↔ if y ≤ x then tm_A d 168 105 ls st h K else tm_A d 168 21 ls st h K := tm_b o168_18 rfl rfl rfl rfl
theorem o168_21 : tm_op 168 21 = some (.aload_n 0, (0, 0, 0, 0)) := rfl
theorem r168_21 (d : Nat) (v : Nat) (l1 l2 l3 l4 l5 l6 l7 : Option Value) (st : List Value) (h : tm_H) (K : Option Value → tm_H → Prop) : tm_A d 168 21 [some (.ref v), l1, l2, l3, l4, l5, l6, l7] st h K ↔ tm_A d 168 22 [some (.ref v), l1, l2, l3, l4, l5, l6, l7] (.ref v :: st) h K := tm_s o168_21 rfl rfl rfl
theorem o168_22 : tm_op 168 22 = some (.getfield 77, (2, 10, 35, 0)) := rfl
theorem r168_22 (d : Nat) (a : Nat) (ls : tm_Lo) (st : List Value) (G : tm_G) (I : Nat → Nat → Int32) (J : Nat → Nat → Int64) (R : Nat → Nat → Option Nat) (K : Option Value → tm_H → Prop) : tm_A d 168 22 ls (.ref a :: st) (G, I, J, R) K ↔ G.2.2 a = (0, 10) ∧ tm_A d 168 25 ls (tm_rf (R a 35) :: st) (G, I, J, R) K := tm_getR o168_22
theorem o168_25 : tm_op 168 25 = some (.iload 6, (0, 0, 0, 0)) := rfl
theorem r168_25 (d : Nat) (v : Int32) (l0 l1 l2 l3 l4 l5 l7 : Option Value) (st : List Value) (h : tm_H) (K : Option Value → tm_H → Prop) : tm_A d 168 25 [l0, l1, l2, l3, l4, l5, some (.int v), l7] st h K ↔ tm_A d 168 27 [l0, l1, l2, l3, l4, l5, some (.int v), l7] (.int v :: st) h K := tm_s o168_25 rfl rfl rfl
theorem o168_27 : tm_op 168 27 = some (.iaload, (0, 0, 0, 0)) := rfl
theorem r168_27 (d : Nat) (v : Int32) (a : Nat) (ls : tm_Lo) (st : List Value) (G : tm_G) (I : Nat → Nat → Int32) (J : Nat → Nat → Int64) (R : Nat → Nat → Option Nat) (K : Option Value → tm_H → Prop) : tm_A d 168 27 ls (.int v :: .ref a :: st) (G, I, J, R) K ↔ ((G.2.2 a).1 = 1 ∧ tm_in v (G.2.2 a).2) ∧ tm_A d 168 28 ls (.int (I a (tm_ix v)) :: st) (G, I, J, R) K := tm_iald o168_27
theorem o168_28 : tm_op 168 28 = some (.iload_n 1, (0, 0, 0, 0)) := rfl
theorem r168_28 (d : Nat) (v : Int32) (l0 l2 l3 l4 l5 l6 l7 : Option Value) (st : List Value) (h : tm_H) (K : Option Value → tm_H → Prop) : tm_A d 168 28 [l0, some (.int v), l2, l3, l4, l5, l6, l7] st h K ↔ tm_A d 168 29 [l0, some (.int v), l2, l3, l4, l5, l6, l7] (.int v :: st) h K := tm_s o168_28 rfl rfl rfl
theorem o168_29 : tm_op 168 29 = some (.invokestatic 245, (1, 167, 2, 0)) := rfl
theorem r168_29 (d : Nat) (v0 : Int32) (v1 : Int32) (ls : tm_Lo) (st : List Value) (h : tm_H) (K : Option Value → tm_H → Prop) : tm_A (d + 1) 168 29 ls (.int v1 :: .int v0 :: st) h K ↔ tm_cs st ∧ tm_R d 167 [.int v0, .int v1] h (fun r h' => tm_A (d + 1) 168 32 ls (r.toList ++ st) h' K) := tm_callS (as := [.int v0, .int v1]) o168_29 rfl rfl rfl rfl
theorem o168_32 : tm_op 168 32 = some (.istore 7, (0, 0, 0, 0)) := rfl
theorem r168_32 (d : Nat) (v : Int32) (l0 l1 l2 l3 l4 l5 l6 l7 : Option Value) (st : List Value) (h : tm_H) (K : Option Value → tm_H → Prop) : tm_A d 168 32 [l0, l1, l2, l3, l4, l5, l6, l7] (.int v :: st) h K ↔ tm_A d 168 34 [l0, l1, l2, l3, l4, l5, l6, some (.int v)] st h K := tm_s o168_32 rfl rfl rfl
theorem o168_34 : tm_op 168 34 = some (.iload 4, (0, 0, 0, 0)) := rfl
theorem r168_34 (d : Nat) (v : Int32) (l0 l1 l2 l3 l5 l6 l7 : Option Value) (st : List Value) (h : tm_H) (K : Option Value → tm_H → Prop) : tm_A d 168 34 [l0, l1, l2, l3, some (.int v), l5, l6, l7] st h K ↔ tm_A d 168 36 [l0, l1, l2, l3, some (.int v), l5, l6, l7] (.int v :: st) h K := tm_s o168_34 rfl rfl rfl
theorem o168_36 : tm_op 168 36 = some (.iconst 1, (0, 0, 0, 0)) := rfl
theorem r168_36 (d : Nat) (ls : tm_Lo) (st : List Value) (h : tm_H) (K : Option Value → tm_H → Prop) : tm_A d 168 36 ls st h K ↔ tm_A d 168 37 ls (.int (1 : Int32) :: st) h K := tm_ic o168_36 (by decide)
theorem o168_37 : tm_op 168 37 = some (.if_icmp .le 22, (0, 0, 0, 0)) := rfl
theorem r168_37 (d : Nat) (y x : Int32) (ls : tm_Lo) (st : List Value) (h : tm_H) (K : Option Value → tm_H → Prop) : tm_A d 168 37 ls (.int y :: .int x :: st) h K ↔ if x ≤ y then tm_A d 168 59 ls st h K else tm_A d 168 40 ls st h K := tm_b o168_37 rfl rfl rfl rfl
theorem o168_40 : tm_op 168 40 = some (.iload 7, (0, 0, 0, 0)) := rfl
theorem r168_40 (d : Nat) (v : Int32) (l0 l1 l2 l3 l4 l5 l6 : Option Value) (st : List Value) (h : tm_H) (K : Option Value → tm_H → Prop) : tm_A d 168 40 [l0, l1, l2, l3, l4, l5, l6, some (.int v)] st h K ↔ tm_A d 168 42 [l0, l1, l2, l3, l4, l5, l6, some (.int v)] (.int v :: st) h K := tm_s o168_40 rfl rfl rfl
theorem o168_42 : tm_op 168 42 = some (.aload_n 0, (0, 0, 0, 0)) := rfl
theorem r168_42 (d : Nat) (v : Nat) (l1 l2 l3 l4 l5 l6 l7 : Option Value) (st : List Value) (h : tm_H) (K : Option Value → tm_H → Prop) : tm_A d 168 42 [some (.ref v), l1, l2, l3, l4, l5, l6, l7] st h K ↔ tm_A d 168 43 [some (.ref v), l1, l2, l3, l4, l5, l6, l7] (.ref v :: st) h K := tm_s o168_42 rfl rfl rfl
theorem o168_43 : tm_op 168 43 = some (.getfield 77, (2, 10, 35, 0)) := rfl
theorem r168_43 (d : Nat) (a : Nat) (ls : tm_Lo) (st : List Value) (G : tm_G) (I : Nat → Nat → Int32) (J : Nat → Nat → Int64) (R : Nat → Nat → Option Nat) (K : Option Value → tm_H → Prop) : tm_A d 168 43 ls (.ref a :: st) (G, I, J, R) K ↔ G.2.2 a = (0, 10) ∧ tm_A d 168 46 ls (tm_rf (R a 35) :: st) (G, I, J, R) K := tm_getR o168_43
theorem o168_46 : tm_op 168 46 = some (.iload 6, (0, 0, 0, 0)) := rfl
theorem r168_46 (d : Nat) (v : Int32) (l0 l1 l2 l3 l4 l5 l7 : Option Value) (st : List Value) (h : tm_H) (K : Option Value → tm_H → Prop) : tm_A d 168 46 [l0, l1, l2, l3, l4, l5, some (.int v), l7] st h K ↔ tm_A d 168 48 [l0, l1, l2, l3, l4, l5, some (.int v), l7] (.int v :: st) h K := tm_s o168_46 rfl rfl rfl
theorem o168_48 : tm_op 168 48 = some (.iaload, (0, 0, 0, 0)) := rfl
theorem r168_48 (d : Nat) (v : Int32) (a : Nat) (ls : tm_Lo) (st : List Value) (G : tm_G) (I : Nat → Nat → Int32) (J : Nat → Nat → Int64) (R : Nat → Nat → Option Nat) (K : Option Value → tm_H → Prop) : tm_A d 168 48 ls (.int v :: .ref a :: st) (G, I, J, R) K ↔ ((G.2.2 a).1 = 1 ∧ tm_in v (G.2.2 a).2) ∧ tm_A d 168 49 ls (.int (I a (tm_ix v)) :: st) (G, I, J, R) K := tm_iald o168_48
theorem o168_49 : tm_op 168 49 = some (.iload_n 2, (0, 0, 0, 0)) := rfl
theorem r168_49 (d : Nat) (v : Int32) (l0 l1 l3 l4 l5 l6 l7 : Option Value) (st : List Value) (h : tm_H) (K : Option Value → tm_H → Prop) : tm_A d 168 49 [l0, l1, some (.int v), l3, l4, l5, l6, l7] st h K ↔ tm_A d 168 50 [l0, l1, some (.int v), l3, l4, l5, l6, l7] (.int v :: st) h K := tm_s o168_49 rfl rfl rfl
theorem o168_50 : tm_op 168 50 = some (.invokestatic 245, (1, 167, 2, 0)) := rfl
theorem r168_50 (d : Nat) (v0 : Int32) (v1 : Int32) (ls : tm_Lo) (st : List Value) (h : tm_H) (K : Option Value → tm_H → Prop) : tm_A (d + 1) 168 50 ls (.int v1 :: .int v0 :: st) h K ↔ tm_cs st ∧ tm_R d 167 [.int v0, .int v1] h (fun r h' => tm_A (d + 1) 168 53 ls (r.toList ++ st) h' K) := tm_callS (as := [.int v0, .int v1]) o168_50 rfl rfl rfl rfl
theorem o168_53 : tm_op 168 53 = some (.invokestatic 224, (8, 0, 0, 0)) := rfl
theorem r168_53 (d : Nat) (v0 v1 : Int32) (ls : tm_Lo) (st : List Value) (h : tm_H) (K : Option Value → tm_H → Prop) : tm_A (d + 1) 168 53 ls (.int v1 :: .int v0 :: st) h K ↔ tm_cs st ∧ tm_A (d + 1) 168 56 ls (.int (if v1 < v0 then v1 else v0) :: st) h K := tm_min o168_53 rfl rfl
theorem o168_56 : tm_op 168 56 = some (.goto 5, (0, 0, 0, 0)) := rfl
theorem r168_56 (d : Nat) (ls : tm_Lo) (st : List Value) (h : tm_H) (K : Option Value → tm_H → Prop) : tm_A d 168 56 ls st h K ↔ tm_A d 168 61 ls st h K := tm_s o168_56 rfl rfl rfl
theorem o168_59 : tm_op 168 59 = some (.iload 7, (0, 0, 0, 0)) := rfl
theorem r168_59 (d : Nat) (v : Int32) (l0 l1 l2 l3 l4 l5 l6 : Option Value) (st : List Value) (h : tm_H) (K : Option Value → tm_H → Prop) : tm_A d 168 59 [l0, l1, l2, l3, l4, l5, l6, some (.int v)] st h K ↔ tm_A d 168 61 [l0, l1, l2, l3, l4, l5, l6, some (.int v)] (.int v :: st) h K := tm_s o168_59 rfl rfl rfl
theorem o168_61 : tm_op 168 61 = some (.istore 7, (0, 0, 0, 0)) := rfl
theorem r168_61 (d : Nat) (v : Int32) (l0 l1 l2 l3 l4 l5 l6 l7 : Option Value) (st : List Value) (h : tm_H) (K : Option Value → tm_H → Prop) : tm_A d 168 61 [l0, l1, l2, l3, l4, l5, l6, l7] (.int v :: st) h K ↔ tm_A d 168 63 [l0, l1, l2, l3, l4, l5, l6, some (.int v)] st h K := tm_s o168_61 rfl rfl rfl
theorem o168_63 : tm_op 168 63 = some (.iload 4, (0, 0, 0, 0)) := rfl
theorem r168_63 (d : Nat) (v : Int32) (l0 l1 l2 l3 l5 l6 l7 : Option Value) (st : List Value) (h : tm_H) (K : Option Value → tm_H → Prop) : tm_A d 168 63 [l0, l1, l2, l3, some (.int v), l5, l6, l7] st h K ↔ tm_A d 168 65 [l0, l1, l2, l3, some (.int v), l5, l6, l7] (.int v :: st) h K := tm_s o168_63 rfl rfl rfl
theorem o168_65 : tm_op 168 65 = some (.iconst 2, (0, 0, 0, 0)) := rfl
theorem r168_65 (d : Nat) (ls : tm_Lo) (st : List Value) (h : tm_H) (K : Option Value → tm_H → Prop) : tm_A d 168 65 ls st h K ↔ tm_A d 168 66 ls (.int (2 : Int32) :: st) h K := tm_ic o168_65 (by decide)
theorem o168_66 : tm_op 168 66 = some (.if_icmp .le 22, (0, 0, 0, 0)) := rfl
theorem r168_66 (d : Nat) (y x : Int32) (ls : tm_Lo) (st : List Value) (h : tm_H) (K : Option Value → tm_H → Prop) : tm_A d 168 66 ls (.int y :: .int x :: st) h K ↔ if x ≤ y then tm_A d 168 88 ls st h K else tm_A d 168 69 ls st h K := tm_b o168_66 rfl rfl rfl rfl
theorem o168_69 : tm_op 168 69 = some (.iload 7, (0, 0, 0, 0)) := rfl
theorem r168_69 (d : Nat) (v : Int32) (l0 l1 l2 l3 l4 l5 l6 : Option Value) (st : List Value) (h : tm_H) (K : Option Value → tm_H → Prop) : tm_A d 168 69 [l0, l1, l2, l3, l4, l5, l6, some (.int v)] st h K ↔ tm_A d 168 71 [l0, l1, l2, l3, l4, l5, l6, some (.int v)] (.int v :: st) h K := tm_s o168_69 rfl rfl rfl
theorem o168_71 : tm_op 168 71 = some (.aload_n 0, (0, 0, 0, 0)) := rfl
theorem r168_71 (d : Nat) (v : Nat) (l1 l2 l3 l4 l5 l6 l7 : Option Value) (st : List Value) (h : tm_H) (K : Option Value → tm_H → Prop) : tm_A d 168 71 [some (.ref v), l1, l2, l3, l4, l5, l6, l7] st h K ↔ tm_A d 168 72 [some (.ref v), l1, l2, l3, l4, l5, l6, l7] (.ref v :: st) h K := tm_s o168_71 rfl rfl rfl
theorem o168_72 : tm_op 168 72 = some (.getfield 77, (2, 10, 35, 0)) := rfl
theorem r168_72 (d : Nat) (a : Nat) (ls : tm_Lo) (st : List Value) (G : tm_G) (I : Nat → Nat → Int32) (J : Nat → Nat → Int64) (R : Nat → Nat → Option Nat) (K : Option Value → tm_H → Prop) : tm_A d 168 72 ls (.ref a :: st) (G, I, J, R) K ↔ G.2.2 a = (0, 10) ∧ tm_A d 168 75 ls (tm_rf (R a 35) :: st) (G, I, J, R) K := tm_getR o168_72
theorem o168_75 : tm_op 168 75 = some (.iload 6, (0, 0, 0, 0)) := rfl
theorem r168_75 (d : Nat) (v : Int32) (l0 l1 l2 l3 l4 l5 l7 : Option Value) (st : List Value) (h : tm_H) (K : Option Value → tm_H → Prop) : tm_A d 168 75 [l0, l1, l2, l3, l4, l5, some (.int v), l7] st h K ↔ tm_A d 168 77 [l0, l1, l2, l3, l4, l5, some (.int v), l7] (.int v :: st) h K := tm_s o168_75 rfl rfl rfl
theorem o168_77 : tm_op 168 77 = some (.iaload, (0, 0, 0, 0)) := rfl
theorem r168_77 (d : Nat) (v : Int32) (a : Nat) (ls : tm_Lo) (st : List Value) (G : tm_G) (I : Nat → Nat → Int32) (J : Nat → Nat → Int64) (R : Nat → Nat → Option Nat) (K : Option Value → tm_H → Prop) : tm_A d 168 77 ls (.int v :: .ref a :: st) (G, I, J, R) K ↔ ((G.2.2 a).1 = 1 ∧ tm_in v (G.2.2 a).2) ∧ tm_A d 168 78 ls (.int (I a (tm_ix v)) :: st) (G, I, J, R) K := tm_iald o168_77
theorem o168_78 : tm_op 168 78 = some (.iload_n 3, (0, 0, 0, 0)) := rfl
theorem r168_78 (d : Nat) (v : Int32) (l0 l1 l2 l4 l5 l6 l7 : Option Value) (st : List Value) (h : tm_H) (K : Option Value → tm_H → Prop) : tm_A d 168 78 [l0, l1, l2, some (.int v), l4, l5, l6, l7] st h K ↔ tm_A d 168 79 [l0, l1, l2, some (.int v), l4, l5, l6, l7] (.int v :: st) h K := tm_s o168_78 rfl rfl rfl
theorem o168_79 : tm_op 168 79 = some (.invokestatic 245, (1, 167, 2, 0)) := rfl
theorem r168_79 (d : Nat) (v0 : Int32) (v1 : Int32) (ls : tm_Lo) (st : List Value) (h : tm_H) (K : Option Value → tm_H → Prop) : tm_A (d + 1) 168 79 ls (.int v1 :: .int v0 :: st) h K ↔ tm_cs st ∧ tm_R d 167 [.int v0, .int v1] h (fun r h' => tm_A (d + 1) 168 82 ls (r.toList ++ st) h' K) := tm_callS (as := [.int v0, .int v1]) o168_79 rfl rfl rfl rfl
theorem o168_82 : tm_op 168 82 = some (.invokestatic 224, (8, 0, 0, 0)) := rfl
theorem r168_82 (d : Nat) (v0 v1 : Int32) (ls : tm_Lo) (st : List Value) (h : tm_H) (K : Option Value → tm_H → Prop) : tm_A (d + 1) 168 82 ls (.int v1 :: .int v0 :: st) h K ↔ tm_cs st ∧ tm_A (d + 1) 168 85 ls (.int (if v1 < v0 then v1 else v0) :: st) h K := tm_min o168_82 rfl rfl
theorem o168_85 : tm_op 168 85 = some (.goto 5, (0, 0, 0, 0)) := rfl
theorem r168_85 (d : Nat) (ls : tm_Lo) (st : List Value) (h : tm_H) (K : Option Value → tm_H → Prop) : tm_A d 168 85 ls st h K ↔ tm_A d 168 90 ls st h K := tm_s o168_85 rfl rfl rfl
theorem o168_88 : tm_op 168 88 = some (.iload 7, (0, 0, 0, 0)) := rfl
theorem r168_88 (d : Nat) (v : Int32) (l0 l1 l2 l3 l4 l5 l6 : Option Value) (st : List Value) (h : tm_H) (K : Option Value → tm_H → Prop) : tm_A d 168 88 [l0, l1, l2, l3, l4, l5, l6, some (.int v)] st h K ↔ tm_A d 168 90 [l0, l1, l2, l3, l4, l5, l6, some (.int v)] (.int v :: st) h K := tm_s o168_88 rfl rfl rfl
theorem o168_90 : tm_op 168 90 = some (.istore 7, (0, 0, 0, 0)) := rfl
theorem r168_90 (d : Nat) (v : Int32) (l0 l1 l2 l3 l4 l5 l6 l7 : Option Value) (st : List Value) (h : tm_H) (K : Option Value → tm_H → Prop) : tm_A d 168 90 [l0, l1, l2, l3, l4, l5, l6, l7] (.int v :: st) h K ↔ tm_A d 168 92 [l0, l1, l2, l3, l4, l5, l6, some (.int v)] st h K := tm_s o168_90 rfl rfl rfl
theorem o168_92 : tm_op 168 92 = some (.iload 5, (0, 0, 0, 0)) := rfl
theorem r168_92 (d : Nat) (v : Int32) (l0 l1 l2 l3 l4 l6 l7 : Option Value) (st : List Value) (h : tm_H) (K : Option Value → tm_H → Prop) : tm_A d 168 92 [l0, l1, l2, l3, l4, some (.int v), l6, l7] st h K ↔ tm_A d 168 94 [l0, l1, l2, l3, l4, some (.int v), l6, l7] (.int v :: st) h K := tm_s o168_92 rfl rfl rfl
theorem o168_94 : tm_op 168 94 = some (.iload 7, (0, 0, 0, 0)) := rfl
theorem r168_94 (d : Nat) (v : Int32) (l0 l1 l2 l3 l4 l5 l6 : Option Value) (st : List Value) (h : tm_H) (K : Option Value → tm_H → Prop) : tm_A d 168 94 [l0, l1, l2, l3, l4, l5, l6, some (.int v)] st h K ↔ tm_A d 168 96 [l0, l1, l2, l3, l4, l5, l6, some (.int v)] (.int v :: st) h K := tm_s o168_94 rfl rfl rfl
theorem o168_96 : tm_op 168 96 = some (.iadd, (0, 0, 0, 0)) := rfl
theorem r168_96 (d : Nat) (u v : Int32) (ls : tm_Lo) (st : List Value) (h : tm_H) (K : Option Value → tm_H → Prop) : tm_A d 168 96 ls (.int u :: .int v :: st) h K ↔ tm_A d 168 97 ls (.int (v + u) :: st) h K := tm_s o168_96 rfl rfl rfl
theorem o168_97 : tm_op 168 97 = some (.istore 5, (0, 0, 0, 0)) := rfl
theorem r168_97 (d : Nat) (v : Int32) (l0 l1 l2 l3 l4 l5 l6 l7 : Option Value) (st : List Value) (h : tm_H) (K : Option Value → tm_H → Prop) : tm_A d 168 97 [l0, l1, l2, l3, l4, l5, l6, l7] (.int v :: st) h K ↔ tm_A d 168 99 [l0, l1, l2, l3, l4, some (.int v), l6, l7] st h K := tm_s o168_97 rfl rfl rfl
theorem o168_99 : tm_op 168 99 = some (.iinc 6 1, (0, 0, 0, 0)) := rfl
theorem r168_99 (d : Nat) (v : Int32) (l0 l1 l2 l3 l4 l5 l7 : Option Value) (st : List Value) (h : tm_H) (K : Option Value → tm_H → Prop) : tm_A d 168 99 [l0, l1, l2, l3, l4, l5, some (.int v), l7] st h K ↔ tm_A d 168 102 [l0, l1, l2, l3, l4, l5, some (.int (v + (1 : Int32))), l7] st h K := tm_s o168_99 rfl rfl rfl
theorem o168_102 : tm_op 168 102 = some (.goto (-90), (0, 0, 0, 0)) := rfl
theorem r168_102 (d : Nat) (ls : tm_Lo) (st : List Value) (h : tm_H) (K : Option Value → tm_H → Prop) : tm_A d 168 102 ls st h K ↔ tm_A d 168 12 ls st h K := tm_s o168_102 rfl rfl rfl
theorem o168_105 : tm_op 168 105 = some (.iload 5, (0, 0, 0, 0)) := rfl
theorem r168_105 (d : Nat) (v : Int32) (l0 l1 l2 l3 l4 l6 l7 : Option Value) (st : List Value) (h : tm_H) (K : Option Value → tm_H → Prop) : tm_A d 168 105 [l0, l1, l2, l3, l4, some (.int v), l6, l7] st h K ↔ tm_A d 168 107 [l0, l1, l2, l3, l4, some (.int v), l6, l7] (.int v :: st) h K := tm_s o168_105 rfl rfl rfl
theorem o168_107 : tm_op 168 107 = some (.ireturn, (0, 0, 0, 0)) := rfl
theorem r168_107 (d : Nat) (v : Int32) (ls : tm_Lo) (h : tm_H) (K : Option Value → tm_H → Prop) : tm_A d 168 107 ls [.int v] h K ↔ K (some (.int v)) h := tm_reti o168_107 rfl
theorem o169_0 : tm_op 169 0 = some (.aload_n 0, (0, 0, 0, 0)) := rfl
theorem r169_0 (d : Nat) (v : Nat) (l1 l2 l3 l4 l5 : Option Value) (st : List Value) (h : tm_H) (K : Option Value → tm_H → Prop) : tm_A d 169 0 [some (.ref v), l1, l2, l3, l4, l5] st h K ↔ tm_A d 169 1 [some (.ref v), l1, l2, l3, l4, l5] (.ref v :: st) h K := tm_s o169_0 rfl rfl rfl
theorem o169_1 : tm_op 169 1 = some (.iload_n 1, (0, 0, 0, 0)) := rfl
theorem r169_1 (d : Nat) (v : Int32) (l0 l2 l3 l4 l5 : Option Value) (st : List Value) (h : tm_H) (K : Option Value → tm_H → Prop) : tm_A d 169 1 [l0, some (.int v), l2, l3, l4, l5] st h K ↔ tm_A d 169 2 [l0, some (.int v), l2, l3, l4, l5] (.int v :: st) h K := tm_s o169_1 rfl rfl rfl
theorem o169_2 : tm_op 169 2 = some (.iload_n 2, (0, 0, 0, 0)) := rfl
theorem r169_2 (d : Nat) (v : Int32) (l0 l1 l3 l4 l5 : Option Value) (st : List Value) (h : tm_H) (K : Option Value → tm_H → Prop) : tm_A d 169 2 [l0, l1, some (.int v), l3, l4, l5] st h K ↔ tm_A d 169 3 [l0, l1, some (.int v), l3, l4, l5] (.int v :: st) h K := tm_s o169_2 rfl rfl rfl
theorem o169_3 : tm_op 169 3 = some (.iload_n 3, (0, 0, 0, 0)) := rfl
theorem r169_3 (d : Nat) (v : Int32) (l0 l1 l2 l4 l5 : Option Value) (st : List Value) (h : tm_H) (K : Option Value → tm_H → Prop) : tm_A d 169 3 [l0, l1, l2, some (.int v), l4, l5] st h K ↔ tm_A d 169 4 [l0, l1, l2, some (.int v), l4, l5] (.int v :: st) h K := tm_s o169_3 rfl rfl rfl
theorem o169_4 : tm_op 169 4 = some (.iload 4, (0, 0, 0, 0)) := rfl
theorem r169_4 (d : Nat) (v : Int32) (l0 l1 l2 l3 l5 : Option Value) (st : List Value) (h : tm_H) (K : Option Value → tm_H → Prop) : tm_A d 169 4 [l0, l1, l2, l3, some (.int v), l5] st h K ↔ tm_A d 169 6 [l0, l1, l2, l3, some (.int v), l5] (.int v :: st) h K := tm_s o169_4 rfl rfl rfl
theorem o169_6 : tm_op 169 6 = some (.invokevirtual 248, (2, 168, 5, 10)) := rfl
theorem r169_6 (d : Nat) (v1 : Int32) (v2 : Int32) (v3 : Int32) (v4 : Int32) (a : Nat) (ls : tm_Lo) (st : List Value) (h : tm_H) (K : Option Value → tm_H → Prop) : tm_A (d + 1) 169 6 ls (.int v4 :: .int v3 :: .int v2 :: .int v1 :: .ref a :: st) h K ↔ (h.1.2.2 a = (0, 10) ∧ tm_cs st) ∧ tm_R d 168 [.ref a, .int v1, .int v2, .int v3, .int v4] h (fun r h' => tm_A (d + 1) 169 9 ls (r.toList ++ st) h' K) := tm_callV (as := [.int v1, .int v2, .int v3, .int v4]) o169_6 rfl rfl rfl rfl
theorem o169_9 : tm_op 169 9 = some (.istore 5, (0, 0, 0, 0)) := rfl
theorem r169_9 (d : Nat) (v : Int32) (l0 l1 l2 l3 l4 l5 : Option Value) (st : List Value) (h : tm_H) (K : Option Value → tm_H → Prop) : tm_A d 169 9 [l0, l1, l2, l3, l4, l5] (.int v :: st) h K ↔ tm_A d 169 11 [l0, l1, l2, l3, l4, some (.int v)] st h K := tm_s o169_9 rfl rfl rfl
theorem o169_11 : tm_op 169 11 = some (.aload_n 0, (0, 0, 0, 0)) := rfl
theorem r169_11 (d : Nat) (v : Nat) (l1 l2 l3 l4 l5 : Option Value) (st : List Value) (h : tm_H) (K : Option Value → tm_H → Prop) : tm_A d 169 11 [some (.ref v), l1, l2, l3, l4, l5] st h K ↔ tm_A d 169 12 [some (.ref v), l1, l2, l3, l4, l5] (.ref v :: st) h K := tm_s o169_11 rfl rfl rfl
theorem o169_12 : tm_op 169 12 = some (.getfield 252, (0, 10, 37, 0)) := rfl
theorem r169_12 (d : Nat) (a : Nat) (ls : tm_Lo) (st : List Value) (G : tm_G) (I : Nat → Nat → Int32) (J : Nat → Nat → Int64) (R : Nat → Nat → Option Nat) (K : Option Value → tm_H → Prop) : tm_A d 169 12 ls (.ref a :: st) (G, I, J, R) K ↔ G.2.2 a = (0, 10) ∧ tm_A d 169 15 ls (.int (I a 37) :: st) (G, I, J, R) K := tm_getI o169_12
theorem o169_15 : tm_op 169 15 = some (.ifCond .eq 12, (0, 0, 0, 0)) := rfl
theorem r169_15 (d : Nat) (x : Int32) (ls : tm_Lo) (st : List Value) (h : tm_H) (K : Option Value → tm_H → Prop) : tm_A d 169 15 ls (.int x :: st) h K ↔ if x = 0 then tm_A d 169 27 ls st h K else tm_A d 169 18 ls st h K := tm_b o169_15 rfl rfl rfl rfl
theorem o169_18 : tm_op 169 18 = some (.iload 5, (0, 0, 0, 0)) := rfl
theorem r169_18 (d : Nat) (v : Int32) (l0 l1 l2 l3 l4 : Option Value) (st : List Value) (h : tm_H) (K : Option Value → tm_H → Prop) : tm_A d 169 18 [l0, l1, l2, l3, l4, some (.int v)] st h K ↔ tm_A d 169 20 [l0, l1, l2, l3, l4, some (.int v)] (.int v :: st) h K := tm_s o169_18 rfl rfl rfl
theorem o169_20 : tm_op 169 20 = some (.aload_n 0, (0, 0, 0, 0)) := rfl
theorem r169_20 (d : Nat) (v : Nat) (l1 l2 l3 l4 l5 : Option Value) (st : List Value) (h : tm_H) (K : Option Value → tm_H → Prop) : tm_A d 169 20 [some (.ref v), l1, l2, l3, l4, l5] st h K ↔ tm_A d 169 21 [some (.ref v), l1, l2, l3, l4, l5] (.ref v :: st) h K := tm_s o169_20 rfl rfl rfl
theorem o169_21 : tm_op 169 21 = some (.getfield 255, (0, 10, 38, 0)) := rfl
theorem r169_21 (d : Nat) (a : Nat) (ls : tm_Lo) (st : List Value) (G : tm_G) (I : Nat → Nat → Int32) (J : Nat → Nat → Int64) (R : Nat → Nat → Option Nat) (K : Option Value → tm_H → Prop) : tm_A d 169 21 ls (.ref a :: st) (G, I, J, R) K ↔ G.2.2 a = (0, 10) ∧ tm_A d 169 24 ls (.int (I a 38) :: st) (G, I, J, R) K := tm_getI o169_21
theorem o169_24 : tm_op 169 24 = some (.if_icmp .ge 36, (0, 0, 0, 0)) := rfl
theorem r169_24 (d : Nat) (y x : Int32) (ls : tm_Lo) (st : List Value) (h : tm_H) (K : Option Value → tm_H → Prop) : tm_A d 169 24 ls (.int y :: .int x :: st) h K ↔ if y ≤ x then tm_A d 169 60 ls st h K else tm_A d 169 27 ls st h K := tm_b o169_24 rfl rfl rfl rfl
theorem o169_27 : tm_op 169 27 = some (.aload_n 0, (0, 0, 0, 0)) := rfl
theorem r169_27 (d : Nat) (v : Nat) (l1 l2 l3 l4 l5 : Option Value) (st : List Value) (h : tm_H) (K : Option Value → tm_H → Prop) : tm_A d 169 27 [some (.ref v), l1, l2, l3, l4, l5] st h K ↔ tm_A d 169 28 [some (.ref v), l1, l2, l3, l4, l5] (.ref v :: st) h K := tm_s o169_27 rfl rfl rfl
theorem o169_28 : tm_op 169 28 = some (.iload 4, (0, 0, 0, 0)) := rfl
theorem r169_28 (d : Nat) (v : Int32) (l0 l1 l2 l3 l5 : Option Value) (st : List Value) (h : tm_H) (K : Option Value → tm_H → Prop) : tm_A d 169 28 [l0, l1, l2, l3, some (.int v), l5] st h K ↔ tm_A d 169 30 [l0, l1, l2, l3, some (.int v), l5] (.int v :: st) h K := tm_s o169_28 rfl rfl rfl
theorem o169_30 : tm_op 169 30 = some (.putfield 252, (0, 10, 37, 0)) := rfl
theorem r169_30 (d : Nat) (v : Int32) (a : Nat) (ls : tm_Lo) (st : List Value) (G : tm_G) (I : Nat → Nat → Int32) (J : Nat → Nat → Int64) (R : Nat → Nat → Option Nat) (K : Option Value → tm_H → Prop) : tm_A d 169 30 ls (.int v :: .ref a :: st) (G, I, J, R) K ↔ G.2.2 a = (0, 10) ∧ tm_A d 169 33 ls st (G, up2 I a 37 v, J, R) K := tm_putI o169_30
theorem o169_33 : tm_op 169 33 = some (.aload_n 0, (0, 0, 0, 0)) := rfl
theorem r169_33 (d : Nat) (v : Nat) (l1 l2 l3 l4 l5 : Option Value) (st : List Value) (h : tm_H) (K : Option Value → tm_H → Prop) : tm_A d 169 33 [some (.ref v), l1, l2, l3, l4, l5] st h K ↔ tm_A d 169 34 [some (.ref v), l1, l2, l3, l4, l5] (.ref v :: st) h K := tm_s o169_33 rfl rfl rfl
theorem o169_34 : tm_op 169 34 = some (.iload 5, (0, 0, 0, 0)) := rfl
theorem r169_34 (d : Nat) (v : Int32) (l0 l1 l2 l3 l4 : Option Value) (st : List Value) (h : tm_H) (K : Option Value → tm_H → Prop) : tm_A d 169 34 [l0, l1, l2, l3, l4, some (.int v)] st h K ↔ tm_A d 169 36 [l0, l1, l2, l3, l4, some (.int v)] (.int v :: st) h K := tm_s o169_34 rfl rfl rfl
theorem o169_36 : tm_op 169 36 = some (.putfield 255, (0, 10, 38, 0)) := rfl
theorem r169_36 (d : Nat) (v : Int32) (a : Nat) (ls : tm_Lo) (st : List Value) (G : tm_G) (I : Nat → Nat → Int32) (J : Nat → Nat → Int64) (R : Nat → Nat → Option Nat) (K : Option Value → tm_H → Prop) : tm_A d 169 36 ls (.int v :: .ref a :: st) (G, I, J, R) K ↔ G.2.2 a = (0, 10) ∧ tm_A d 169 39 ls st (G, up2 I a 38 v, J, R) K := tm_putI o169_36
theorem o169_39 : tm_op 169 39 = some (.aload_n 0, (0, 0, 0, 0)) := rfl
theorem r169_39 (d : Nat) (v : Nat) (l1 l2 l3 l4 l5 : Option Value) (st : List Value) (h : tm_H) (K : Option Value → tm_H → Prop) : tm_A d 169 39 [some (.ref v), l1, l2, l3, l4, l5] st h K ↔ tm_A d 169 40 [some (.ref v), l1, l2, l3, l4, l5] (.ref v :: st) h K := tm_s o169_39 rfl rfl rfl
theorem o169_40 : tm_op 169 40 = some (.getfield 80, (2, 10, 36, 0)) := rfl
theorem r169_40 (d : Nat) (a : Nat) (ls : tm_Lo) (st : List Value) (G : tm_G) (I : Nat → Nat → Int32) (J : Nat → Nat → Int64) (R : Nat → Nat → Option Nat) (K : Option Value → tm_H → Prop) : tm_A d 169 40 ls (.ref a :: st) (G, I, J, R) K ↔ G.2.2 a = (0, 10) ∧ tm_A d 169 43 ls (tm_rf (R a 36) :: st) (G, I, J, R) K := tm_getR o169_40
theorem o169_43 : tm_op 169 43 = some (.iconst 0, (0, 0, 0, 0)) := rfl
theorem r169_43 (d : Nat) (ls : tm_Lo) (st : List Value) (h : tm_H) (K : Option Value → tm_H → Prop) : tm_A d 169 43 ls st h K ↔ tm_A d 169 44 ls (.int (0 : Int32) :: st) h K := tm_ic o169_43 (by decide)
theorem o169_44 : tm_op 169 44 = some (.iload_n 1, (0, 0, 0, 0)) := rfl
theorem r169_44 (d : Nat) (v : Int32) (l0 l2 l3 l4 l5 : Option Value) (st : List Value) (h : tm_H) (K : Option Value → tm_H → Prop) : tm_A d 169 44 [l0, some (.int v), l2, l3, l4, l5] st h K ↔ tm_A d 169 45 [l0, some (.int v), l2, l3, l4, l5] (.int v :: st) h K := tm_s o169_44 rfl rfl rfl
theorem o169_45 : tm_op 169 45 = some (.iastore, (0, 0, 0, 0)) := rfl
theorem r169_45 (d : Nat) (u v : Int32) (a : Nat) (ls : tm_Lo) (st : List Value) (G : tm_G) (I : Nat → Nat → Int32) (J : Nat → Nat → Int64) (R : Nat → Nat → Option Nat) (K : Option Value → tm_H → Prop) : tm_A d 169 45 ls (.int u :: .int v :: .ref a :: st) (G, I, J, R) K ↔ (3 ≤ a ∧ (G.2.2 a).1 = 1 ∧ tm_in v (G.2.2 a).2) ∧ tm_A d 169 46 ls st (G, up2 I a (tm_ix v) u, J, R) K := tm_iast o169_45
theorem o169_46 : tm_op 169 46 = some (.aload_n 0, (0, 0, 0, 0)) := rfl
theorem r169_46 (d : Nat) (v : Nat) (l1 l2 l3 l4 l5 : Option Value) (st : List Value) (h : tm_H) (K : Option Value → tm_H → Prop) : tm_A d 169 46 [some (.ref v), l1, l2, l3, l4, l5] st h K ↔ tm_A d 169 47 [some (.ref v), l1, l2, l3, l4, l5] (.ref v :: st) h K := tm_s o169_46 rfl rfl rfl
theorem o169_47 : tm_op 169 47 = some (.getfield 80, (2, 10, 36, 0)) := rfl
theorem r169_47 (d : Nat) (a : Nat) (ls : tm_Lo) (st : List Value) (G : tm_G) (I : Nat → Nat → Int32) (J : Nat → Nat → Int64) (R : Nat → Nat → Option Nat) (K : Option Value → tm_H → Prop) : tm_A d 169 47 ls (.ref a :: st) (G, I, J, R) K ↔ G.2.2 a = (0, 10) ∧ tm_A d 169 50 ls (tm_rf (R a 36) :: st) (G, I, J, R) K := tm_getR o169_47
theorem o169_50 : tm_op 169 50 = some (.iconst 1, (0, 0, 0, 0)) := rfl
theorem r169_50 (d : Nat) (ls : tm_Lo) (st : List Value) (h : tm_H) (K : Option Value → tm_H → Prop) : tm_A d 169 50 ls st h K ↔ tm_A d 169 51 ls (.int (1 : Int32) :: st) h K := tm_ic o169_50 (by decide)
theorem o169_51 : tm_op 169 51 = some (.iload_n 2, (0, 0, 0, 0)) := rfl
theorem r169_51 (d : Nat) (v : Int32) (l0 l1 l3 l4 l5 : Option Value) (st : List Value) (h : tm_H) (K : Option Value → tm_H → Prop) : tm_A d 169 51 [l0, l1, some (.int v), l3, l4, l5] st h K ↔ tm_A d 169 52 [l0, l1, some (.int v), l3, l4, l5] (.int v :: st) h K := tm_s o169_51 rfl rfl rfl
theorem o169_52 : tm_op 169 52 = some (.iastore, (0, 0, 0, 0)) := rfl
theorem r169_52 (d : Nat) (u v : Int32) (a : Nat) (ls : tm_Lo) (st : List Value) (G : tm_G) (I : Nat → Nat → Int32) (J : Nat → Nat → Int64) (R : Nat → Nat → Option Nat) (K : Option Value → tm_H → Prop) : tm_A d 169 52 ls (.int u :: .int v :: .ref a :: st) (G, I, J, R) K ↔ (3 ≤ a ∧ (G.2.2 a).1 = 1 ∧ tm_in v (G.2.2 a).2) ∧ tm_A d 169 53 ls st (G, up2 I a (tm_ix v) u, J, R) K := tm_iast o169_52
theorem o169_53 : tm_op 169 53 = some (.aload_n 0, (0, 0, 0, 0)) := rfl
theorem r169_53 (d : Nat) (v : Nat) (l1 l2 l3 l4 l5 : Option Value) (st : List Value) (h : tm_H) (K : Option Value → tm_H → Prop) : tm_A d 169 53 [some (.ref v), l1, l2, l3, l4, l5] st h K ↔ tm_A d 169 54 [some (.ref v), l1, l2, l3, l4, l5] (.ref v :: st) h K := tm_s o169_53 rfl rfl rfl
theorem o169_54 : tm_op 169 54 = some (.getfield 80, (2, 10, 36, 0)) := rfl
theorem r169_54 (d : Nat) (a : Nat) (ls : tm_Lo) (st : List Value) (G : tm_G) (I : Nat → Nat → Int32) (J : Nat → Nat → Int64) (R : Nat → Nat → Option Nat) (K : Option Value → tm_H → Prop) : tm_A d 169 54 ls (.ref a :: st) (G, I, J, R) K ↔ G.2.2 a = (0, 10) ∧ tm_A d 169 57 ls (tm_rf (R a 36) :: st) (G, I, J, R) K := tm_getR o169_54
theorem o169_57 : tm_op 169 57 = some (.iconst 2, (0, 0, 0, 0)) := rfl
theorem r169_57 (d : Nat) (ls : tm_Lo) (st : List Value) (h : tm_H) (K : Option Value → tm_H → Prop) : tm_A d 169 57 ls st h K ↔ tm_A d 169 58 ls (.int (2 : Int32) :: st) h K := tm_ic o169_57 (by decide)
theorem o169_58 : tm_op 169 58 = some (.iload_n 3, (0, 0, 0, 0)) := rfl
theorem r169_58 (d : Nat) (v : Int32) (l0 l1 l2 l4 l5 : Option Value) (st : List Value) (h : tm_H) (K : Option Value → tm_H → Prop) : tm_A d 169 58 [l0, l1, l2, some (.int v), l4, l5] st h K ↔ tm_A d 169 59 [l0, l1, l2, some (.int v), l4, l5] (.int v :: st) h K := tm_s o169_58 rfl rfl rfl
theorem o169_59 : tm_op 169 59 = some (.iastore, (0, 0, 0, 0)) := rfl
theorem r169_59 (d : Nat) (u v : Int32) (a : Nat) (ls : tm_Lo) (st : List Value) (G : tm_G) (I : Nat → Nat → Int32) (J : Nat → Nat → Int64) (R : Nat → Nat → Option Nat) (K : Option Value → tm_H → Prop) : tm_A d 169 59 ls (.int u :: .int v :: .ref a :: st) (G, I, J, R) K ↔ (3 ≤ a ∧ (G.2.2 a).1 = 1 ∧ tm_in v (G.2.2 a).2) ∧ tm_A d 169 60 ls st (G, up2 I a (tm_ix v) u, J, R) K := tm_iast o169_59
theorem o169_60 : tm_op 169 60 = some (.return_, (0, 0, 0, 0)) := rfl
theorem r169_60 (d : Nat) (ls : tm_Lo) (h : tm_H) (K : Option Value → tm_H → Prop) : tm_A d 169 60 ls [] h K ↔ K none h := tm_retv o169_60 rfl
theorem o170_0 : tm_op 170 0 = some (.aload_n 0, (0, 0, 0, 0)) := rfl
theorem r170_0 (d : Nat) (v : Nat) (l1 l2 l3 l4 : Option Value) (st : List Value) (h : tm_H) (K : Option Value → tm_H → Prop) : tm_A d 170 0 [some (.ref v), l1, l2, l3, l4] st h K ↔ tm_A d 170 1 [some (.ref v), l1, l2, l3, l4] (.ref v :: st) h K := tm_s o170_0 rfl rfl rfl
theorem o170_1 : tm_op 170 1 = some (.iload_n 1, (0, 0, 0, 0)) := rfl
theorem r170_1 (d : Nat) (v : Int32) (l0 l2 l3 l4 : Option Value) (st : List Value) (h : tm_H) (K : Option Value → tm_H → Prop) : tm_A d 170 1 [l0, some (.int v), l2, l3, l4] st h K ↔ tm_A d 170 2 [l0, some (.int v), l2, l3, l4] (.int v :: st) h K := tm_s o170_1 rfl rfl rfl
theorem o170_2 : tm_op 170 2 = some (.invokevirtual 194, (2, 139, 2, 10)) := rfl
theorem r170_2 (d : Nat) (v1 : Int32) (a : Nat) (ls : tm_Lo) (st : List Value) (h : tm_H) (K : Option Value → tm_H → Prop) : tm_A (d + 1) 170 2 ls (.int v1 :: .ref a :: st) h K ↔ (h.1.2.2 a = (0, 10) ∧ tm_cs st) ∧ tm_R d 139 [.ref a, .int v1] h (fun r h' => tm_A (d + 1) 170 5 ls (r.toList ++ st) h' K) := tm_callV (as := [.int v1]) o170_2 rfl rfl rfl rfl
theorem o170_5 : tm_op 170 5 = some (.aload_n 0, (0, 0, 0, 0)) := rfl
theorem r170_5 (d : Nat) (v : Nat) (l1 l2 l3 l4 : Option Value) (st : List Value) (h : tm_H) (K : Option Value → tm_H → Prop) : tm_A d 170 5 [some (.ref v), l1, l2, l3, l4] st h K ↔ tm_A d 170 6 [some (.ref v), l1, l2, l3, l4] (.ref v :: st) h K := tm_s o170_5 rfl rfl rfl
theorem o170_6 : tm_op 170 6 = some (.iconst 0, (0, 0, 0, 0)) := rfl
theorem r170_6 (d : Nat) (ls : tm_Lo) (st : List Value) (h : tm_H) (K : Option Value → tm_H → Prop) : tm_A d 170 6 ls st h K ↔ tm_A d 170 7 ls (.int (0 : Int32) :: st) h K := tm_ic o170_6 (by decide)
theorem o170_7 : tm_op 170 7 = some (.putfield 252, (0, 10, 37, 0)) := rfl
theorem r170_7 (d : Nat) (v : Int32) (a : Nat) (ls : tm_Lo) (st : List Value) (G : tm_G) (I : Nat → Nat → Int32) (J : Nat → Nat → Int64) (R : Nat → Nat → Option Nat) (K : Option Value → tm_H → Prop) : tm_A d 170 7 ls (.int v :: .ref a :: st) (G, I, J, R) K ↔ G.2.2 a = (0, 10) ∧ tm_A d 170 10 ls st (G, up2 I a 37 v, J, R) K := tm_putI o170_7
theorem o170_10 : tm_op 170 10 = some (.aload_n 0, (0, 0, 0, 0)) := rfl
theorem r170_10 (d : Nat) (v : Nat) (l1 l2 l3 l4 : Option Value) (st : List Value) (h : tm_H) (K : Option Value → tm_H → Prop) : tm_A d 170 10 [some (.ref v), l1, l2, l3, l4] st h K ↔ tm_A d 170 11 [some (.ref v), l1, l2, l3, l4] (.ref v :: st) h K := tm_s o170_10 rfl rfl rfl
theorem o170_11 : tm_op 170 11 = some (.iconst 0, (0, 0, 0, 0)) := rfl
theorem r170_11 (d : Nat) (ls : tm_Lo) (st : List Value) (h : tm_H) (K : Option Value → tm_H → Prop) : tm_A d 170 11 ls st h K ↔ tm_A d 170 12 ls (.int (0 : Int32) :: st) h K := tm_ic o170_11 (by decide)
theorem o170_12 : tm_op 170 12 = some (.putfield 255, (0, 10, 38, 0)) := rfl
theorem r170_12 (d : Nat) (v : Int32) (a : Nat) (ls : tm_Lo) (st : List Value) (G : tm_G) (I : Nat → Nat → Int32) (J : Nat → Nat → Int64) (R : Nat → Nat → Option Nat) (K : Option Value → tm_H → Prop) : tm_A d 170 12 ls (.int v :: .ref a :: st) (G, I, J, R) K ↔ G.2.2 a = (0, 10) ∧ tm_A d 170 15 ls st (G, up2 I a 38 v, J, R) K := tm_putI o170_12
theorem o170_15 : tm_op 170 15 = some (.aload_n 0, (0, 0, 0, 0)) := rfl
theorem r170_15 (d : Nat) (v : Nat) (l1 l2 l3 l4 : Option Value) (st : List Value) (h : tm_H) (K : Option Value → tm_H → Prop) : tm_A d 170 15 [some (.ref v), l1, l2, l3, l4] st h K ↔ tm_A d 170 16 [some (.ref v), l1, l2, l3, l4] (.ref v :: st) h K := tm_s o170_15 rfl rfl rfl
theorem o170_16 : tm_op 170 16 = some (.getfield 159, (0, 10, 26, 0)) := rfl
theorem r170_16 (d : Nat) (a : Nat) (ls : tm_Lo) (st : List Value) (G : tm_G) (I : Nat → Nat → Int32) (J : Nat → Nat → Int64) (R : Nat → Nat → Option Nat) (K : Option Value → tm_H → Prop) : tm_A d 170 16 ls (.ref a :: st) (G, I, J, R) K ↔ G.2.2 a = (0, 10) ∧ tm_A d 170 19 ls (.int (I a 26) :: st) (G, I, J, R) K := tm_getI o170_16
theorem o170_19 : tm_op 170 19 = some (.ifCond .ne 4, (0, 0, 0, 0)) := rfl
theorem r170_19 (d : Nat) (x : Int32) (ls : tm_Lo) (st : List Value) (h : tm_H) (K : Option Value → tm_H → Prop) : tm_A d 170 19 ls (.int x :: st) h K ↔ if ¬ x = 0 then tm_A d 170 23 ls st h K else tm_A d 170 22 ls st h K := tm_b o170_19 rfl rfl rfl rfl
theorem o170_22 : tm_op 170 22 = some (.return_, (0, 0, 0, 0)) := rfl
theorem r170_22 (d : Nat) (ls : tm_Lo) (h : tm_H) (K : Option Value → tm_H → Prop) : tm_A d 170 22 ls [] h K ↔ K none h := tm_retv o170_22 rfl
theorem o170_23 : tm_op 170 23 = some (.iconst 0, (0, 0, 0, 0)) := rfl
theorem r170_23 (d : Nat) (ls : tm_Lo) (st : List Value) (h : tm_H) (K : Option Value → tm_H → Prop) : tm_A d 170 23 ls st h K ↔ tm_A d 170 24 ls (.int (0 : Int32) :: st) h K := tm_ic o170_23 (by decide)
theorem o170_24 : tm_op 170 24 = some (.istore_n 2, (0, 0, 0, 0)) := rfl
theorem r170_24 (d : Nat) (v : Int32) (l0 l1 l2 l3 l4 : Option Value) (st : List Value) (h : tm_H) (K : Option Value → tm_H → Prop) : tm_A d 170 24 [l0, l1, l2, l3, l4] (.int v :: st) h K ↔ tm_A d 170 25 [l0, l1, some (.int v), l3, l4] st h K := tm_s o170_24 rfl rfl rfl
theorem o170_25 : tm_op 170 25 = some (.iload_n 2, (0, 0, 0, 0)) := rfl
theorem r170_25 (d : Nat) (v : Int32) (l0 l1 l3 l4 : Option Value) (st : List Value) (h : tm_H) (K : Option Value → tm_H → Prop) : tm_A d 170 25 [l0, l1, some (.int v), l3, l4] st h K ↔ tm_A d 170 26 [l0, l1, some (.int v), l3, l4] (.int v :: st) h K := tm_s o170_25 rfl rfl rfl
theorem o170_26 : tm_op 170 26 = some (.aload_n 0, (0, 0, 0, 0)) := rfl
theorem r170_26 (d : Nat) (v : Nat) (l1 l2 l3 l4 : Option Value) (st : List Value) (h : tm_H) (K : Option Value → tm_H → Prop) : tm_A d 170 26 [some (.ref v), l1, l2, l3, l4] st h K ↔ tm_A d 170 27 [some (.ref v), l1, l2, l3, l4] (.ref v :: st) h K := tm_s o170_26 rfl rfl rfl
theorem o170_27 : tm_op 170 27 = some (.getfield 159, (0, 10, 26, 0)) := rfl
theorem r170_27 (d : Nat) (a : Nat) (ls : tm_Lo) (st : List Value) (G : tm_G) (I : Nat → Nat → Int32) (J : Nat → Nat → Int64) (R : Nat → Nat → Option Nat) (K : Option Value → tm_H → Prop) : tm_A d 170 27 ls (.ref a :: st) (G, I, J, R) K ↔ G.2.2 a = (0, 10) ∧ tm_A d 170 30 ls (.int (I a 26) :: st) (G, I, J, R) K := tm_getI o170_27
theorem o170_30 : tm_op 170 30 = some (.if_icmp .ge 25, (0, 0, 0, 0)) := rfl
theorem r170_30 (d : Nat) (y x : Int32) (ls : tm_Lo) (st : List Value) (h : tm_H) (K : Option Value → tm_H → Prop) : tm_A d 170 30 ls (.int y :: .int x :: st) h K ↔ if y ≤ x then tm_A d 170 55 ls st h K else tm_A d 170 33 ls st h K := tm_b o170_30 rfl rfl rfl rfl
theorem o170_33 : tm_op 170 33 = some (.aload_n 0, (0, 0, 0, 0)) := rfl
theorem r170_33 (d : Nat) (v : Nat) (l1 l2 l3 l4 : Option Value) (st : List Value) (h : tm_H) (K : Option Value → tm_H → Prop) : tm_A d 170 33 [some (.ref v), l1, l2, l3, l4] st h K ↔ tm_A d 170 34 [some (.ref v), l1, l2, l3, l4] (.ref v :: st) h K := tm_s o170_33 rfl rfl rfl
theorem o170_34 : tm_op 170 34 = some (.getfield 77, (2, 10, 35, 0)) := rfl
theorem r170_34 (d : Nat) (a : Nat) (ls : tm_Lo) (st : List Value) (G : tm_G) (I : Nat → Nat → Int32) (J : Nat → Nat → Int64) (R : Nat → Nat → Option Nat) (K : Option Value → tm_H → Prop) : tm_A d 170 34 ls (.ref a :: st) (G, I, J, R) K ↔ G.2.2 a = (0, 10) ∧ tm_A d 170 37 ls (tm_rf (R a 35) :: st) (G, I, J, R) K := tm_getR o170_34
theorem o170_37 : tm_op 170 37 = some (.iload_n 2, (0, 0, 0, 0)) := rfl
theorem r170_37 (d : Nat) (v : Int32) (l0 l1 l3 l4 : Option Value) (st : List Value) (h : tm_H) (K : Option Value → tm_H → Prop) : tm_A d 170 37 [l0, l1, some (.int v), l3, l4] st h K ↔ tm_A d 170 38 [l0, l1, some (.int v), l3, l4] (.int v :: st) h K := tm_s o170_37 rfl rfl rfl
theorem o170_38 : tm_op 170 38 = some (.aload_n 0, (0, 0, 0, 0)) := rfl
theorem r170_38 (d : Nat) (v : Nat) (l1 l2 l3 l4 : Option Value) (st : List Value) (h : tm_H) (K : Option Value → tm_H → Prop) : tm_A d 170 38 [some (.ref v), l1, l2, l3, l4] st h K ↔ tm_A d 170 39 [some (.ref v), l1, l2, l3, l4] (.ref v :: st) h K := tm_s o170_38 rfl rfl rfl
theorem o170_39 : tm_op 170 39 = some (.aload_n 0, (0, 0, 0, 0)) := rfl
theorem r170_39 (d : Nat) (v : Nat) (l1 l2 l3 l4 : Option Value) (st : List Value) (h : tm_H) (K : Option Value → tm_H → Prop) : tm_A d 170 39 [some (.ref v), l1, l2, l3, l4] st h K ↔ tm_A d 170 40 [some (.ref v), l1, l2, l3, l4] (.ref v :: st) h K := tm_s o170_39 rfl rfl rfl
theorem o170_40 : tm_op 170 40 = some (.getfield 62, (2, 10, 27, 0)) := rfl
theorem r170_40 (d : Nat) (a : Nat) (ls : tm_Lo) (st : List Value) (G : tm_G) (I : Nat → Nat → Int32) (J : Nat → Nat → Int64) (R : Nat → Nat → Option Nat) (K : Option Value → tm_H → Prop) : tm_A d 170 40 ls (.ref a :: st) (G, I, J, R) K ↔ G.2.2 a = (0, 10) ∧ tm_A d 170 43 ls (tm_rf (R a 27) :: st) (G, I, J, R) K := tm_getR o170_40
theorem o170_43 : tm_op 170 43 = some (.iload_n 2, (0, 0, 0, 0)) := rfl
theorem r170_43 (d : Nat) (v : Int32) (l0 l1 l3 l4 : Option Value) (st : List Value) (h : tm_H) (K : Option Value → tm_H → Prop) : tm_A d 170 43 [l0, l1, some (.int v), l3, l4] st h K ↔ tm_A d 170 44 [l0, l1, some (.int v), l3, l4] (.int v :: st) h K := tm_s o170_43 rfl rfl rfl
theorem o170_44 : tm_op 170 44 = some (.iaload, (0, 0, 0, 0)) := rfl
theorem r170_44 (d : Nat) (v : Int32) (a : Nat) (ls : tm_Lo) (st : List Value) (G : tm_G) (I : Nat → Nat → Int32) (J : Nat → Nat → Int64) (R : Nat → Nat → Option Nat) (K : Option Value → tm_H → Prop) : tm_A d 170 44 ls (.int v :: .ref a :: st) (G, I, J, R) K ↔ ((G.2.2 a).1 = 1 ∧ tm_in v (G.2.2 a).2) ∧ tm_A d 170 45 ls (.int (I a (tm_ix v)) :: st) (G, I, J, R) K := tm_iald o170_44
theorem o170_45 : tm_op 170 45 = some (.invokevirtual 237, (2, 165, 2, 10)) := rfl
theorem r170_45 (d : Nat) (v1 : Int32) (a : Nat) (ls : tm_Lo) (st : List Value) (h : tm_H) (K : Option Value → tm_H → Prop) : tm_A (d + 1) 170 45 ls (.int v1 :: .ref a :: st) h K ↔ (h.1.2.2 a = (0, 10) ∧ tm_cs st) ∧ tm_R d 165 [.ref a, .int v1] h (fun r h' => tm_A (d + 1) 170 48 ls (r.toList ++ st) h' K) := tm_callV (as := [.int v1]) o170_45 rfl rfl rfl rfl
theorem o170_48 : tm_op 170 48 = some (.iastore, (0, 0, 0, 0)) := rfl
theorem r170_48 (d : Nat) (u v : Int32) (a : Nat) (ls : tm_Lo) (st : List Value) (G : tm_G) (I : Nat → Nat → Int32) (J : Nat → Nat → Int64) (R : Nat → Nat → Option Nat) (K : Option Value → tm_H → Prop) : tm_A d 170 48 ls (.int u :: .int v :: .ref a :: st) (G, I, J, R) K ↔ (3 ≤ a ∧ (G.2.2 a).1 = 1 ∧ tm_in v (G.2.2 a).2) ∧ tm_A d 170 49 ls st (G, up2 I a (tm_ix v) u, J, R) K := tm_iast o170_48
theorem o170_49 : tm_op 170 49 = some (.iinc 2 1, (0, 0, 0, 0)) := rfl
theorem r170_49 (d : Nat) (v : Int32) (l0 l1 l3 l4 : Option Value) (st : List Value) (h : tm_H) (K : Option Value → tm_H → Prop) : tm_A d 170 49 [l0, l1, some (.int v), l3, l4] st h K ↔ tm_A d 170 52 [l0, l1, some (.int (v + (1 : Int32))), l3, l4] st h K := tm_s o170_49 rfl rfl rfl
theorem o170_52 : tm_op 170 52 = some (.goto (-27), (0, 0, 0, 0)) := rfl
theorem r170_52 (d : Nat) (ls : tm_Lo) (st : List Value) (h : tm_H) (K : Option Value → tm_H → Prop) : tm_A d 170 52 ls st h K ↔ tm_A d 170 25 ls st h K := tm_s o170_52 rfl rfl rfl
theorem o170_55 : tm_op 170 55 = some (.iconst 1, (0, 0, 0, 0)) := rfl
theorem r170_55 (d : Nat) (ls : tm_Lo) (st : List Value) (h : tm_H) (K : Option Value → tm_H → Prop) : tm_A d 170 55 ls st h K ↔ tm_A d 170 56 ls (.int (1 : Int32) :: st) h K := tm_ic o170_55 (by decide)
theorem o170_56 : tm_op 170 56 = some (.istore_n 2, (0, 0, 0, 0)) := rfl
theorem r170_56 (d : Nat) (v : Int32) (l0 l1 l2 l3 l4 : Option Value) (st : List Value) (h : tm_H) (K : Option Value → tm_H → Prop) : tm_A d 170 56 [l0, l1, l2, l3, l4] (.int v :: st) h K ↔ tm_A d 170 57 [l0, l1, some (.int v), l3, l4] st h K := tm_s o170_56 rfl rfl rfl
theorem o170_57 : tm_op 170 57 = some (.iload_n 2, (0, 0, 0, 0)) := rfl
theorem r170_57 (d : Nat) (v : Int32) (l0 l1 l3 l4 : Option Value) (st : List Value) (h : tm_H) (K : Option Value → tm_H → Prop) : tm_A d 170 57 [l0, l1, some (.int v), l3, l4] st h K ↔ tm_A d 170 58 [l0, l1, some (.int v), l3, l4] (.int v :: st) h K := tm_s o170_57 rfl rfl rfl
theorem o170_58 : tm_op 170 58 = some (.bipush 32, (0, 0, 0, 0)) := rfl
theorem r170_58 (d : Nat) (ls : tm_Lo) (st : List Value) (h : tm_H) (K : Option Value → tm_H → Prop) : tm_A d 170 58 ls st h K ↔ tm_A d 170 60 ls (.int (32 : Int32) :: st) h K := tm_bp o170_58 (by decide)
theorem o170_60 : tm_op 170 60 = some (.if_icmp .ge 17, (0, 0, 0, 0)) := rfl
theorem r170_60 (d : Nat) (y x : Int32) (ls : tm_Lo) (st : List Value) (h : tm_H) (K : Option Value → tm_H → Prop) : tm_A d 170 60 ls (.int y :: .int x :: st) h K ↔ if y ≤ x then tm_A d 170 77 ls st h K else tm_A d 170 63 ls st h K := tm_b o170_60 rfl rfl rfl rfl
theorem o170_63 : tm_op 170 63 = some (.aload_n 0, (0, 0, 0, 0)) := rfl
theorem r170_63 (d : Nat) (v : Nat) (l1 l2 l3 l4 : Option Value) (st : List Value) (h : tm_H) (K : Option Value → tm_H → Prop) : tm_A d 170 63 [some (.ref v), l1, l2, l3, l4] st h K ↔ tm_A d 170 64 [some (.ref v), l1, l2, l3, l4] (.ref v :: st) h K := tm_s o170_63 rfl rfl rfl
theorem o170_64 : tm_op 170 64 = some (.iload_n 2, (0, 0, 0, 0)) := rfl
theorem r170_64 (d : Nat) (v : Int32) (l0 l1 l3 l4 : Option Value) (st : List Value) (h : tm_H) (K : Option Value → tm_H → Prop) : tm_A d 170 64 [l0, l1, some (.int v), l3, l4] st h K ↔ tm_A d 170 65 [l0, l1, some (.int v), l3, l4] (.int v :: st) h K := tm_s o170_64 rfl rfl rfl
theorem o170_65 : tm_op 170 65 = some (.iconst 0, (0, 0, 0, 0)) := rfl
theorem r170_65 (d : Nat) (ls : tm_Lo) (st : List Value) (h : tm_H) (K : Option Value → tm_H → Prop) : tm_A d 170 65 ls st h K ↔ tm_A d 170 66 ls (.int (0 : Int32) :: st) h K := tm_ic o170_65 (by decide)
theorem o170_66 : tm_op 170 66 = some (.iconst 0, (0, 0, 0, 0)) := rfl
theorem r170_66 (d : Nat) (ls : tm_Lo) (st : List Value) (h : tm_H) (K : Option Value → tm_H → Prop) : tm_A d 170 66 ls st h K ↔ tm_A d 170 67 ls (.int (0 : Int32) :: st) h K := tm_ic o170_66 (by decide)
theorem o170_67 : tm_op 170 67 = some (.iconst 1, (0, 0, 0, 0)) := rfl
theorem r170_67 (d : Nat) (ls : tm_Lo) (st : List Value) (h : tm_H) (K : Option Value → tm_H → Prop) : tm_A d 170 67 ls st h K ↔ tm_A d 170 68 ls (.int (1 : Int32) :: st) h K := tm_ic o170_67 (by decide)
theorem o170_68 : tm_op 170 68 = some (.invokevirtual 258, (2, 169, 5, 10)) := rfl
theorem r170_68 (d : Nat) (v1 : Int32) (v2 : Int32) (v3 : Int32) (v4 : Int32) (a : Nat) (ls : tm_Lo) (st : List Value) (h : tm_H) (K : Option Value → tm_H → Prop) : tm_A (d + 1) 170 68 ls (.int v4 :: .int v3 :: .int v2 :: .int v1 :: .ref a :: st) h K ↔ (h.1.2.2 a = (0, 10) ∧ tm_cs st) ∧ tm_R d 169 [.ref a, .int v1, .int v2, .int v3, .int v4] h (fun r h' => tm_A (d + 1) 170 71 ls (r.toList ++ st) h' K) := tm_callV (as := [.int v1, .int v2, .int v3, .int v4]) o170_68 rfl rfl rfl rfl
theorem o170_71 : tm_op 170 71 = some (.iinc 2 1, (0, 0, 0, 0)) := rfl
theorem r170_71 (d : Nat) (v : Int32) (l0 l1 l3 l4 : Option Value) (st : List Value) (h : tm_H) (K : Option Value → tm_H → Prop) : tm_A d 170 71 [l0, l1, some (.int v), l3, l4] st h K ↔ tm_A d 170 74 [l0, l1, some (.int (v + (1 : Int32))), l3, l4] st h K := tm_s o170_71 rfl rfl rfl
theorem o170_74 : tm_op 170 74 = some (.goto (-17), (0, 0, 0, 0)) := rfl
theorem r170_74 (d : Nat) (ls : tm_Lo) (st : List Value) (h : tm_H) (K : Option Value → tm_H → Prop) : tm_A d 170 74 ls st h K ↔ tm_A d 170 57 ls st h K := tm_s o170_74 rfl rfl rfl
theorem o170_77 : tm_op 170 77 = some (.iconst 1, (0, 0, 0, 0)) := rfl
theorem r170_77 (d : Nat) (ls : tm_Lo) (st : List Value) (h : tm_H) (K : Option Value → tm_H → Prop) : tm_A d 170 77 ls st h K ↔ tm_A d 170 78 ls (.int (1 : Int32) :: st) h K := tm_ic o170_77 (by decide)
theorem o170_78 : tm_op 170 78 = some (.istore_n 2, (0, 0, 0, 0)) := rfl
theorem r170_78 (d : Nat) (v : Int32) (l0 l1 l2 l3 l4 : Option Value) (st : List Value) (h : tm_H) (K : Option Value → tm_H → Prop) : tm_A d 170 78 [l0, l1, l2, l3, l4] (.int v :: st) h K ↔ tm_A d 170 79 [l0, l1, some (.int v), l3, l4] st h K := tm_s o170_78 rfl rfl rfl
theorem o170_79 : tm_op 170 79 = some (.iload_n 2, (0, 0, 0, 0)) := rfl
theorem r170_79 (d : Nat) (v : Int32) (l0 l1 l3 l4 : Option Value) (st : List Value) (h : tm_H) (K : Option Value → tm_H → Prop) : tm_A d 170 79 [l0, l1, some (.int v), l3, l4] st h K ↔ tm_A d 170 80 [l0, l1, some (.int v), l3, l4] (.int v :: st) h K := tm_s o170_79 rfl rfl rfl
theorem o170_80 : tm_op 170 80 = some (.bipush 32, (0, 0, 0, 0)) := rfl
theorem r170_80 (d : Nat) (ls : tm_Lo) (st : List Value) (h : tm_H) (K : Option Value → tm_H → Prop) : tm_A d 170 80 ls st h K ↔ tm_A d 170 82 ls (.int (32 : Int32) :: st) h K := tm_bp o170_80 (by decide)
theorem o170_82 : tm_op 170 82 = some (.if_icmp .ge 33, (0, 0, 0, 0)) := rfl
theorem r170_82 (d : Nat) (y x : Int32) (ls : tm_Lo) (st : List Value) (h : tm_H) (K : Option Value → tm_H → Prop) : tm_A d 170 82 ls (.int y :: .int x :: st) h K ↔ if y ≤ x then tm_A d 170 115 ls st h K else tm_A d 170 85 ls st h K := tm_b o170_82 rfl rfl rfl rfl
theorem o170_85 : tm_op 170 85 = some (.iload_n 2, (0, 0, 0, 0)) := rfl
theorem r170_85 (d : Nat) (v : Int32) (l0 l1 l3 l4 : Option Value) (st : List Value) (h : tm_H) (K : Option Value → tm_H → Prop) : tm_A d 170 85 [l0, l1, some (.int v), l3, l4] st h K ↔ tm_A d 170 86 [l0, l1, some (.int v), l3, l4] (.int v :: st) h K := tm_s o170_85 rfl rfl rfl
theorem o170_86 : tm_op 170 86 = some (.iconst 1, (0, 0, 0, 0)) := rfl
theorem r170_86 (d : Nat) (ls : tm_Lo) (st : List Value) (h : tm_H) (K : Option Value → tm_H → Prop) : tm_A d 170 86 ls st h K ↔ tm_A d 170 87 ls (.int (1 : Int32) :: st) h K := tm_ic o170_86 (by decide)
theorem o170_87 : tm_op 170 87 = some (.iadd, (0, 0, 0, 0)) := rfl
theorem r170_87 (d : Nat) (u v : Int32) (ls : tm_Lo) (st : List Value) (h : tm_H) (K : Option Value → tm_H → Prop) : tm_A d 170 87 ls (.int u :: .int v :: st) h K ↔ tm_A d 170 88 ls (.int (v + u) :: st) h K := tm_s o170_87 rfl rfl rfl
theorem o170_88 : tm_op 170 88 = some (.istore_n 3, (0, 0, 0, 0)) := rfl
theorem r170_88 (d : Nat) (v : Int32) (l0 l1 l2 l3 l4 : Option Value) (st : List Value) (h : tm_H) (K : Option Value → tm_H → Prop) : tm_A d 170 88 [l0, l1, l2, l3, l4] (.int v :: st) h K ↔ tm_A d 170 89 [l0, l1, l2, some (.int v), l4] st h K := tm_s o170_88 rfl rfl rfl
theorem o170_89 : tm_op 170 89 = some (.iload_n 3, (0, 0, 0, 0)) := rfl
theorem r170_89 (d : Nat) (v : Int32) (l0 l1 l2 l4 : Option Value) (st : List Value) (h : tm_H) (K : Option Value → tm_H → Prop) : tm_A d 170 89 [l0, l1, l2, some (.int v), l4] st h K ↔ tm_A d 170 90 [l0, l1, l2, some (.int v), l4] (.int v :: st) h K := tm_s o170_89 rfl rfl rfl
theorem o170_90 : tm_op 170 90 = some (.bipush 32, (0, 0, 0, 0)) := rfl
theorem r170_90 (d : Nat) (ls : tm_Lo) (st : List Value) (h : tm_H) (K : Option Value → tm_H → Prop) : tm_A d 170 90 ls st h K ↔ tm_A d 170 92 ls (.int (32 : Int32) :: st) h K := tm_bp o170_90 (by decide)
theorem o170_92 : tm_op 170 92 = some (.if_icmp .ge 17, (0, 0, 0, 0)) := rfl
theorem r170_92 (d : Nat) (y x : Int32) (ls : tm_Lo) (st : List Value) (h : tm_H) (K : Option Value → tm_H → Prop) : tm_A d 170 92 ls (.int y :: .int x :: st) h K ↔ if y ≤ x then tm_A d 170 109 ls st h K else tm_A d 170 95 ls st h K := tm_b o170_92 rfl rfl rfl rfl
theorem o170_95 : tm_op 170 95 = some (.aload_n 0, (0, 0, 0, 0)) := rfl
theorem r170_95 (d : Nat) (v : Nat) (l1 l2 l3 l4 : Option Value) (st : List Value) (h : tm_H) (K : Option Value → tm_H → Prop) : tm_A d 170 95 [some (.ref v), l1, l2, l3, l4] st h K ↔ tm_A d 170 96 [some (.ref v), l1, l2, l3, l4] (.ref v :: st) h K := tm_s o170_95 rfl rfl rfl
theorem o170_96 : tm_op 170 96 = some (.iload_n 2, (0, 0, 0, 0)) := rfl
theorem r170_96 (d : Nat) (v : Int32) (l0 l1 l3 l4 : Option Value) (st : List Value) (h : tm_H) (K : Option Value → tm_H → Prop) : tm_A d 170 96 [l0, l1, some (.int v), l3, l4] st h K ↔ tm_A d 170 97 [l0, l1, some (.int v), l3, l4] (.int v :: st) h K := tm_s o170_96 rfl rfl rfl
theorem o170_97 : tm_op 170 97 = some (.iload_n 3, (0, 0, 0, 0)) := rfl
theorem r170_97 (d : Nat) (v : Int32) (l0 l1 l2 l4 : Option Value) (st : List Value) (h : tm_H) (K : Option Value → tm_H → Prop) : tm_A d 170 97 [l0, l1, l2, some (.int v), l4] st h K ↔ tm_A d 170 98 [l0, l1, l2, some (.int v), l4] (.int v :: st) h K := tm_s o170_97 rfl rfl rfl
theorem o170_98 : tm_op 170 98 = some (.iconst 0, (0, 0, 0, 0)) := rfl
theorem r170_98 (d : Nat) (ls : tm_Lo) (st : List Value) (h : tm_H) (K : Option Value → tm_H → Prop) : tm_A d 170 98 ls st h K ↔ tm_A d 170 99 ls (.int (0 : Int32) :: st) h K := tm_ic o170_98 (by decide)
theorem o170_99 : tm_op 170 99 = some (.iconst 2, (0, 0, 0, 0)) := rfl
theorem r170_99 (d : Nat) (ls : tm_Lo) (st : List Value) (h : tm_H) (K : Option Value → tm_H → Prop) : tm_A d 170 99 ls st h K ↔ tm_A d 170 100 ls (.int (2 : Int32) :: st) h K := tm_ic o170_99 (by decide)
theorem o170_100 : tm_op 170 100 = some (.invokevirtual 258, (2, 169, 5, 10)) := rfl
theorem r170_100 (d : Nat) (v1 : Int32) (v2 : Int32) (v3 : Int32) (v4 : Int32) (a : Nat) (ls : tm_Lo) (st : List Value) (h : tm_H) (K : Option Value → tm_H → Prop) : tm_A (d + 1) 170 100 ls (.int v4 :: .int v3 :: .int v2 :: .int v1 :: .ref a :: st) h K ↔ (h.1.2.2 a = (0, 10) ∧ tm_cs st) ∧ tm_R d 169 [.ref a, .int v1, .int v2, .int v3, .int v4] h (fun r h' => tm_A (d + 1) 170 103 ls (r.toList ++ st) h' K) := tm_callV (as := [.int v1, .int v2, .int v3, .int v4]) o170_100 rfl rfl rfl rfl
theorem o170_103 : tm_op 170 103 = some (.iinc 3 1, (0, 0, 0, 0)) := rfl
theorem r170_103 (d : Nat) (v : Int32) (l0 l1 l2 l4 : Option Value) (st : List Value) (h : tm_H) (K : Option Value → tm_H → Prop) : tm_A d 170 103 [l0, l1, l2, some (.int v), l4] st h K ↔ tm_A d 170 106 [l0, l1, l2, some (.int (v + (1 : Int32))), l4] st h K := tm_s o170_103 rfl rfl rfl
theorem o170_106 : tm_op 170 106 = some (.goto (-17), (0, 0, 0, 0)) := rfl
theorem r170_106 (d : Nat) (ls : tm_Lo) (st : List Value) (h : tm_H) (K : Option Value → tm_H → Prop) : tm_A d 170 106 ls st h K ↔ tm_A d 170 89 ls st h K := tm_s o170_106 rfl rfl rfl
theorem o170_109 : tm_op 170 109 = some (.iinc 2 1, (0, 0, 0, 0)) := rfl
theorem r170_109 (d : Nat) (v : Int32) (l0 l1 l3 l4 : Option Value) (st : List Value) (h : tm_H) (K : Option Value → tm_H → Prop) : tm_A d 170 109 [l0, l1, some (.int v), l3, l4] st h K ↔ tm_A d 170 112 [l0, l1, some (.int (v + (1 : Int32))), l3, l4] st h K := tm_s o170_109 rfl rfl rfl
theorem o170_112 : tm_op 170 112 = some (.goto (-33), (0, 0, 0, 0)) := rfl
theorem r170_112 (d : Nat) (ls : tm_Lo) (st : List Value) (h : tm_H) (K : Option Value → tm_H → Prop) : tm_A d 170 112 ls st h K ↔ tm_A d 170 79 ls st h K := tm_s o170_112 rfl rfl rfl
theorem o170_115 : tm_op 170 115 = some (.iconst 1, (0, 0, 0, 0)) := rfl
theorem r170_115 (d : Nat) (ls : tm_Lo) (st : List Value) (h : tm_H) (K : Option Value → tm_H → Prop) : tm_A d 170 115 ls st h K ↔ tm_A d 170 116 ls (.int (1 : Int32) :: st) h K := tm_ic o170_115 (by decide)
theorem o170_116 : tm_op 170 116 = some (.istore_n 2, (0, 0, 0, 0)) := rfl
theorem r170_116 (d : Nat) (v : Int32) (l0 l1 l2 l3 l4 : Option Value) (st : List Value) (h : tm_H) (K : Option Value → tm_H → Prop) : tm_A d 170 116 [l0, l1, l2, l3, l4] (.int v :: st) h K ↔ tm_A d 170 117 [l0, l1, some (.int v), l3, l4] st h K := tm_s o170_116 rfl rfl rfl
theorem o170_117 : tm_op 170 117 = some (.iload_n 2, (0, 0, 0, 0)) := rfl
theorem r170_117 (d : Nat) (v : Int32) (l0 l1 l3 l4 : Option Value) (st : List Value) (h : tm_H) (K : Option Value → tm_H → Prop) : tm_A d 170 117 [l0, l1, some (.int v), l3, l4] st h K ↔ tm_A d 170 118 [l0, l1, some (.int v), l3, l4] (.int v :: st) h K := tm_s o170_117 rfl rfl rfl
theorem o170_118 : tm_op 170 118 = some (.bipush 32, (0, 0, 0, 0)) := rfl
theorem r170_118 (d : Nat) (ls : tm_Lo) (st : List Value) (h : tm_H) (K : Option Value → tm_H → Prop) : tm_A d 170 118 ls st h K ↔ tm_A d 170 120 ls (.int (32 : Int32) :: st) h K := tm_bp o170_118 (by decide)
theorem o170_120 : tm_op 170 120 = some (.if_icmp .ge 52, (0, 0, 0, 0)) := rfl
theorem r170_120 (d : Nat) (y x : Int32) (ls : tm_Lo) (st : List Value) (h : tm_H) (K : Option Value → tm_H → Prop) : tm_A d 170 120 ls (.int y :: .int x :: st) h K ↔ if y ≤ x then tm_A d 170 172 ls st h K else tm_A d 170 123 ls st h K := tm_b o170_120 rfl rfl rfl rfl
theorem o170_123 : tm_op 170 123 = some (.iload_n 2, (0, 0, 0, 0)) := rfl
theorem r170_123 (d : Nat) (v : Int32) (l0 l1 l3 l4 : Option Value) (st : List Value) (h : tm_H) (K : Option Value → tm_H → Prop) : tm_A d 170 123 [l0, l1, some (.int v), l3, l4] st h K ↔ tm_A d 170 124 [l0, l1, some (.int v), l3, l4] (.int v :: st) h K := tm_s o170_123 rfl rfl rfl
theorem o170_124 : tm_op 170 124 = some (.iconst 1, (0, 0, 0, 0)) := rfl
theorem r170_124 (d : Nat) (ls : tm_Lo) (st : List Value) (h : tm_H) (K : Option Value → tm_H → Prop) : tm_A d 170 124 ls st h K ↔ tm_A d 170 125 ls (.int (1 : Int32) :: st) h K := tm_ic o170_124 (by decide)
theorem o170_125 : tm_op 170 125 = some (.iadd, (0, 0, 0, 0)) := rfl
theorem r170_125 (d : Nat) (u v : Int32) (ls : tm_Lo) (st : List Value) (h : tm_H) (K : Option Value → tm_H → Prop) : tm_A d 170 125 ls (.int u :: .int v :: st) h K ↔ tm_A d 170 126 ls (.int (v + u) :: st) h K := tm_s o170_125 rfl rfl rfl
theorem o170_126 : tm_op 170 126 = some (.istore_n 3, (0, 0, 0, 0)) := rfl
theorem r170_126 (d : Nat) (v : Int32) (l0 l1 l2 l3 l4 : Option Value) (st : List Value) (h : tm_H) (K : Option Value → tm_H → Prop) : tm_A d 170 126 [l0, l1, l2, l3, l4] (.int v :: st) h K ↔ tm_A d 170 127 [l0, l1, l2, some (.int v), l4] st h K := tm_s o170_126 rfl rfl rfl
theorem o170_127 : tm_op 170 127 = some (.iload_n 3, (0, 0, 0, 0)) := rfl
theorem r170_127 (d : Nat) (v : Int32) (l0 l1 l2 l4 : Option Value) (st : List Value) (h : tm_H) (K : Option Value → tm_H → Prop) : tm_A d 170 127 [l0, l1, l2, some (.int v), l4] st h K ↔ tm_A d 170 128 [l0, l1, l2, some (.int v), l4] (.int v :: st) h K := tm_s o170_127 rfl rfl rfl
theorem o170_128 : tm_op 170 128 = some (.bipush 32, (0, 0, 0, 0)) := rfl
theorem r170_128 (d : Nat) (ls : tm_Lo) (st : List Value) (h : tm_H) (K : Option Value → tm_H → Prop) : tm_A d 170 128 ls st h K ↔ tm_A d 170 130 ls (.int (32 : Int32) :: st) h K := tm_bp o170_128 (by decide)
theorem o170_130 : tm_op 170 130 = some (.if_icmp .ge 36, (0, 0, 0, 0)) := rfl
theorem r170_130 (d : Nat) (y x : Int32) (ls : tm_Lo) (st : List Value) (h : tm_H) (K : Option Value → tm_H → Prop) : tm_A d 170 130 ls (.int y :: .int x :: st) h K ↔ if y ≤ x then tm_A d 170 166 ls st h K else tm_A d 170 133 ls st h K := tm_b o170_130 rfl rfl rfl rfl
theorem o170_133 : tm_op 170 133 = some (.iload_n 3, (0, 0, 0, 0)) := rfl
theorem r170_133 (d : Nat) (v : Int32) (l0 l1 l2 l4 : Option Value) (st : List Value) (h : tm_H) (K : Option Value → tm_H → Prop) : tm_A d 170 133 [l0, l1, l2, some (.int v), l4] st h K ↔ tm_A d 170 134 [l0, l1, l2, some (.int v), l4] (.int v :: st) h K := tm_s o170_133 rfl rfl rfl
theorem o170_134 : tm_op 170 134 = some (.iconst 1, (0, 0, 0, 0)) := rfl
theorem r170_134 (d : Nat) (ls : tm_Lo) (st : List Value) (h : tm_H) (K : Option Value → tm_H → Prop) : tm_A d 170 134 ls st h K ↔ tm_A d 170 135 ls (.int (1 : Int32) :: st) h K := tm_ic o170_134 (by decide)
theorem o170_135 : tm_op 170 135 = some (.iadd, (0, 0, 0, 0)) := rfl
theorem r170_135 (d : Nat) (u v : Int32) (ls : tm_Lo) (st : List Value) (h : tm_H) (K : Option Value → tm_H → Prop) : tm_A d 170 135 ls (.int u :: .int v :: st) h K ↔ tm_A d 170 136 ls (.int (v + u) :: st) h K := tm_s o170_135 rfl rfl rfl
theorem o170_136 : tm_op 170 136 = some (.istore 4, (0, 0, 0, 0)) := rfl
theorem r170_136 (d : Nat) (v : Int32) (l0 l1 l2 l3 l4 : Option Value) (st : List Value) (h : tm_H) (K : Option Value → tm_H → Prop) : tm_A d 170 136 [l0, l1, l2, l3, l4] (.int v :: st) h K ↔ tm_A d 170 138 [l0, l1, l2, l3, some (.int v)] st h K := tm_s o170_136 rfl rfl rfl
theorem o170_138 : tm_op 170 138 = some (.iload 4, (0, 0, 0, 0)) := rfl
theorem r170_138 (d : Nat) (v : Int32) (l0 l1 l2 l3 : Option Value) (st : List Value) (h : tm_H) (K : Option Value → tm_H → Prop) : tm_A d 170 138 [l0, l1, l2, l3, some (.int v)] st h K ↔ tm_A d 170 140 [l0, l1, l2, l3, some (.int v)] (.int v :: st) h K := tm_s o170_138 rfl rfl rfl
theorem o170_140 : tm_op 170 140 = some (.bipush 32, (0, 0, 0, 0)) := rfl
theorem r170_140 (d : Nat) (ls : tm_Lo) (st : List Value) (h : tm_H) (K : Option Value → tm_H → Prop) : tm_A d 170 140 ls st h K ↔ tm_A d 170 142 ls (.int (32 : Int32) :: st) h K := tm_bp o170_140 (by decide)
theorem o170_142 : tm_op 170 142 = some (.if_icmp .ge 18, (0, 0, 0, 0)) := rfl
theorem r170_142 (d : Nat) (y x : Int32) (ls : tm_Lo) (st : List Value) (h : tm_H) (K : Option Value → tm_H → Prop) : tm_A d 170 142 ls (.int y :: .int x :: st) h K ↔ if y ≤ x then tm_A d 170 160 ls st h K else tm_A d 170 145 ls st h K := tm_b o170_142 rfl rfl rfl rfl
theorem o170_145 : tm_op 170 145 = some (.aload_n 0, (0, 0, 0, 0)) := rfl
theorem r170_145 (d : Nat) (v : Nat) (l1 l2 l3 l4 : Option Value) (st : List Value) (h : tm_H) (K : Option Value → tm_H → Prop) : tm_A d 170 145 [some (.ref v), l1, l2, l3, l4] st h K ↔ tm_A d 170 146 [some (.ref v), l1, l2, l3, l4] (.ref v :: st) h K := tm_s o170_145 rfl rfl rfl
theorem o170_146 : tm_op 170 146 = some (.iload_n 2, (0, 0, 0, 0)) := rfl
theorem r170_146 (d : Nat) (v : Int32) (l0 l1 l3 l4 : Option Value) (st : List Value) (h : tm_H) (K : Option Value → tm_H → Prop) : tm_A d 170 146 [l0, l1, some (.int v), l3, l4] st h K ↔ tm_A d 170 147 [l0, l1, some (.int v), l3, l4] (.int v :: st) h K := tm_s o170_146 rfl rfl rfl
theorem o170_147 : tm_op 170 147 = some (.iload_n 3, (0, 0, 0, 0)) := rfl
theorem r170_147 (d : Nat) (v : Int32) (l0 l1 l2 l4 : Option Value) (st : List Value) (h : tm_H) (K : Option Value → tm_H → Prop) : tm_A d 170 147 [l0, l1, l2, some (.int v), l4] st h K ↔ tm_A d 170 148 [l0, l1, l2, some (.int v), l4] (.int v :: st) h K := tm_s o170_147 rfl rfl rfl
theorem o170_148 : tm_op 170 148 = some (.iload 4, (0, 0, 0, 0)) := rfl
theorem r170_148 (d : Nat) (v : Int32) (l0 l1 l2 l3 : Option Value) (st : List Value) (h : tm_H) (K : Option Value → tm_H → Prop) : tm_A d 170 148 [l0, l1, l2, l3, some (.int v)] st h K ↔ tm_A d 170 150 [l0, l1, l2, l3, some (.int v)] (.int v :: st) h K := tm_s o170_148 rfl rfl rfl
theorem o170_150 : tm_op 170 150 = some (.iconst 3, (0, 0, 0, 0)) := rfl
theorem r170_150 (d : Nat) (ls : tm_Lo) (st : List Value) (h : tm_H) (K : Option Value → tm_H → Prop) : tm_A d 170 150 ls st h K ↔ tm_A d 170 151 ls (.int (3 : Int32) :: st) h K := tm_ic o170_150 (by decide)
theorem o170_151 : tm_op 170 151 = some (.invokevirtual 258, (2, 169, 5, 10)) := rfl
theorem r170_151 (d : Nat) (v1 : Int32) (v2 : Int32) (v3 : Int32) (v4 : Int32) (a : Nat) (ls : tm_Lo) (st : List Value) (h : tm_H) (K : Option Value → tm_H → Prop) : tm_A (d + 1) 170 151 ls (.int v4 :: .int v3 :: .int v2 :: .int v1 :: .ref a :: st) h K ↔ (h.1.2.2 a = (0, 10) ∧ tm_cs st) ∧ tm_R d 169 [.ref a, .int v1, .int v2, .int v3, .int v4] h (fun r h' => tm_A (d + 1) 170 154 ls (r.toList ++ st) h' K) := tm_callV (as := [.int v1, .int v2, .int v3, .int v4]) o170_151 rfl rfl rfl rfl
theorem o170_154 : tm_op 170 154 = some (.iinc 4 1, (0, 0, 0, 0)) := rfl
theorem r170_154 (d : Nat) (v : Int32) (l0 l1 l2 l3 : Option Value) (st : List Value) (h : tm_H) (K : Option Value → tm_H → Prop) : tm_A d 170 154 [l0, l1, l2, l3, some (.int v)] st h K ↔ tm_A d 170 157 [l0, l1, l2, l3, some (.int (v + (1 : Int32)))] st h K := tm_s o170_154 rfl rfl rfl
theorem o170_157 : tm_op 170 157 = some (.goto (-19), (0, 0, 0, 0)) := rfl
theorem r170_157 (d : Nat) (ls : tm_Lo) (st : List Value) (h : tm_H) (K : Option Value → tm_H → Prop) : tm_A d 170 157 ls st h K ↔ tm_A d 170 138 ls st h K := tm_s o170_157 rfl rfl rfl
theorem o170_160 : tm_op 170 160 = some (.iinc 3 1, (0, 0, 0, 0)) := rfl
theorem r170_160 (d : Nat) (v : Int32) (l0 l1 l2 l4 : Option Value) (st : List Value) (h : tm_H) (K : Option Value → tm_H → Prop) : tm_A d 170 160 [l0, l1, l2, some (.int v), l4] st h K ↔ tm_A d 170 163 [l0, l1, l2, some (.int (v + (1 : Int32))), l4] st h K := tm_s o170_160 rfl rfl rfl
theorem o170_163 : tm_op 170 163 = some (.goto (-36), (0, 0, 0, 0)) := rfl
theorem r170_163 (d : Nat) (ls : tm_Lo) (st : List Value) (h : tm_H) (K : Option Value → tm_H → Prop) : tm_A d 170 163 ls st h K ↔ tm_A d 170 127 ls st h K := tm_s o170_163 rfl rfl rfl
theorem o170_166 : tm_op 170 166 = some (.iinc 2 1, (0, 0, 0, 0)) := rfl
theorem r170_166 (d : Nat) (v : Int32) (l0 l1 l3 l4 : Option Value) (st : List Value) (h : tm_H) (K : Option Value → tm_H → Prop) : tm_A d 170 166 [l0, l1, some (.int v), l3, l4] st h K ↔ tm_A d 170 169 [l0, l1, some (.int (v + (1 : Int32))), l3, l4] st h K := tm_s o170_166 rfl rfl rfl
theorem o170_169 : tm_op 170 169 = some (.goto (-52), (0, 0, 0, 0)) := rfl
theorem r170_169 (d : Nat) (ls : tm_Lo) (st : List Value) (h : tm_H) (K : Option Value → tm_H → Prop) : tm_A d 170 169 ls st h K ↔ tm_A d 170 117 ls st h K := tm_s o170_169 rfl rfl rfl
theorem o170_172 : tm_op 170 172 = some (.return_, (0, 0, 0, 0)) := rfl
theorem r170_172 (d : Nat) (ls : tm_Lo) (h : tm_H) (K : Option Value → tm_H → Prop) : tm_A d 170 172 ls [] h K ↔ K none h := tm_retv o170_172 rfl
theorem o171_0 : tm_op 171 0 = some (.iload_n 2, (0, 0, 0, 0)) := rfl
theorem r171_0 (d : Nat) (v : Int32) (l0 l1 : Option Value) (st : List Value) (h : tm_H) (K : Option Value → tm_H → Prop) : tm_A d 171 0 [l0, l1, some (.int v)] st h K ↔ tm_A d 171 1 [l0, l1, some (.int v)] (.int v :: st) h K := tm_s o171_0 rfl rfl rfl
theorem o171_1 : tm_op 171 1 = some (.iconst 0, (0, 0, 0, 0)) := rfl
theorem r171_1 (d : Nat) (ls : tm_Lo) (st : List Value) (h : tm_H) (K : Option Value → tm_H → Prop) : tm_A d 171 1 ls st h K ↔ tm_A d 171 2 ls (.int (0 : Int32) :: st) h K := tm_ic o171_1 (by decide)
theorem o171_2 : tm_op 171 2 = some (.aload_n 0, (0, 0, 0, 0)) := rfl
theorem r171_2 (d : Nat) (v : Nat) (l1 l2 : Option Value) (st : List Value) (h : tm_H) (K : Option Value → tm_H → Prop) : tm_A d 171 2 [some (.ref v), l1, l2] st h K ↔ tm_A d 171 3 [some (.ref v), l1, l2] (.ref v :: st) h K := tm_s o171_2 rfl rfl rfl
theorem o171_3 : tm_op 171 3 = some (.getfield 87, (0, 10, 0, 0)) := rfl
theorem r171_3 (d : Nat) (a : Nat) (ls : tm_Lo) (st : List Value) (G : tm_G) (I : Nat → Nat → Int32) (J : Nat → Nat → Int64) (R : Nat → Nat → Option Nat) (K : Option Value → tm_H → Prop) : tm_A d 171 3 ls (.ref a :: st) (G, I, J, R) K ↔ G.2.2 a = (0, 10) ∧ tm_A d 171 6 ls (.int (I a 0) :: st) (G, I, J, R) K := tm_getI o171_3
theorem o171_6 : tm_op 171 6 = some (.invokestatic 83, (1, 117, 3, 0)) := rfl
theorem r171_6 (d : Nat) (v0 : Int32) (v1 : Int32) (v2 : Int32) (ls : tm_Lo) (st : List Value) (h : tm_H) (K : Option Value → tm_H → Prop) : tm_A (d + 1) 171 6 ls (.int v2 :: .int v1 :: .int v0 :: st) h K ↔ tm_cs st ∧ tm_R d 117 [.int v0, .int v1, .int v2] h (fun r h' => tm_A (d + 1) 171 9 ls (r.toList ++ st) h' K) := tm_callS (as := [.int v0, .int v1, .int v2]) o171_6 rfl rfl rfl rfl
theorem o171_9 : tm_op 171 9 = some (.ifCond .ne 5, (0, 0, 0, 0)) := rfl
theorem r171_9 (d : Nat) (x : Int32) (ls : tm_Lo) (st : List Value) (h : tm_H) (K : Option Value → tm_H → Prop) : tm_A d 171 9 ls (.int x :: st) h K ↔ if ¬ x = 0 then tm_A d 171 14 ls st h K else tm_A d 171 12 ls st h K := tm_b o171_9 rfl rfl rfl rfl
theorem o171_12 : tm_op 171 12 = some (.iconst (-1), (0, 0, 0, 0)) := rfl
theorem r171_12 (d : Nat) (ls : tm_Lo) (st : List Value) (h : tm_H) (K : Option Value → tm_H → Prop) : tm_A d 171 12 ls st h K ↔ tm_A d 171 13 ls (.int (-1 : Int32) :: st) h K := tm_ic o171_12 (by decide)
theorem o171_13 : tm_op 171 13 = some (.ireturn, (0, 0, 0, 0)) := rfl
theorem r171_13 (d : Nat) (v : Int32) (ls : tm_Lo) (h : tm_H) (K : Option Value → tm_H → Prop) : tm_A d 171 13 ls [.int v] h K ↔ K (some (.int v)) h := tm_reti o171_13 rfl
theorem o171_14 : tm_op 171 14 = some (.aload_n 0, (0, 0, 0, 0)) := rfl
theorem r171_14 (d : Nat) (v : Nat) (l1 l2 : Option Value) (st : List Value) (h : tm_H) (K : Option Value → tm_H → Prop) : tm_A d 171 14 [some (.ref v), l1, l2] st h K ↔ tm_A d 171 15 [some (.ref v), l1, l2] (.ref v :: st) h K := tm_s o171_14 rfl rfl rfl
theorem o171_15 : tm_op 171 15 = some (.iload_n 2, (0, 0, 0, 0)) := rfl
theorem r171_15 (d : Nat) (v : Int32) (l0 l1 : Option Value) (st : List Value) (h : tm_H) (K : Option Value → tm_H → Prop) : tm_A d 171 15 [l0, l1, some (.int v)] st h K ↔ tm_A d 171 16 [l0, l1, some (.int v)] (.int v :: st) h K := tm_s o171_15 rfl rfl rfl
theorem o171_16 : tm_op 171 16 = some (.invokevirtual 262, (2, 170, 2, 10)) := rfl
theorem r171_16 (d : Nat) (v1 : Int32) (a : Nat) (ls : tm_Lo) (st : List Value) (h : tm_H) (K : Option Value → tm_H → Prop) : tm_A (d + 1) 171 16 ls (.int v1 :: .ref a :: st) h K ↔ (h.1.2.2 a = (0, 10) ∧ tm_cs st) ∧ tm_R d 170 [.ref a, .int v1] h (fun r h' => tm_A (d + 1) 171 19 ls (r.toList ++ st) h' K) := tm_callV (as := [.int v1]) o171_16 rfl rfl rfl rfl
theorem o171_19 : tm_op 171 19 = some (.iload_n 1, (0, 0, 0, 0)) := rfl
theorem r171_19 (d : Nat) (v : Int32) (l0 l2 : Option Value) (st : List Value) (h : tm_H) (K : Option Value → tm_H → Prop) : tm_A d 171 19 [l0, some (.int v), l2] st h K ↔ tm_A d 171 20 [l0, some (.int v), l2] (.int v :: st) h K := tm_s o171_19 rfl rfl rfl
theorem o171_20 : tm_op 171 20 = some (.iconst 0, (0, 0, 0, 0)) := rfl
theorem r171_20 (d : Nat) (ls : tm_Lo) (st : List Value) (h : tm_H) (K : Option Value → tm_H → Prop) : tm_A d 171 20 ls st h K ↔ tm_A d 171 21 ls (.int (0 : Int32) :: st) h K := tm_ic o171_20 (by decide)
theorem o171_21 : tm_op 171 21 = some (.aload_n 0, (0, 0, 0, 0)) := rfl
theorem r171_21 (d : Nat) (v : Nat) (l1 l2 : Option Value) (st : List Value) (h : tm_H) (K : Option Value → tm_H → Prop) : tm_A d 171 21 [some (.ref v), l1, l2] st h K ↔ tm_A d 171 22 [some (.ref v), l1, l2] (.ref v :: st) h K := tm_s o171_21 rfl rfl rfl
theorem o171_22 : tm_op 171 22 = some (.getfield 252, (0, 10, 37, 0)) := rfl
theorem r171_22 (d : Nat) (a : Nat) (ls : tm_Lo) (st : List Value) (G : tm_G) (I : Nat → Nat → Int32) (J : Nat → Nat → Int64) (R : Nat → Nat → Option Nat) (K : Option Value → tm_H → Prop) : tm_A d 171 22 ls (.ref a :: st) (G, I, J, R) K ↔ G.2.2 a = (0, 10) ∧ tm_A d 171 25 ls (.int (I a 37) :: st) (G, I, J, R) K := tm_getI o171_22
theorem o171_25 : tm_op 171 25 = some (.iconst 1, (0, 0, 0, 0)) := rfl
theorem r171_25 (d : Nat) (ls : tm_Lo) (st : List Value) (h : tm_H) (K : Option Value → tm_H → Prop) : tm_A d 171 25 ls st h K ↔ tm_A d 171 26 ls (.int (1 : Int32) :: st) h K := tm_ic o171_25 (by decide)
theorem o171_26 : tm_op 171 26 = some (.isub, (0, 0, 0, 0)) := rfl
theorem r171_26 (d : Nat) (u v : Int32) (ls : tm_Lo) (st : List Value) (h : tm_H) (K : Option Value → tm_H → Prop) : tm_A d 171 26 ls (.int u :: .int v :: st) h K ↔ tm_A d 171 27 ls (.int (v - u) :: st) h K := tm_s o171_26 rfl rfl rfl
theorem o171_27 : tm_op 171 27 = some (.invokestatic 83, (1, 117, 3, 0)) := rfl
theorem r171_27 (d : Nat) (v0 : Int32) (v1 : Int32) (v2 : Int32) (ls : tm_Lo) (st : List Value) (h : tm_H) (K : Option Value → tm_H → Prop) : tm_A (d + 1) 171 27 ls (.int v2 :: .int v1 :: .int v0 :: st) h K ↔ tm_cs st ∧ tm_R d 117 [.int v0, .int v1, .int v2] h (fun r h' => tm_A (d + 1) 171 30 ls (r.toList ++ st) h' K) := tm_callS (as := [.int v0, .int v1, .int v2]) o171_27 rfl rfl rfl rfl
theorem o171_30 : tm_op 171 30 = some (.ifCond .eq 12, (0, 0, 0, 0)) := rfl
theorem r171_30 (d : Nat) (x : Int32) (ls : tm_Lo) (st : List Value) (h : tm_H) (K : Option Value → tm_H → Prop) : tm_A d 171 30 ls (.int x :: st) h K ↔ if x = 0 then tm_A d 171 42 ls st h K else tm_A d 171 33 ls st h K := tm_b o171_30 rfl rfl rfl rfl
theorem o171_33 : tm_op 171 33 = some (.aload_n 0, (0, 0, 0, 0)) := rfl
theorem r171_33 (d : Nat) (v : Nat) (l1 l2 : Option Value) (st : List Value) (h : tm_H) (K : Option Value → tm_H → Prop) : tm_A d 171 33 [some (.ref v), l1, l2] st h K ↔ tm_A d 171 34 [some (.ref v), l1, l2] (.ref v :: st) h K := tm_s o171_33 rfl rfl rfl
theorem o171_34 : tm_op 171 34 = some (.getfield 80, (2, 10, 36, 0)) := rfl
theorem r171_34 (d : Nat) (a : Nat) (ls : tm_Lo) (st : List Value) (G : tm_G) (I : Nat → Nat → Int32) (J : Nat → Nat → Int64) (R : Nat → Nat → Option Nat) (K : Option Value → tm_H → Prop) : tm_A d 171 34 ls (.ref a :: st) (G, I, J, R) K ↔ G.2.2 a = (0, 10) ∧ tm_A d 171 37 ls (tm_rf (R a 36) :: st) (G, I, J, R) K := tm_getR o171_34
theorem o171_37 : tm_op 171 37 = some (.iload_n 1, (0, 0, 0, 0)) := rfl
theorem r171_37 (d : Nat) (v : Int32) (l0 l2 : Option Value) (st : List Value) (h : tm_H) (K : Option Value → tm_H → Prop) : tm_A d 171 37 [l0, some (.int v), l2] st h K ↔ tm_A d 171 38 [l0, some (.int v), l2] (.int v :: st) h K := tm_s o171_37 rfl rfl rfl
theorem o171_38 : tm_op 171 38 = some (.iaload, (0, 0, 0, 0)) := rfl
theorem r171_38 (d : Nat) (v : Int32) (a : Nat) (ls : tm_Lo) (st : List Value) (G : tm_G) (I : Nat → Nat → Int32) (J : Nat → Nat → Int64) (R : Nat → Nat → Option Nat) (K : Option Value → tm_H → Prop) : tm_A d 171 38 ls (.int v :: .ref a :: st) (G, I, J, R) K ↔ ((G.2.2 a).1 = 1 ∧ tm_in v (G.2.2 a).2) ∧ tm_A d 171 39 ls (.int (I a (tm_ix v)) :: st) (G, I, J, R) K := tm_iald o171_38
theorem o171_39 : tm_op 171 39 = some (.goto 4, (0, 0, 0, 0)) := rfl
theorem r171_39 (d : Nat) (ls : tm_Lo) (st : List Value) (h : tm_H) (K : Option Value → tm_H → Prop) : tm_A d 171 39 ls st h K ↔ tm_A d 171 43 ls st h K := tm_s o171_39 rfl rfl rfl
theorem o171_42 : tm_op 171 42 = some (.iconst (-1), (0, 0, 0, 0)) := rfl
theorem r171_42 (d : Nat) (ls : tm_Lo) (st : List Value) (h : tm_H) (K : Option Value → tm_H → Prop) : tm_A d 171 42 ls st h K ↔ tm_A d 171 43 ls (.int (-1 : Int32) :: st) h K := tm_ic o171_42 (by decide)
theorem o171_43 : tm_op 171 43 = some (.ireturn, (0, 0, 0, 0)) := rfl
theorem r171_43 (d : Nat) (v : Int32) (ls : tm_Lo) (h : tm_H) (K : Option Value → tm_H → Prop) : tm_A d 171 43 ls [.int v] h K ↔ K (some (.int v)) h := tm_reti o171_43 rfl
theorem o172_0 : tm_op 172 0 = some (.iload_n 1, (0, 0, 0, 0)) := rfl
theorem r172_0 (d : Nat) (v : Int32) (l0 : Option Value) (st : List Value) (h : tm_H) (K : Option Value → tm_H → Prop) : tm_A d 172 0 [l0, some (.int v)] st h K ↔ tm_A d 172 1 [l0, some (.int v)] (.int v :: st) h K := tm_s o172_0 rfl rfl rfl
theorem o172_1 : tm_op 172 1 = some (.iconst 0, (0, 0, 0, 0)) := rfl
theorem r172_1 (d : Nat) (ls : tm_Lo) (st : List Value) (h : tm_H) (K : Option Value → tm_H → Prop) : tm_A d 172 1 ls st h K ↔ tm_A d 172 2 ls (.int (0 : Int32) :: st) h K := tm_ic o172_1 (by decide)
theorem o172_2 : tm_op 172 2 = some (.aload_n 0, (0, 0, 0, 0)) := rfl
theorem r172_2 (d : Nat) (v : Nat) (l1 : Option Value) (st : List Value) (h : tm_H) (K : Option Value → tm_H → Prop) : tm_A d 172 2 [some (.ref v), l1] st h K ↔ tm_A d 172 3 [some (.ref v), l1] (.ref v :: st) h K := tm_s o172_2 rfl rfl rfl
theorem o172_3 : tm_op 172 3 = some (.getfield 87, (0, 10, 0, 0)) := rfl
theorem r172_3 (d : Nat) (a : Nat) (ls : tm_Lo) (st : List Value) (G : tm_G) (I : Nat → Nat → Int32) (J : Nat → Nat → Int64) (R : Nat → Nat → Option Nat) (K : Option Value → tm_H → Prop) : tm_A d 172 3 ls (.ref a :: st) (G, I, J, R) K ↔ G.2.2 a = (0, 10) ∧ tm_A d 172 6 ls (.int (I a 0) :: st) (G, I, J, R) K := tm_getI o172_3
theorem o172_6 : tm_op 172 6 = some (.invokestatic 83, (1, 117, 3, 0)) := rfl
theorem r172_6 (d : Nat) (v0 : Int32) (v1 : Int32) (v2 : Int32) (ls : tm_Lo) (st : List Value) (h : tm_H) (K : Option Value → tm_H → Prop) : tm_A (d + 1) 172 6 ls (.int v2 :: .int v1 :: .int v0 :: st) h K ↔ tm_cs st ∧ tm_R d 117 [.int v0, .int v1, .int v2] h (fun r h' => tm_A (d + 1) 172 9 ls (r.toList ++ st) h' K) := tm_callS (as := [.int v0, .int v1, .int v2]) o172_6 rfl rfl rfl rfl
theorem o172_9 : tm_op 172 9 = some (.ifCond .ne 5, (0, 0, 0, 0)) := rfl
theorem r172_9 (d : Nat) (x : Int32) (ls : tm_Lo) (st : List Value) (h : tm_H) (K : Option Value → tm_H → Prop) : tm_A d 172 9 ls (.int x :: st) h K ↔ if ¬ x = 0 then tm_A d 172 14 ls st h K else tm_A d 172 12 ls st h K := tm_b o172_9 rfl rfl rfl rfl
theorem o172_12 : tm_op 172 12 = some (.iconst (-1), (0, 0, 0, 0)) := rfl
theorem r172_12 (d : Nat) (ls : tm_Lo) (st : List Value) (h : tm_H) (K : Option Value → tm_H → Prop) : tm_A d 172 12 ls st h K ↔ tm_A d 172 13 ls (.int (-1 : Int32) :: st) h K := tm_ic o172_12 (by decide)
theorem o172_13 : tm_op 172 13 = some (.ireturn, (0, 0, 0, 0)) := rfl
theorem r172_13 (d : Nat) (v : Int32) (ls : tm_Lo) (h : tm_H) (K : Option Value → tm_H → Prop) : tm_A d 172 13 ls [.int v] h K ↔ K (some (.int v)) h := tm_reti o172_13 rfl
theorem o172_14 : tm_op 172 14 = some (.aload_n 0, (0, 0, 0, 0)) := rfl
theorem r172_14 (d : Nat) (v : Nat) (l1 : Option Value) (st : List Value) (h : tm_H) (K : Option Value → tm_H → Prop) : tm_A d 172 14 [some (.ref v), l1] st h K ↔ tm_A d 172 15 [some (.ref v), l1] (.ref v :: st) h K := tm_s o172_14 rfl rfl rfl
theorem o172_15 : tm_op 172 15 = some (.iload_n 1, (0, 0, 0, 0)) := rfl
theorem r172_15 (d : Nat) (v : Int32) (l0 : Option Value) (st : List Value) (h : tm_H) (K : Option Value → tm_H → Prop) : tm_A d 172 15 [l0, some (.int v)] st h K ↔ tm_A d 172 16 [l0, some (.int v)] (.int v :: st) h K := tm_s o172_15 rfl rfl rfl
theorem o172_16 : tm_op 172 16 = some (.invokevirtual 262, (2, 170, 2, 10)) := rfl
theorem r172_16 (d : Nat) (v1 : Int32) (a : Nat) (ls : tm_Lo) (st : List Value) (h : tm_H) (K : Option Value → tm_H → Prop) : tm_A (d + 1) 172 16 ls (.int v1 :: .ref a :: st) h K ↔ (h.1.2.2 a = (0, 10) ∧ tm_cs st) ∧ tm_R d 170 [.ref a, .int v1] h (fun r h' => tm_A (d + 1) 172 19 ls (r.toList ++ st) h' K) := tm_callV (as := [.int v1]) o172_16 rfl rfl rfl rfl
theorem o172_19 : tm_op 172 19 = some (.aload_n 0, (0, 0, 0, 0)) := rfl
theorem r172_19 (d : Nat) (v : Nat) (l1 : Option Value) (st : List Value) (h : tm_H) (K : Option Value → tm_H → Prop) : tm_A d 172 19 [some (.ref v), l1] st h K ↔ tm_A d 172 20 [some (.ref v), l1] (.ref v :: st) h K := tm_s o172_19 rfl rfl rfl
theorem o172_20 : tm_op 172 20 = some (.getfield 255, (0, 10, 38, 0)) := rfl
theorem r172_20 (d : Nat) (a : Nat) (ls : tm_Lo) (st : List Value) (G : tm_G) (I : Nat → Nat → Int32) (J : Nat → Nat → Int64) (R : Nat → Nat → Option Nat) (K : Option Value → tm_H → Prop) : tm_A d 172 20 ls (.ref a :: st) (G, I, J, R) K ↔ G.2.2 a = (0, 10) ∧ tm_A d 172 23 ls (.int (I a 38) :: st) (G, I, J, R) K := tm_getI o172_20
theorem o172_23 : tm_op 172 23 = some (.ireturn, (0, 0, 0, 0)) := rfl
theorem r172_23 (d : Nat) (v : Int32) (ls : tm_Lo) (h : tm_H) (K : Option Value → tm_H → Prop) : tm_A d 172 23 ls [.int v] h K ↔ K (some (.int v)) h := tm_reti o172_23 rfl
theorem o173_0 : tm_op 173 0 = some (.iconst 0, (0, 0, 0, 0)) := rfl
theorem r173_0 (d : Nat) (ls : tm_Lo) (st : List Value) (h : tm_H) (K : Option Value → tm_H → Prop) : tm_A d 173 0 ls st h K ↔ tm_A d 173 1 ls (.int (0 : Int32) :: st) h K := tm_ic o173_0 (by decide)
theorem o173_1 : tm_op 173 1 = some (.istore_n 2, (0, 0, 0, 0)) := rfl
theorem r173_1 (d : Nat) (v : Int32) (l0 l1 l2 l3 l4 l5 : Option Value) (st : List Value) (h : tm_H) (K : Option Value → tm_H → Prop) : tm_A d 173 1 [l0, l1, l2, l3, l4, l5] (.int v :: st) h K ↔ tm_A d 173 2 [l0, l1, some (.int v), l3, l4, l5] st h K := tm_s o173_1 rfl rfl rfl
theorem o173_2 : tm_op 173 2 = some (.iconst 0, (0, 0, 0, 0)) := rfl
theorem r173_2 (d : Nat) (ls : tm_Lo) (st : List Value) (h : tm_H) (K : Option Value → tm_H → Prop) : tm_A d 173 2 ls st h K ↔ tm_A d 173 3 ls (.int (0 : Int32) :: st) h K := tm_ic o173_2 (by decide)
theorem o173_3 : tm_op 173 3 = some (.istore_n 3, (0, 0, 0, 0)) := rfl
theorem r173_3 (d : Nat) (v : Int32) (l0 l1 l2 l3 l4 l5 : Option Value) (st : List Value) (h : tm_H) (K : Option Value → tm_H → Prop) : tm_A d 173 3 [l0, l1, l2, l3, l4, l5] (.int v :: st) h K ↔ tm_A d 173 4 [l0, l1, l2, some (.int v), l4, l5] st h K := tm_s o173_3 rfl rfl rfl
theorem o173_4 : tm_op 173 4 = some (.iconst 0, (0, 0, 0, 0)) := rfl
theorem r173_4 (d : Nat) (ls : tm_Lo) (st : List Value) (h : tm_H) (K : Option Value → tm_H → Prop) : tm_A d 173 4 ls st h K ↔ tm_A d 173 5 ls (.int (0 : Int32) :: st) h K := tm_ic o173_4 (by decide)
theorem o173_5 : tm_op 173 5 = some (.istore 4, (0, 0, 0, 0)) := rfl
theorem r173_5 (d : Nat) (v : Int32) (l0 l1 l2 l3 l4 l5 : Option Value) (st : List Value) (h : tm_H) (K : Option Value → tm_H → Prop) : tm_A d 173 5 [l0, l1, l2, l3, l4, l5] (.int v :: st) h K ↔ tm_A d 173 7 [l0, l1, l2, l3, some (.int v), l5] st h K := tm_s o173_5 rfl rfl rfl
theorem o173_7 : tm_op 173 7 = some (.iload 4, (0, 0, 0, 0)) := rfl
theorem r173_7 (d : Nat) (v : Int32) (l0 l1 l2 l3 l5 : Option Value) (st : List Value) (h : tm_H) (K : Option Value → tm_H → Prop) : tm_A d 173 7 [l0, l1, l2, l3, some (.int v), l5] st h K ↔ tm_A d 173 9 [l0, l1, l2, l3, some (.int v), l5] (.int v :: st) h K := tm_s o173_7 rfl rfl rfl
theorem o173_9 : tm_op 173 9 = some (.aload_n 0, (0, 0, 0, 0)) := rfl
theorem r173_9 (d : Nat) (v : Nat) (l1 l2 l3 l4 l5 : Option Value) (st : List Value) (h : tm_H) (K : Option Value → tm_H → Prop) : tm_A d 173 9 [some (.ref v), l1, l2, l3, l4, l5] st h K ↔ tm_A d 173 10 [some (.ref v), l1, l2, l3, l4, l5] (.ref v :: st) h K := tm_s o173_9 rfl rfl rfl
theorem o173_10 : tm_op 173 10 = some (.getfield 142, (0, 10, 1, 0)) := rfl
theorem r173_10 (d : Nat) (a : Nat) (ls : tm_Lo) (st : List Value) (G : tm_G) (I : Nat → Nat → Int32) (J : Nat → Nat → Int64) (R : Nat → Nat → Option Nat) (K : Option Value → tm_H → Prop) : tm_A d 173 10 ls (.ref a :: st) (G, I, J, R) K ↔ G.2.2 a = (0, 10) ∧ tm_A d 173 13 ls (.int (I a 1) :: st) (G, I, J, R) K := tm_getI o173_10
theorem o173_13 : tm_op 173 13 = some (.if_icmp .ge 75, (0, 0, 0, 0)) := rfl
theorem r173_13 (d : Nat) (y x : Int32) (ls : tm_Lo) (st : List Value) (h : tm_H) (K : Option Value → tm_H → Prop) : tm_A d 173 13 ls (.int y :: .int x :: st) h K ↔ if y ≤ x then tm_A d 173 88 ls st h K else tm_A d 173 16 ls st h K := tm_b o173_13 rfl rfl rfl rfl
theorem o173_16 : tm_op 173 16 = some (.iconst 0, (0, 0, 0, 0)) := rfl
theorem r173_16 (d : Nat) (ls : tm_Lo) (st : List Value) (h : tm_H) (K : Option Value → tm_H → Prop) : tm_A d 173 16 ls st h K ↔ tm_A d 173 17 ls (.int (0 : Int32) :: st) h K := tm_ic o173_16 (by decide)
theorem o173_17 : tm_op 173 17 = some (.istore 5, (0, 0, 0, 0)) := rfl
theorem r173_17 (d : Nat) (v : Int32) (l0 l1 l2 l3 l4 l5 : Option Value) (st : List Value) (h : tm_H) (K : Option Value → tm_H → Prop) : tm_A d 173 17 [l0, l1, l2, l3, l4, l5] (.int v :: st) h K ↔ tm_A d 173 19 [l0, l1, l2, l3, l4, some (.int v)] st h K := tm_s o173_17 rfl rfl rfl
theorem o173_19 : tm_op 173 19 = some (.iload 5, (0, 0, 0, 0)) := rfl
theorem r173_19 (d : Nat) (v : Int32) (l0 l1 l2 l3 l4 : Option Value) (st : List Value) (h : tm_H) (K : Option Value → tm_H → Prop) : tm_A d 173 19 [l0, l1, l2, l3, l4, some (.int v)] st h K ↔ tm_A d 173 21 [l0, l1, l2, l3, l4, some (.int v)] (.int v :: st) h K := tm_s o173_19 rfl rfl rfl
theorem o173_21 : tm_op 173 21 = some (.iload 4, (0, 0, 0, 0)) := rfl
theorem r173_21 (d : Nat) (v : Int32) (l0 l1 l2 l3 l5 : Option Value) (st : List Value) (h : tm_H) (K : Option Value → tm_H → Prop) : tm_A d 173 21 [l0, l1, l2, l3, some (.int v), l5] st h K ↔ tm_A d 173 23 [l0, l1, l2, l3, some (.int v), l5] (.int v :: st) h K := tm_s o173_21 rfl rfl rfl
theorem o173_23 : tm_op 173 23 = some (.if_icmp .ge 59, (0, 0, 0, 0)) := rfl
theorem r173_23 (d : Nat) (y x : Int32) (ls : tm_Lo) (st : List Value) (h : tm_H) (K : Option Value → tm_H → Prop) : tm_A d 173 23 ls (.int y :: .int x :: st) h K ↔ if y ≤ x then tm_A d 173 82 ls st h K else tm_A d 173 26 ls st h K := tm_b o173_23 rfl rfl rfl rfl
theorem o173_26 : tm_op 173 26 = some (.iload_n 2, (0, 0, 0, 0)) := rfl
theorem r173_26 (d : Nat) (v : Int32) (l0 l1 l3 l4 l5 : Option Value) (st : List Value) (h : tm_H) (K : Option Value → tm_H → Prop) : tm_A d 173 26 [l0, l1, some (.int v), l3, l4, l5] st h K ↔ tm_A d 173 27 [l0, l1, some (.int v), l3, l4, l5] (.int v :: st) h K := tm_s o173_26 rfl rfl rfl
theorem o173_27 : tm_op 173 27 = some (.aload_n 0, (0, 0, 0, 0)) := rfl
theorem r173_27 (d : Nat) (v : Nat) (l1 l2 l3 l4 l5 : Option Value) (st : List Value) (h : tm_H) (K : Option Value → tm_H → Prop) : tm_A d 173 27 [some (.ref v), l1, l2, l3, l4, l5] st h K ↔ tm_A d 173 28 [some (.ref v), l1, l2, l3, l4, l5] (.ref v :: st) h K := tm_s o173_27 rfl rfl rfl
theorem o173_28 : tm_op 173 28 = some (.getfield 65, (2, 10, 28, 0)) := rfl
theorem r173_28 (d : Nat) (a : Nat) (ls : tm_Lo) (st : List Value) (G : tm_G) (I : Nat → Nat → Int32) (J : Nat → Nat → Int64) (R : Nat → Nat → Option Nat) (K : Option Value → tm_H → Prop) : tm_A d 173 28 ls (.ref a :: st) (G, I, J, R) K ↔ G.2.2 a = (0, 10) ∧ tm_A d 173 31 ls (tm_rf (R a 28) :: st) (G, I, J, R) K := tm_getR o173_28
theorem o173_31 : tm_op 173 31 = some (.bipush 10, (0, 0, 0, 0)) := rfl
theorem r173_31 (d : Nat) (ls : tm_Lo) (st : List Value) (h : tm_H) (K : Option Value → tm_H → Prop) : tm_A d 173 31 ls st h K ↔ tm_A d 173 33 ls (.int (10 : Int32) :: st) h K := tm_bp o173_31 (by decide)
theorem o173_33 : tm_op 173 33 = some (.iload 4, (0, 0, 0, 0)) := rfl
theorem r173_33 (d : Nat) (v : Int32) (l0 l1 l2 l3 l5 : Option Value) (st : List Value) (h : tm_H) (K : Option Value → tm_H → Prop) : tm_A d 173 33 [l0, l1, l2, l3, some (.int v), l5] st h K ↔ tm_A d 173 35 [l0, l1, l2, l3, some (.int v), l5] (.int v :: st) h K := tm_s o173_33 rfl rfl rfl
theorem o173_35 : tm_op 173 35 = some (.imul, (0, 0, 0, 0)) := rfl
theorem r173_35 (d : Nat) (u v : Int32) (ls : tm_Lo) (st : List Value) (h : tm_H) (K : Option Value → tm_H → Prop) : tm_A d 173 35 ls (.int u :: .int v :: st) h K ↔ tm_A d 173 36 ls (.int (v * u) :: st) h K := tm_s o173_35 rfl rfl rfl
theorem o173_36 : tm_op 173 36 = some (.iload 5, (0, 0, 0, 0)) := rfl
theorem r173_36 (d : Nat) (v : Int32) (l0 l1 l2 l3 l4 : Option Value) (st : List Value) (h : tm_H) (K : Option Value → tm_H → Prop) : tm_A d 173 36 [l0, l1, l2, l3, l4, some (.int v)] st h K ↔ tm_A d 173 38 [l0, l1, l2, l3, l4, some (.int v)] (.int v :: st) h K := tm_s o173_36 rfl rfl rfl
theorem o173_38 : tm_op 173 38 = some (.iadd, (0, 0, 0, 0)) := rfl
theorem r173_38 (d : Nat) (u v : Int32) (ls : tm_Lo) (st : List Value) (h : tm_H) (K : Option Value → tm_H → Prop) : tm_A d 173 38 ls (.int u :: .int v :: st) h K ↔ tm_A d 173 39 ls (.int (v + u) :: st) h K := tm_s o173_38 rfl rfl rfl
theorem o173_39 : tm_op 173 39 = some (.iaload, (0, 0, 0, 0)) := rfl
theorem r173_39 (d : Nat) (v : Int32) (a : Nat) (ls : tm_Lo) (st : List Value) (G : tm_G) (I : Nat → Nat → Int32) (J : Nat → Nat → Int64) (R : Nat → Nat → Option Nat) (K : Option Value → tm_H → Prop) : tm_A d 173 39 ls (.int v :: .ref a :: st) (G, I, J, R) K ↔ ((G.2.2 a).1 = 1 ∧ tm_in v (G.2.2 a).2) ∧ tm_A d 173 40 ls (.int (I a (tm_ix v)) :: st) (G, I, J, R) K := tm_iald o173_39
theorem o173_40 : tm_op 173 40 = some (.iconst 1, (0, 0, 0, 0)) := rfl
theorem r173_40 (d : Nat) (ls : tm_Lo) (st : List Value) (h : tm_H) (K : Option Value → tm_H → Prop) : tm_A d 173 40 ls st h K ↔ tm_A d 173 41 ls (.int (1 : Int32) :: st) h K := tm_ic o173_40 (by decide)
theorem o173_41 : tm_op 173 41 = some (.if_icmp .ne 7, (0, 0, 0, 0)) := rfl
theorem r173_41 (d : Nat) (y x : Int32) (ls : tm_Lo) (st : List Value) (h : tm_H) (K : Option Value → tm_H → Prop) : tm_A d 173 41 ls (.int y :: .int x :: st) h K ↔ if ¬ x = y then tm_A d 173 48 ls st h K else tm_A d 173 44 ls st h K := tm_b o173_41 rfl rfl rfl rfl
theorem o173_44 : tm_op 173 44 = some (.iconst 1, (0, 0, 0, 0)) := rfl
theorem r173_44 (d : Nat) (ls : tm_Lo) (st : List Value) (h : tm_H) (K : Option Value → tm_H → Prop) : tm_A d 173 44 ls st h K ↔ tm_A d 173 45 ls (.int (1 : Int32) :: st) h K := tm_ic o173_44 (by decide)
theorem o173_45 : tm_op 173 45 = some (.goto 4, (0, 0, 0, 0)) := rfl
theorem r173_45 (d : Nat) (ls : tm_Lo) (st : List Value) (h : tm_H) (K : Option Value → tm_H → Prop) : tm_A d 173 45 ls st h K ↔ tm_A d 173 49 ls st h K := tm_s o173_45 rfl rfl rfl
theorem o173_48 : tm_op 173 48 = some (.iconst 0, (0, 0, 0, 0)) := rfl
theorem r173_48 (d : Nat) (ls : tm_Lo) (st : List Value) (h : tm_H) (K : Option Value → tm_H → Prop) : tm_A d 173 48 ls st h K ↔ tm_A d 173 49 ls (.int (0 : Int32) :: st) h K := tm_ic o173_48 (by decide)
theorem o173_49 : tm_op 173 49 = some (.iadd, (0, 0, 0, 0)) := rfl
theorem r173_49 (d : Nat) (u v : Int32) (ls : tm_Lo) (st : List Value) (h : tm_H) (K : Option Value → tm_H → Prop) : tm_A d 173 49 ls (.int u :: .int v :: st) h K ↔ tm_A d 173 50 ls (.int (v + u) :: st) h K := tm_s o173_49 rfl rfl rfl
theorem o173_50 : tm_op 173 50 = some (.istore_n 2, (0, 0, 0, 0)) := rfl
theorem r173_50 (d : Nat) (v : Int32) (l0 l1 l2 l3 l4 l5 : Option Value) (st : List Value) (h : tm_H) (K : Option Value → tm_H → Prop) : tm_A d 173 50 [l0, l1, l2, l3, l4, l5] (.int v :: st) h K ↔ tm_A d 173 51 [l0, l1, some (.int v), l3, l4, l5] st h K := tm_s o173_50 rfl rfl rfl
theorem o173_51 : tm_op 173 51 = some (.iload_n 3, (0, 0, 0, 0)) := rfl
theorem r173_51 (d : Nat) (v : Int32) (l0 l1 l2 l4 l5 : Option Value) (st : List Value) (h : tm_H) (K : Option Value → tm_H → Prop) : tm_A d 173 51 [l0, l1, l2, some (.int v), l4, l5] st h K ↔ tm_A d 173 52 [l0, l1, l2, some (.int v), l4, l5] (.int v :: st) h K := tm_s o173_51 rfl rfl rfl
theorem o173_52 : tm_op 173 52 = some (.aload_n 0, (0, 0, 0, 0)) := rfl
theorem r173_52 (d : Nat) (v : Nat) (l1 l2 l3 l4 l5 : Option Value) (st : List Value) (h : tm_H) (K : Option Value → tm_H → Prop) : tm_A d 173 52 [some (.ref v), l1, l2, l3, l4, l5] st h K ↔ tm_A d 173 53 [some (.ref v), l1, l2, l3, l4, l5] (.ref v :: st) h K := tm_s o173_52 rfl rfl rfl
theorem o173_53 : tm_op 173 53 = some (.getfield 65, (2, 10, 28, 0)) := rfl
theorem r173_53 (d : Nat) (a : Nat) (ls : tm_Lo) (st : List Value) (G : tm_G) (I : Nat → Nat → Int32) (J : Nat → Nat → Int64) (R : Nat → Nat → Option Nat) (K : Option Value → tm_H → Prop) : tm_A d 173 53 ls (.ref a :: st) (G, I, J, R) K ↔ G.2.2 a = (0, 10) ∧ tm_A d 173 56 ls (tm_rf (R a 28) :: st) (G, I, J, R) K := tm_getR o173_53
theorem o173_56 : tm_op 173 56 = some (.bipush 10, (0, 0, 0, 0)) := rfl
theorem r173_56 (d : Nat) (ls : tm_Lo) (st : List Value) (h : tm_H) (K : Option Value → tm_H → Prop) : tm_A d 173 56 ls st h K ↔ tm_A d 173 58 ls (.int (10 : Int32) :: st) h K := tm_bp o173_56 (by decide)
theorem o173_58 : tm_op 173 58 = some (.iload 4, (0, 0, 0, 0)) := rfl
theorem r173_58 (d : Nat) (v : Int32) (l0 l1 l2 l3 l5 : Option Value) (st : List Value) (h : tm_H) (K : Option Value → tm_H → Prop) : tm_A d 173 58 [l0, l1, l2, l3, some (.int v), l5] st h K ↔ tm_A d 173 60 [l0, l1, l2, l3, some (.int v), l5] (.int v :: st) h K := tm_s o173_58 rfl rfl rfl
theorem o173_60 : tm_op 173 60 = some (.imul, (0, 0, 0, 0)) := rfl
theorem r173_60 (d : Nat) (u v : Int32) (ls : tm_Lo) (st : List Value) (h : tm_H) (K : Option Value → tm_H → Prop) : tm_A d 173 60 ls (.int u :: .int v :: st) h K ↔ tm_A d 173 61 ls (.int (v * u) :: st) h K := tm_s o173_60 rfl rfl rfl
theorem o173_61 : tm_op 173 61 = some (.iload 5, (0, 0, 0, 0)) := rfl
theorem r173_61 (d : Nat) (v : Int32) (l0 l1 l2 l3 l4 : Option Value) (st : List Value) (h : tm_H) (K : Option Value → tm_H → Prop) : tm_A d 173 61 [l0, l1, l2, l3, l4, some (.int v)] st h K ↔ tm_A d 173 63 [l0, l1, l2, l3, l4, some (.int v)] (.int v :: st) h K := tm_s o173_61 rfl rfl rfl
theorem o173_63 : tm_op 173 63 = some (.iadd, (0, 0, 0, 0)) := rfl
theorem r173_63 (d : Nat) (u v : Int32) (ls : tm_Lo) (st : List Value) (h : tm_H) (K : Option Value → tm_H → Prop) : tm_A d 173 63 ls (.int u :: .int v :: st) h K ↔ tm_A d 173 64 ls (.int (v + u) :: st) h K := tm_s o173_63 rfl rfl rfl
theorem o173_64 : tm_op 173 64 = some (.iaload, (0, 0, 0, 0)) := rfl
theorem r173_64 (d : Nat) (v : Int32) (a : Nat) (ls : tm_Lo) (st : List Value) (G : tm_G) (I : Nat → Nat → Int32) (J : Nat → Nat → Int64) (R : Nat → Nat → Option Nat) (K : Option Value → tm_H → Prop) : tm_A d 173 64 ls (.int v :: .ref a :: st) (G, I, J, R) K ↔ ((G.2.2 a).1 = 1 ∧ tm_in v (G.2.2 a).2) ∧ tm_A d 173 65 ls (.int (I a (tm_ix v)) :: st) (G, I, J, R) K := tm_iald o173_64
theorem o173_65 : tm_op 173 65 = some (.iconst 2, (0, 0, 0, 0)) := rfl
theorem r173_65 (d : Nat) (ls : tm_Lo) (st : List Value) (h : tm_H) (K : Option Value → tm_H → Prop) : tm_A d 173 65 ls st h K ↔ tm_A d 173 66 ls (.int (2 : Int32) :: st) h K := tm_ic o173_65 (by decide)
theorem o173_66 : tm_op 173 66 = some (.if_icmp .ne 7, (0, 0, 0, 0)) := rfl
theorem r173_66 (d : Nat) (y x : Int32) (ls : tm_Lo) (st : List Value) (h : tm_H) (K : Option Value → tm_H → Prop) : tm_A d 173 66 ls (.int y :: .int x :: st) h K ↔ if ¬ x = y then tm_A d 173 73 ls st h K else tm_A d 173 69 ls st h K := tm_b o173_66 rfl rfl rfl rfl
theorem o173_69 : tm_op 173 69 = some (.iconst 1, (0, 0, 0, 0)) := rfl
theorem r173_69 (d : Nat) (ls : tm_Lo) (st : List Value) (h : tm_H) (K : Option Value → tm_H → Prop) : tm_A d 173 69 ls st h K ↔ tm_A d 173 70 ls (.int (1 : Int32) :: st) h K := tm_ic o173_69 (by decide)
theorem o173_70 : tm_op 173 70 = some (.goto 4, (0, 0, 0, 0)) := rfl
theorem r173_70 (d : Nat) (ls : tm_Lo) (st : List Value) (h : tm_H) (K : Option Value → tm_H → Prop) : tm_A d 173 70 ls st h K ↔ tm_A d 173 74 ls st h K := tm_s o173_70 rfl rfl rfl
theorem o173_73 : tm_op 173 73 = some (.iconst 0, (0, 0, 0, 0)) := rfl
theorem r173_73 (d : Nat) (ls : tm_Lo) (st : List Value) (h : tm_H) (K : Option Value → tm_H → Prop) : tm_A d 173 73 ls st h K ↔ tm_A d 173 74 ls (.int (0 : Int32) :: st) h K := tm_ic o173_73 (by decide)
theorem o173_74 : tm_op 173 74 = some (.iadd, (0, 0, 0, 0)) := rfl
theorem r173_74 (d : Nat) (u v : Int32) (ls : tm_Lo) (st : List Value) (h : tm_H) (K : Option Value → tm_H → Prop) : tm_A d 173 74 ls (.int u :: .int v :: st) h K ↔ tm_A d 173 75 ls (.int (v + u) :: st) h K := tm_s o173_74 rfl rfl rfl
theorem o173_75 : tm_op 173 75 = some (.istore_n 3, (0, 0, 0, 0)) := rfl
theorem r173_75 (d : Nat) (v : Int32) (l0 l1 l2 l3 l4 l5 : Option Value) (st : List Value) (h : tm_H) (K : Option Value → tm_H → Prop) : tm_A d 173 75 [l0, l1, l2, l3, l4, l5] (.int v :: st) h K ↔ tm_A d 173 76 [l0, l1, l2, some (.int v), l4, l5] st h K := tm_s o173_75 rfl rfl rfl
theorem o173_76 : tm_op 173 76 = some (.iinc 5 1, (0, 0, 0, 0)) := rfl
theorem r173_76 (d : Nat) (v : Int32) (l0 l1 l2 l3 l4 : Option Value) (st : List Value) (h : tm_H) (K : Option Value → tm_H → Prop) : tm_A d 173 76 [l0, l1, l2, l3, l4, some (.int v)] st h K ↔ tm_A d 173 79 [l0, l1, l2, l3, l4, some (.int (v + (1 : Int32)))] st h K := tm_s o173_76 rfl rfl rfl
theorem o173_79 : tm_op 173 79 = some (.goto (-60), (0, 0, 0, 0)) := rfl
theorem r173_79 (d : Nat) (ls : tm_Lo) (st : List Value) (h : tm_H) (K : Option Value → tm_H → Prop) : tm_A d 173 79 ls st h K ↔ tm_A d 173 19 ls st h K := tm_s o173_79 rfl rfl rfl
theorem o173_82 : tm_op 173 82 = some (.iinc 4 1, (0, 0, 0, 0)) := rfl
theorem r173_82 (d : Nat) (v : Int32) (l0 l1 l2 l3 l5 : Option Value) (st : List Value) (h : tm_H) (K : Option Value → tm_H → Prop) : tm_A d 173 82 [l0, l1, l2, l3, some (.int v), l5] st h K ↔ tm_A d 173 85 [l0, l1, l2, l3, some (.int (v + (1 : Int32))), l5] st h K := tm_s o173_82 rfl rfl rfl
theorem o173_85 : tm_op 173 85 = some (.goto (-78), (0, 0, 0, 0)) := rfl
theorem r173_85 (d : Nat) (ls : tm_Lo) (st : List Value) (h : tm_H) (K : Option Value → tm_H → Prop) : tm_A d 173 85 ls st h K ↔ tm_A d 173 7 ls st h K := tm_s o173_85 rfl rfl rfl
theorem o173_88 : tm_op 173 88 = some (.iload_n 1, (0, 0, 0, 0)) := rfl
theorem r173_88 (d : Nat) (v : Int32) (l0 l2 l3 l4 l5 : Option Value) (st : List Value) (h : tm_H) (K : Option Value → tm_H → Prop) : tm_A d 173 88 [l0, some (.int v), l2, l3, l4, l5] st h K ↔ tm_A d 173 89 [l0, some (.int v), l2, l3, l4, l5] (.int v :: st) h K := tm_s o173_88 rfl rfl rfl
theorem o173_89 : tm_op 173 89 = some (.tableswitch 63 0 5 #[39, 44, 49, 54, 59, 61], (39, 0, 0, 0)) := rfl
theorem r173_89 (d : Nat) (v : Int32) (ls : tm_Lo) (st : List Value) (h : tm_H) (K : Option Value → tm_H → Prop) : tm_A d 173 89 ls (.int v :: st) h K ↔ tm_A d 173 (tm_tsw (63) (0) (5) #[39, 44, 49, 54, 59, 61] 89 v) ls st h K := tm_s o173_89 rfl rfl rfl
theorem o173_128 : tm_op 173 128 = some (.aload_n 0, (0, 0, 0, 0)) := rfl
theorem r173_128 (d : Nat) (v : Nat) (l1 l2 l3 l4 l5 : Option Value) (st : List Value) (h : tm_H) (K : Option Value → tm_H → Prop) : tm_A d 173 128 [some (.ref v), l1, l2, l3, l4, l5] st h K ↔ tm_A d 173 129 [some (.ref v), l1, l2, l3, l4, l5] (.ref v :: st) h K := tm_s o173_128 rfl rfl rfl
theorem o173_129 : tm_op 173 129 = some (.getfield 87, (0, 10, 0, 0)) := rfl
theorem r173_129 (d : Nat) (a : Nat) (ls : tm_Lo) (st : List Value) (G : tm_G) (I : Nat → Nat → Int32) (J : Nat → Nat → Int64) (R : Nat → Nat → Option Nat) (K : Option Value → tm_H → Prop) : tm_A d 173 129 ls (.ref a :: st) (G, I, J, R) K ↔ G.2.2 a = (0, 10) ∧ tm_A d 173 132 ls (.int (I a 0) :: st) (G, I, J, R) K := tm_getI o173_129
theorem o173_132 : tm_op 173 132 = some (.ireturn, (0, 0, 0, 0)) := rfl
theorem r173_132 (d : Nat) (v : Int32) (ls : tm_Lo) (h : tm_H) (K : Option Value → tm_H → Prop) : tm_A d 173 132 ls [.int v] h K ↔ K (some (.int v)) h := tm_reti o173_132 rfl
theorem o173_133 : tm_op 173 133 = some (.aload_n 0, (0, 0, 0, 0)) := rfl
theorem r173_133 (d : Nat) (v : Nat) (l1 l2 l3 l4 l5 : Option Value) (st : List Value) (h : tm_H) (K : Option Value → tm_H → Prop) : tm_A d 173 133 [some (.ref v), l1, l2, l3, l4, l5] st h K ↔ tm_A d 173 134 [some (.ref v), l1, l2, l3, l4, l5] (.ref v :: st) h K := tm_s o173_133 rfl rfl rfl
theorem o173_134 : tm_op 173 134 = some (.getfield 142, (0, 10, 1, 0)) := rfl
theorem r173_134 (d : Nat) (a : Nat) (ls : tm_Lo) (st : List Value) (G : tm_G) (I : Nat → Nat → Int32) (J : Nat → Nat → Int64) (R : Nat → Nat → Option Nat) (K : Option Value → tm_H → Prop) : tm_A d 173 134 ls (.ref a :: st) (G, I, J, R) K ↔ G.2.2 a = (0, 10) ∧ tm_A d 173 137 ls (.int (I a 1) :: st) (G, I, J, R) K := tm_getI o173_134
theorem o173_137 : tm_op 173 137 = some (.ireturn, (0, 0, 0, 0)) := rfl
theorem r173_137 (d : Nat) (v : Int32) (ls : tm_Lo) (h : tm_H) (K : Option Value → tm_H → Prop) : tm_A d 173 137 ls [.int v] h K ↔ K (some (.int v)) h := tm_reti o173_137 rfl
theorem o173_138 : tm_op 173 138 = some (.aload_n 0, (0, 0, 0, 0)) := rfl
theorem r173_138 (d : Nat) (v : Nat) (l1 l2 l3 l4 l5 : Option Value) (st : List Value) (h : tm_H) (K : Option Value → tm_H → Prop) : tm_A d 173 138 [some (.ref v), l1, l2, l3, l4, l5] st h K ↔ tm_A d 173 139 [some (.ref v), l1, l2, l3, l4, l5] (.ref v :: st) h K := tm_s o173_138 rfl rfl rfl
theorem o173_139 : tm_op 173 139 = some (.getfield 156, (0, 10, 2, 0)) := rfl
theorem r173_139 (d : Nat) (a : Nat) (ls : tm_Lo) (st : List Value) (G : tm_G) (I : Nat → Nat → Int32) (J : Nat → Nat → Int64) (R : Nat → Nat → Option Nat) (K : Option Value → tm_H → Prop) : tm_A d 173 139 ls (.ref a :: st) (G, I, J, R) K ↔ G.2.2 a = (0, 10) ∧ tm_A d 173 142 ls (.int (I a 2) :: st) (G, I, J, R) K := tm_getI o173_139
theorem o173_142 : tm_op 173 142 = some (.ireturn, (0, 0, 0, 0)) := rfl
theorem r173_142 (d : Nat) (v : Int32) (ls : tm_Lo) (h : tm_H) (K : Option Value → tm_H → Prop) : tm_A d 173 142 ls [.int v] h K ↔ K (some (.int v)) h := tm_reti o173_142 rfl
theorem o173_143 : tm_op 173 143 = some (.aload_n 0, (0, 0, 0, 0)) := rfl
theorem r173_143 (d : Nat) (v : Nat) (l1 l2 l3 l4 l5 : Option Value) (st : List Value) (h : tm_H) (K : Option Value → tm_H → Prop) : tm_A d 173 143 [some (.ref v), l1, l2, l3, l4, l5] st h K ↔ tm_A d 173 144 [some (.ref v), l1, l2, l3, l4, l5] (.ref v :: st) h K := tm_s o173_143 rfl rfl rfl
theorem o173_144 : tm_op 173 144 = some (.getfield 94, (0, 10, 6, 0)) := rfl
theorem r173_144 (d : Nat) (a : Nat) (ls : tm_Lo) (st : List Value) (G : tm_G) (I : Nat → Nat → Int32) (J : Nat → Nat → Int64) (R : Nat → Nat → Option Nat) (K : Option Value → tm_H → Prop) : tm_A d 173 144 ls (.ref a :: st) (G, I, J, R) K ↔ G.2.2 a = (0, 10) ∧ tm_A d 173 147 ls (.int (I a 6) :: st) (G, I, J, R) K := tm_getI o173_144
theorem o173_147 : tm_op 173 147 = some (.ireturn, (0, 0, 0, 0)) := rfl
theorem r173_147 (d : Nat) (v : Int32) (ls : tm_Lo) (h : tm_H) (K : Option Value → tm_H → Prop) : tm_A d 173 147 ls [.int v] h K ↔ K (some (.int v)) h := tm_reti o173_147 rfl
theorem o173_148 : tm_op 173 148 = some (.iload_n 2, (0, 0, 0, 0)) := rfl
theorem r173_148 (d : Nat) (v : Int32) (l0 l1 l3 l4 l5 : Option Value) (st : List Value) (h : tm_H) (K : Option Value → tm_H → Prop) : tm_A d 173 148 [l0, l1, some (.int v), l3, l4, l5] st h K ↔ tm_A d 173 149 [l0, l1, some (.int v), l3, l4, l5] (.int v :: st) h K := tm_s o173_148 rfl rfl rfl
theorem o173_149 : tm_op 173 149 = some (.ireturn, (0, 0, 0, 0)) := rfl
theorem r173_149 (d : Nat) (v : Int32) (ls : tm_Lo) (h : tm_H) (K : Option Value → tm_H → Prop) : tm_A d 173 149 ls [.int v] h K ↔ K (some (.int v)) h := tm_reti o173_149 rfl
theorem o173_150 : tm_op 173 150 = some (.iload_n 3, (0, 0, 0, 0)) := rfl
theorem r173_150 (d : Nat) (v : Int32) (l0 l1 l2 l4 l5 : Option Value) (st : List Value) (h : tm_H) (K : Option Value → tm_H → Prop) : tm_A d 173 150 [l0, l1, l2, some (.int v), l4, l5] st h K ↔ tm_A d 173 151 [l0, l1, l2, some (.int v), l4, l5] (.int v :: st) h K := tm_s o173_150 rfl rfl rfl
theorem o173_151 : tm_op 173 151 = some (.ireturn, (0, 0, 0, 0)) := rfl
theorem r173_151 (d : Nat) (v : Int32) (ls : tm_Lo) (h : tm_H) (K : Option Value → tm_H → Prop) : tm_A d 173 151 ls [.int v] h K ↔ K (some (.int v)) h := tm_reti o173_151 rfl
theorem o173_152 : tm_op 173 152 = some (.iconst (-1), (0, 0, 0, 0)) := rfl
theorem r173_152 (d : Nat) (ls : tm_Lo) (st : List Value) (h : tm_H) (K : Option Value → tm_H → Prop) : tm_A d 173 152 ls st h K ↔ tm_A d 173 153 ls (.int (-1 : Int32) :: st) h K := tm_ic o173_152 (by decide)
theorem o173_153 : tm_op 173 153 = some (.ireturn, (0, 0, 0, 0)) := rfl
theorem r173_153 (d : Nat) (v : Int32) (ls : tm_Lo) (h : tm_H) (K : Option Value → tm_H → Prop) : tm_A d 173 153 ls [.int v] h K ↔ K (some (.int v)) h := tm_reti o173_153 rfl
theorem o174_0 : tm_op 174 0 = some (.iload_n 0, (0, 0, 0, 0)) := rfl
theorem r174_0 (d : Nat) (v : Int32) (st : List Value) (h : tm_H) (K : Option Value → tm_H → Prop) : tm_A d 174 0 [some (.int v)] st h K ↔ tm_A d 174 1 [some (.int v)] (.int v :: st) h K := tm_s o174_0 rfl rfl rfl
theorem o174_1 : tm_op 174 1 = some (.iload_n 0, (0, 0, 0, 0)) := rfl
theorem r174_1 (d : Nat) (v : Int32) (st : List Value) (h : tm_H) (K : Option Value → tm_H → Prop) : tm_A d 174 1 [some (.int v)] st h K ↔ tm_A d 174 2 [some (.int v)] (.int v :: st) h K := tm_s o174_1 rfl rfl rfl
theorem o174_2 : tm_op 174 2 = some (.iconst 1, (0, 0, 0, 0)) := rfl
theorem r174_2 (d : Nat) (ls : tm_Lo) (st : List Value) (h : tm_H) (K : Option Value → tm_H → Prop) : tm_A d 174 2 ls st h K ↔ tm_A d 174 3 ls (.int (1 : Int32) :: st) h K := tm_ic o174_2 (by decide)
theorem o174_3 : tm_op 174 3 = some (.iushr, (0, 0, 0, 0)) := rfl
theorem r174_3 (d : Nat) (u v : Int32) (ls : tm_Lo) (st : List Value) (h : tm_H) (K : Option Value → tm_H → Prop) : tm_A d 174 3 ls (.int u :: .int v :: st) h K ↔ tm_A d 174 4 ls (.int ((v.toUInt32 >>> (u.toUInt32 &&& Int32.toUInt32 31)).toInt32) :: st) h K := tm_s o174_3 rfl rfl rfl
theorem o174_4 : tm_op 174 4 = some (.ldc_w 265, (0, 1431655765, 0, 0)) := rfl
theorem r174_4 (d : Nat) (ls : tm_Lo) (st : List Value) (h : tm_H) (K : Option Value → tm_H → Prop) : tm_A d 174 4 ls st h K ↔ tm_A d 174 7 ls (.int (1431655765 : Int32) :: st) h K := tm_s o174_4 rfl rfl rfl
theorem o174_7 : tm_op 174 7 = some (.iand, (0, 0, 0, 0)) := rfl
theorem r174_7 (d : Nat) (u v : Int32) (ls : tm_Lo) (st : List Value) (h : tm_H) (K : Option Value → tm_H → Prop) : tm_A d 174 7 ls (.int u :: .int v :: st) h K ↔ tm_A d 174 8 ls (.int (v &&& u) :: st) h K := tm_s o174_7 rfl rfl rfl
theorem o174_8 : tm_op 174 8 = some (.isub, (0, 0, 0, 0)) := rfl
theorem r174_8 (d : Nat) (u v : Int32) (ls : tm_Lo) (st : List Value) (h : tm_H) (K : Option Value → tm_H → Prop) : tm_A d 174 8 ls (.int u :: .int v :: st) h K ↔ tm_A d 174 9 ls (.int (v - u) :: st) h K := tm_s o174_8 rfl rfl rfl
theorem o174_9 : tm_op 174 9 = some (.istore_n 0, (0, 0, 0, 0)) := rfl
theorem r174_9 (d : Nat) (v : Int32) (l0 : Option Value) (st : List Value) (h : tm_H) (K : Option Value → tm_H → Prop) : tm_A d 174 9 [l0] (.int v :: st) h K ↔ tm_A d 174 10 [some (.int v)] st h K := tm_s o174_9 rfl rfl rfl
theorem o174_10 : tm_op 174 10 = some (.iload_n 0, (0, 0, 0, 0)) := rfl
theorem r174_10 (d : Nat) (v : Int32) (st : List Value) (h : tm_H) (K : Option Value → tm_H → Prop) : tm_A d 174 10 [some (.int v)] st h K ↔ tm_A d 174 11 [some (.int v)] (.int v :: st) h K := tm_s o174_10 rfl rfl rfl
theorem o174_11 : tm_op 174 11 = some (.ldc_w 266, (0, 858993459, 0, 0)) := rfl
theorem r174_11 (d : Nat) (ls : tm_Lo) (st : List Value) (h : tm_H) (K : Option Value → tm_H → Prop) : tm_A d 174 11 ls st h K ↔ tm_A d 174 14 ls (.int (858993459 : Int32) :: st) h K := tm_s o174_11 rfl rfl rfl
theorem o174_14 : tm_op 174 14 = some (.iand, (0, 0, 0, 0)) := rfl
theorem r174_14 (d : Nat) (u v : Int32) (ls : tm_Lo) (st : List Value) (h : tm_H) (K : Option Value → tm_H → Prop) : tm_A d 174 14 ls (.int u :: .int v :: st) h K ↔ tm_A d 174 15 ls (.int (v &&& u) :: st) h K := tm_s o174_14 rfl rfl rfl
theorem o174_15 : tm_op 174 15 = some (.iload_n 0, (0, 0, 0, 0)) := rfl
theorem r174_15 (d : Nat) (v : Int32) (st : List Value) (h : tm_H) (K : Option Value → tm_H → Prop) : tm_A d 174 15 [some (.int v)] st h K ↔ tm_A d 174 16 [some (.int v)] (.int v :: st) h K := tm_s o174_15 rfl rfl rfl
theorem o174_16 : tm_op 174 16 = some (.iconst 2, (0, 0, 0, 0)) := rfl
theorem r174_16 (d : Nat) (ls : tm_Lo) (st : List Value) (h : tm_H) (K : Option Value → tm_H → Prop) : tm_A d 174 16 ls st h K ↔ tm_A d 174 17 ls (.int (2 : Int32) :: st) h K := tm_ic o174_16 (by decide)
theorem o174_17 : tm_op 174 17 = some (.iushr, (0, 0, 0, 0)) := rfl
theorem r174_17 (d : Nat) (u v : Int32) (ls : tm_Lo) (st : List Value) (h : tm_H) (K : Option Value → tm_H → Prop) : tm_A d 174 17 ls (.int u :: .int v :: st) h K ↔ tm_A d 174 18 ls (.int ((v.toUInt32 >>> (u.toUInt32 &&& Int32.toUInt32 31)).toInt32) :: st) h K := tm_s o174_17 rfl rfl rfl
theorem o174_18 : tm_op 174 18 = some (.ldc_w 266, (0, 858993459, 0, 0)) := rfl
theorem r174_18 (d : Nat) (ls : tm_Lo) (st : List Value) (h : tm_H) (K : Option Value → tm_H → Prop) : tm_A d 174 18 ls st h K ↔ tm_A d 174 21 ls (.int (858993459 : Int32) :: st) h K := tm_s o174_18 rfl rfl rfl
theorem o174_21 : tm_op 174 21 = some (.iand, (0, 0, 0, 0)) := rfl
theorem r174_21 (d : Nat) (u v : Int32) (ls : tm_Lo) (st : List Value) (h : tm_H) (K : Option Value → tm_H → Prop) : tm_A d 174 21 ls (.int u :: .int v :: st) h K ↔ tm_A d 174 22 ls (.int (v &&& u) :: st) h K := tm_s o174_21 rfl rfl rfl
theorem o174_22 : tm_op 174 22 = some (.iadd, (0, 0, 0, 0)) := rfl
theorem r174_22 (d : Nat) (u v : Int32) (ls : tm_Lo) (st : List Value) (h : tm_H) (K : Option Value → tm_H → Prop) : tm_A d 174 22 ls (.int u :: .int v :: st) h K ↔ tm_A d 174 23 ls (.int (v + u) :: st) h K := tm_s o174_22 rfl rfl rfl
theorem o174_23 : tm_op 174 23 = some (.istore_n 0, (0, 0, 0, 0)) := rfl
theorem r174_23 (d : Nat) (v : Int32) (l0 : Option Value) (st : List Value) (h : tm_H) (K : Option Value → tm_H → Prop) : tm_A d 174 23 [l0] (.int v :: st) h K ↔ tm_A d 174 24 [some (.int v)] st h K := tm_s o174_23 rfl rfl rfl
theorem o174_24 : tm_op 174 24 = some (.iload_n 0, (0, 0, 0, 0)) := rfl
theorem r174_24 (d : Nat) (v : Int32) (st : List Value) (h : tm_H) (K : Option Value → tm_H → Prop) : tm_A d 174 24 [some (.int v)] st h K ↔ tm_A d 174 25 [some (.int v)] (.int v :: st) h K := tm_s o174_24 rfl rfl rfl
theorem o174_25 : tm_op 174 25 = some (.iload_n 0, (0, 0, 0, 0)) := rfl
theorem r174_25 (d : Nat) (v : Int32) (st : List Value) (h : tm_H) (K : Option Value → tm_H → Prop) : tm_A d 174 25 [some (.int v)] st h K ↔ tm_A d 174 26 [some (.int v)] (.int v :: st) h K := tm_s o174_25 rfl rfl rfl
theorem o174_26 : tm_op 174 26 = some (.iconst 4, (0, 0, 0, 0)) := rfl
theorem r174_26 (d : Nat) (ls : tm_Lo) (st : List Value) (h : tm_H) (K : Option Value → tm_H → Prop) : tm_A d 174 26 ls st h K ↔ tm_A d 174 27 ls (.int (4 : Int32) :: st) h K := tm_ic o174_26 (by decide)
theorem o174_27 : tm_op 174 27 = some (.iushr, (0, 0, 0, 0)) := rfl
theorem r174_27 (d : Nat) (u v : Int32) (ls : tm_Lo) (st : List Value) (h : tm_H) (K : Option Value → tm_H → Prop) : tm_A d 174 27 ls (.int u :: .int v :: st) h K ↔ tm_A d 174 28 ls (.int ((v.toUInt32 >>> (u.toUInt32 &&& Int32.toUInt32 31)).toInt32) :: st) h K := tm_s o174_27 rfl rfl rfl
theorem o174_28 : tm_op 174 28 = some (.iadd, (0, 0, 0, 0)) := rfl
theorem r174_28 (d : Nat) (u v : Int32) (ls : tm_Lo) (st : List Value) (h : tm_H) (K : Option Value → tm_H → Prop) : tm_A d 174 28 ls (.int u :: .int v :: st) h K ↔ tm_A d 174 29 ls (.int (v + u) :: st) h K := tm_s o174_28 rfl rfl rfl
theorem o174_29 : tm_op 174 29 = some (.ldc_w 267, (0, 252645135, 0, 0)) := rfl
theorem r174_29 (d : Nat) (ls : tm_Lo) (st : List Value) (h : tm_H) (K : Option Value → tm_H → Prop) : tm_A d 174 29 ls st h K ↔ tm_A d 174 32 ls (.int (252645135 : Int32) :: st) h K := tm_s o174_29 rfl rfl rfl
theorem o174_32 : tm_op 174 32 = some (.iand, (0, 0, 0, 0)) := rfl
theorem r174_32 (d : Nat) (u v : Int32) (ls : tm_Lo) (st : List Value) (h : tm_H) (K : Option Value → tm_H → Prop) : tm_A d 174 32 ls (.int u :: .int v :: st) h K ↔ tm_A d 174 33 ls (.int (v &&& u) :: st) h K := tm_s o174_32 rfl rfl rfl
theorem o174_33 : tm_op 174 33 = some (.istore_n 0, (0, 0, 0, 0)) := rfl
theorem r174_33 (d : Nat) (v : Int32) (l0 : Option Value) (st : List Value) (h : tm_H) (K : Option Value → tm_H → Prop) : tm_A d 174 33 [l0] (.int v :: st) h K ↔ tm_A d 174 34 [some (.int v)] st h K := tm_s o174_33 rfl rfl rfl
theorem o174_34 : tm_op 174 34 = some (.iload_n 0, (0, 0, 0, 0)) := rfl
theorem r174_34 (d : Nat) (v : Int32) (st : List Value) (h : tm_H) (K : Option Value → tm_H → Prop) : tm_A d 174 34 [some (.int v)] st h K ↔ tm_A d 174 35 [some (.int v)] (.int v :: st) h K := tm_s o174_34 rfl rfl rfl
theorem o174_35 : tm_op 174 35 = some (.iload_n 0, (0, 0, 0, 0)) := rfl
theorem r174_35 (d : Nat) (v : Int32) (st : List Value) (h : tm_H) (K : Option Value → tm_H → Prop) : tm_A d 174 35 [some (.int v)] st h K ↔ tm_A d 174 36 [some (.int v)] (.int v :: st) h K := tm_s o174_35 rfl rfl rfl
theorem o174_36 : tm_op 174 36 = some (.bipush 8, (0, 0, 0, 0)) := rfl
theorem r174_36 (d : Nat) (ls : tm_Lo) (st : List Value) (h : tm_H) (K : Option Value → tm_H → Prop) : tm_A d 174 36 ls st h K ↔ tm_A d 174 38 ls (.int (8 : Int32) :: st) h K := tm_bp o174_36 (by decide)
theorem o174_38 : tm_op 174 38 = some (.iushr, (0, 0, 0, 0)) := rfl
theorem r174_38 (d : Nat) (u v : Int32) (ls : tm_Lo) (st : List Value) (h : tm_H) (K : Option Value → tm_H → Prop) : tm_A d 174 38 ls (.int u :: .int v :: st) h K ↔ tm_A d 174 39 ls (.int ((v.toUInt32 >>> (u.toUInt32 &&& Int32.toUInt32 31)).toInt32) :: st) h K := tm_s o174_38 rfl rfl rfl
theorem o174_39 : tm_op 174 39 = some (.iadd, (0, 0, 0, 0)) := rfl
theorem r174_39 (d : Nat) (u v : Int32) (ls : tm_Lo) (st : List Value) (h : tm_H) (K : Option Value → tm_H → Prop) : tm_A d 174 39 ls (.int u :: .int v :: st) h K ↔ tm_A d 174 40 ls (.int (v + u) :: st) h K := tm_s o174_39 rfl rfl rfl
theorem o174_40 : tm_op 174 40 = some (.istore_n 0, (0, 0, 0, 0)) := rfl
theorem r174_40 (d : Nat) (v : Int32) (l0 : Option Value) (st : List Value) (h : tm_H) (K : Option Value → tm_H → Prop) : tm_A d 174 40 [l0] (.int v :: st) h K ↔ tm_A d 174 41 [some (.int v)] st h K := tm_s o174_40 rfl rfl rfl
theorem o174_41 : tm_op 174 41 = some (.iload_n 0, (0, 0, 0, 0)) := rfl
theorem r174_41 (d : Nat) (v : Int32) (st : List Value) (h : tm_H) (K : Option Value → tm_H → Prop) : tm_A d 174 41 [some (.int v)] st h K ↔ tm_A d 174 42 [some (.int v)] (.int v :: st) h K := tm_s o174_41 rfl rfl rfl
theorem o174_42 : tm_op 174 42 = some (.iload_n 0, (0, 0, 0, 0)) := rfl
theorem r174_42 (d : Nat) (v : Int32) (st : List Value) (h : tm_H) (K : Option Value → tm_H → Prop) : tm_A d 174 42 [some (.int v)] st h K ↔ tm_A d 174 43 [some (.int v)] (.int v :: st) h K := tm_s o174_42 rfl rfl rfl
theorem o174_43 : tm_op 174 43 = some (.bipush 16, (0, 0, 0, 0)) := rfl
theorem r174_43 (d : Nat) (ls : tm_Lo) (st : List Value) (h : tm_H) (K : Option Value → tm_H → Prop) : tm_A d 174 43 ls st h K ↔ tm_A d 174 45 ls (.int (16 : Int32) :: st) h K := tm_bp o174_43 (by decide)
theorem o174_45 : tm_op 174 45 = some (.iushr, (0, 0, 0, 0)) := rfl
theorem r174_45 (d : Nat) (u v : Int32) (ls : tm_Lo) (st : List Value) (h : tm_H) (K : Option Value → tm_H → Prop) : tm_A d 174 45 ls (.int u :: .int v :: st) h K ↔ tm_A d 174 46 ls (.int ((v.toUInt32 >>> (u.toUInt32 &&& Int32.toUInt32 31)).toInt32) :: st) h K := tm_s o174_45 rfl rfl rfl
theorem o174_46 : tm_op 174 46 = some (.iadd, (0, 0, 0, 0)) := rfl
theorem r174_46 (d : Nat) (u v : Int32) (ls : tm_Lo) (st : List Value) (h : tm_H) (K : Option Value → tm_H → Prop) : tm_A d 174 46 ls (.int u :: .int v :: st) h K ↔ tm_A d 174 47 ls (.int (v + u) :: st) h K := tm_s o174_46 rfl rfl rfl
theorem o174_47 : tm_op 174 47 = some (.istore_n 0, (0, 0, 0, 0)) := rfl
theorem r174_47 (d : Nat) (v : Int32) (l0 : Option Value) (st : List Value) (h : tm_H) (K : Option Value → tm_H → Prop) : tm_A d 174 47 [l0] (.int v :: st) h K ↔ tm_A d 174 48 [some (.int v)] st h K := tm_s o174_47 rfl rfl rfl
theorem o174_48 : tm_op 174 48 = some (.iload_n 0, (0, 0, 0, 0)) := rfl
theorem r174_48 (d : Nat) (v : Int32) (st : List Value) (h : tm_H) (K : Option Value → tm_H → Prop) : tm_A d 174 48 [some (.int v)] st h K ↔ tm_A d 174 49 [some (.int v)] (.int v :: st) h K := tm_s o174_48 rfl rfl rfl
theorem o174_49 : tm_op 174 49 = some (.bipush 63, (0, 0, 0, 0)) := rfl
theorem r174_49 (d : Nat) (ls : tm_Lo) (st : List Value) (h : tm_H) (K : Option Value → tm_H → Prop) : tm_A d 174 49 ls st h K ↔ tm_A d 174 51 ls (.int (63 : Int32) :: st) h K := tm_bp o174_49 (by decide)
theorem o174_51 : tm_op 174 51 = some (.iand, (0, 0, 0, 0)) := rfl
theorem r174_51 (d : Nat) (u v : Int32) (ls : tm_Lo) (st : List Value) (h : tm_H) (K : Option Value → tm_H → Prop) : tm_A d 174 51 ls (.int u :: .int v :: st) h K ↔ tm_A d 174 52 ls (.int (v &&& u) :: st) h K := tm_s o174_51 rfl rfl rfl
theorem o174_52 : tm_op 174 52 = some (.ireturn, (0, 0, 0, 0)) := rfl
theorem r174_52 (d : Nat) (v : Int32) (ls : tm_Lo) (h : tm_H) (K : Option Value → tm_H → Prop) : tm_A d 174 52 ls [.int v] h K ↔ K (some (.int v)) h := tm_reti o174_52 rfl
