/-! The class's small methods. -/
theorem tm_z0 : ((0 : Int32) = 0 ∨ (0 : Int32) = 1) ↔ True := by simp
theorem tm_z1 : ((1 : Int32) = 0 ∨ (1 : Int32) = 1) ↔ True := by simp
section CL1
variable {G : tm_G} {I : Nat → Nat → Int32} {J : Nat → Nat → Int64} {R : Nat → Nat → Option Nat}
theorem c73 (d : Nat) (n : Int32) (K : Option Value → tm_H → Prop) (hS : tp_S G) : tm_R d 73 [.ref 4, .int n] (G, I, J, R) K ↔ if 0 ≤ n ∧ n ≤ I 4 1 then K (some (.int 1)) (G, up2 I 4 1 n, J, R) else K (some (.int 0)) (G, I, J, R) := by
  rw [e73]
  simp only [r73_0, r73_1, r73_4, r73_5, r73_6, r73_9, r73_12, r73_13, r73_14, r73_15, r73_16, r73_19, r73_20, sh_4 hS, tm_z0, tm_z1, tm_in, or_true, true_or, tm_cs0, tm_cs1, tm_cs2, tm_cs3, tm_cs4, true_and, and_true, and_self, Option.toList_some, Option.toList_none, List.cons_append, List.nil_append, tm_rf_some, tm_rf_none]
  grind
theorem c86 (d : Nat) (n : Int32) (K : Option Value → tm_H → Prop) (hS : tp_S G) : tm_R d 86 [.ref 3, .int n] (G, I, J, R) K ↔ if 0 ≤ n ∧ n ≤ 1000 ∧ I 3 7 + n ≤ 1000 then K (some (.int (I 3 7 + n))) (G, up2 I 3 7 (I 3 7 + n), J, R) else K (some (.int (-1))) (G, I, J, R) := by
  rw [e86]
  simp only [r86_0, r86_1, r86_4, r86_5, r86_8, r86_11, r86_12, r86_15, r86_16, r86_17, r86_20, r86_23, r86_24, r86_25, r86_26, r86_26i, r86_27, r86_30, r86_31, r86_32, r86_35, r86_36, r86_39, sh_3 hS, up2_at, tm_in, or_true, true_or, tm_cs0, tm_cs1, tm_cs2, tm_cs3, tm_cs4, true_and, and_true, and_self, Option.toList_some, Option.toList_none, List.cons_append, List.nil_append, tm_rf_some, tm_rf_none]
  grind
theorem c88 (d : Nat) (n : Int32) (K : Option Value → tm_H → Prop) (hS : tp_S G) (hR : tp_R R) : tm_R (d + 1) 88 [.ref 3, .int n] (G, I, J, R) K ↔ if 0 ≤ n ∧ n ≤ I 4 1 then K (some (.int 1)) (G, up2 I 4 1 n, J, R) else K (some (.int 0)) (G, I, J, R) := by
  rw [e88]
  simp only [r88_0, r88_1, r88_4, r88_5, r88_8, sh_3 hS, sh_4 hS, rf_3_0 hR, c73 _ _ _ hS, tm_z0, tm_z1, tm_in, or_true, true_or, tm_cs0, tm_cs1, tm_cs2, tm_cs3, tm_cs4, true_and, and_true, and_self, Option.toList_some, Option.toList_none, List.cons_append, List.nil_append, tm_rf_some, tm_rf_none]
theorem c94 (d : Nat) (n : Int32) (K : Option Value → tm_H → Prop) (hS : tp_S G) : tm_R d 94 [.ref 3, .int n] (G, I, J, R) K ↔ if 0 ≤ n ∧ n ≤ 100 then K (some (.int 1)) (G, up2 (up2 I 3 8 n) 3 11 0, J, R) else K (some (.int 0)) (G, I, J, R) := by
  rw [e94]
  simp only [r94_0, r94_1, r94_4, r94_5, r94_7, r94_10, r94_11, r94_12, r94_13, r94_14, r94_17, r94_18, r94_19, r94_22, r94_23, sh_3 hS, tm_z0, tm_z1, tm_in, or_true, true_or, tm_cs0, tm_cs1, tm_cs2, tm_cs3, tm_cs4, true_and, and_true, and_self, Option.toList_some, Option.toList_none, List.cons_append, List.nil_append, tm_rf_some, tm_rf_none]
  grind
theorem c95 (d : Nat) (n : Int32) (K : Option Value → tm_H → Prop) (hS : tp_S G) : tm_R d 95 [.ref 3, .int n] (G, I, J, R) K ↔ if 0 ≤ n ∧ n ≤ 50 then K (some (.int 1)) (G, up2 (up2 I 3 9 n) 3 12 0, J, R) else K (some (.int 0)) (G, I, J, R) := by
  rw [e95]
  simp only [r95_0, r95_1, r95_4, r95_5, r95_7, r95_10, r95_11, r95_12, r95_13, r95_14, r95_17, r95_18, r95_19, r95_22, r95_23, sh_3 hS, tm_z0, tm_z1, tm_in, or_true, true_or, tm_cs0, tm_cs1, tm_cs2, tm_cs3, tm_cs4, true_and, and_true, and_self, Option.toList_some, Option.toList_none, List.cons_append, List.nil_append, tm_rf_some, tm_rf_none]
  grind
theorem c49 (d : Nat) (K : Option Value → tm_H → Prop) (hS : tp_S G) : tm_R d 49 [.ref 9] (G, I, J, R) K ↔ K (some (.int (I 9 3))) (G, I, J, R) := by
  rw [e49]
  simp only [r49_0, r49_1, r49_4, sh_9 hS, tm_in, or_true, true_or, tm_cs0, tm_cs1, tm_cs2, tm_cs3, tm_cs4, true_and, and_true, and_self, Option.toList_some, Option.toList_none, List.cons_append, List.nil_append, tm_rf_some, tm_rf_none]
theorem c50 (d : Nat) (K : Option Value → tm_H → Prop) (hS : tp_S G) : tm_R d 50 [.ref 9] (G, I, J, R) K ↔ K (some (.int (I 9 4))) (G, I, J, R) := by
  rw [e50]
  simp only [r50_0, r50_1, r50_4, sh_9 hS, tm_in, or_true, true_or, tm_cs0, tm_cs1, tm_cs2, tm_cs3, tm_cs4, true_and, and_true, and_self, Option.toList_some, Option.toList_none, List.cons_append, List.nil_append, tm_rf_some, tm_rf_none]
theorem c71 (d : Nat) (K : Option Value → tm_H → Prop) (hS : tp_S G) : tm_R d 71 [.ref 4] (G, I, J, R) K ↔ K (some (.int (I 4 1))) (G, I, J, R) := by
  rw [e71]
  simp only [r71_0, r71_1, r71_4, sh_4 hS, tm_in, or_true, true_or, tm_cs0, tm_cs1, tm_cs2, tm_cs3, tm_cs4, true_and, and_true, and_self, Option.toList_some, Option.toList_none, List.cons_append, List.nil_append, tm_rf_some, tm_rf_none]
theorem c42 (d : Nat) (K : Option Value → tm_H → Prop) (hS : tp_S G) : tm_R d 42 [.ref 14] (G, I, J, R) K ↔ K (some (.int (I 14 1))) (G, I, J, R) := by
  rw [e42]
  simp only [r42_0, r42_1, r42_4, sh_14 hS, tm_in, or_true, true_or, tm_cs0, tm_cs1, tm_cs2, tm_cs3, tm_cs4, true_and, and_true, and_self, Option.toList_some, Option.toList_none, List.cons_append, List.nil_append, tm_rf_some, tm_rf_none]
theorem c51 (d : Nat) (n : Int32) (K : Option Value → tm_H → Prop) (hS : tp_S G) : tm_R d 51 [.ref 9, .int n] (G, I, J, R) K ↔ K (some (.int (if 0 ≤ n ∧ n < I 9 3 then 1 else 0))) (G, I, J, R) := by
  rw [e51]
  simp only [r51_0, r51_1, r51_4, r51_5, r51_6, r51_9, r51_12, r51_13, r51_16, r51_17, sh_9 hS, tm_z0, tm_z1, tm_in, or_true, true_or, tm_cs0, tm_cs1, tm_cs2, tm_cs3, tm_cs4, true_and, and_true, and_self, Option.toList_some, Option.toList_none, List.cons_append, List.nil_append, tm_rf_some, tm_rf_none]
  grind
theorem c52 (d : Nat) (n : Int32) (K : Option Value → tm_H → Prop) (hS : tp_S G) : tm_R (d + 1) 52 [.ref 9, .int n] (G, I, J, R) K ↔ K (some (.int (if (0 ≤ n ∧ n < I 9 3) ∧ I 9 4 < 60 then 1 else 0))) (G, I, J, R) := by
  rw [e52]
  simp only [r52_0, r52_1, r52_2, r52_5, r52_8, r52_9, r52_12, r52_14, r52_17, r52_18, r52_21, r52_22, sh_9 hS, c51 _ _ _ hS, tm_z0, tm_z1, tm_in, or_true, true_or, tm_cs0, tm_cs1, tm_cs2, tm_cs3, tm_cs4, true_and, and_true, and_self, Option.toList_some, Option.toList_none, List.cons_append, List.nil_append, tm_rf_some, tm_rf_none]
  grind
theorem c35 (d : Nat) (x y : Int32) (h : tm_H) (K : Option Value → tm_H → Prop) : tm_R d 35 [.int x, .int y] h K ↔ K (some (.int (if 0 ≤ x ∧ x < 10 ∧ 0 ≤ y ∧ y < 10 then 1 else 0))) h := by
  rw [e35]
  simp only [r35_0, r35_1, r35_4, r35_5, r35_7, r35_10, r35_11, r35_14, r35_15, r35_17, r35_20, r35_21, r35_24, r35_25, tm_z0, tm_z1, tm_in, or_true, true_or, tm_cs0, tm_cs1, tm_cs2, tm_cs3, tm_cs4, true_and, and_true, and_self, Option.toList_some, Option.toList_none, List.cons_append, List.nil_append, tm_rf_some, tm_rf_none]
  grind
end CL1
