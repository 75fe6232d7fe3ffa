/-! The reference's small methods. -/
theorem m117 (d : Nat) (v lo hi : Int32) (h : tm_H) (K : Option Value → tm_H → Prop) : tm_R d 117 [.int v, .int lo, .int hi] h K ↔ K (some (.int (if lo ≤ v ∧ v ≤ hi then 1 else 0))) h := by
  rw [e117]
  simp only [r117_0, r117_1, r117_2, r117_5, r117_6, r117_7, r117_10, r117_11, r117_14, r117_15]
  by_cases h1 : v < lo
  · have : ¬ (lo ≤ v ∧ v ≤ hi) := fun q => absurd q.1 (Int32.not_le.mpr h1)
    simp [h1, this]
  · by_cases h2 : hi < v
    · have : ¬ (lo ≤ v ∧ v ≤ hi) := fun q => absurd q.2 (Int32.not_le.mpr h2)
      simp [h1, h2, this]
    · have : lo ≤ v ∧ v ≤ hi := ⟨Int32.not_lt.mp h1, Int32.not_lt.mp h2⟩
      simp [h1, h2, this]
theorem m118 (d : Nat) (n : Int32) {G : tm_G} {I : Nat → Nat → Int32} {J : Nat → Nat → Int64} {R : Nat → Nat → Option Nat} (K : Option Value → tm_H → Prop) (hS : tp_S G) : tm_R (d + 1) 118 [.ref 89, .int n] (G, I, J, R) K ↔ if 0 ≤ n ∧ n ≤ 1000 ∧ I 89 0 + n ≤ 1000 then K (some (.int (I 89 0 + n))) (G, up2 I 89 0 (I 89 0 + n), J, R) else K (some (.int (-1))) (G, I, J, R) := by
  rw [e118]
  simp only [r118_0, r118_1, r118_2, r118_5, r118_8, r118_11, r118_12, r118_15, r118_16, r118_17, r118_20, r118_23, r118_24, r118_25, r118_26, r118_26i, r118_27, r118_30, r118_31, r118_32, r118_35, r118_36, r118_39, m117, sh_89 hS, up2_at, tm_in, or_true, true_or, tm_cs0, tm_cs1, tm_cs2, tm_cs3, tm_cs4, true_and, and_true, and_self, Option.toList_some, Option.toList_none, List.cons_append, List.nil_append, tm_rf_some, tm_rf_none]
  by_cases h1 : 0 ≤ n ∧ n ≤ 1000
  · by_cases h2 : I 89 0 + n ≤ 1000
    · simp [h1, h2]
    · simp [h1, h2]
  · have : ¬ (0 ≤ n ∧ n ≤ 1000 ∧ I 89 0 + n ≤ 1000) := fun q => h1 ⟨q.1, q.2.1⟩
    simp [h1, this]
