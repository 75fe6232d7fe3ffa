/-! What it costs to take two reports for one. Facts at x and y. -/
section PRS
variable {G : tm_G} {I : Nat → Nat → Int32} {J : Nat → Nat → Int64} {R : Nat → Nat → Option Nat} {x y : Nat}
def p_dif (I : Nat → Nat → Int32) (x y : Nat) (f : Int32) : Prop := p_has (I x 0) f ∧ p_has (I y 0) f ∧ I (x + 1) (tm_ix f) ≠ I (y + 1) (tm_ix f)
theorem c64 (d : Nat) (f : Int32) (K : Option Value → tm_H → Prop) (hX : tp_F G R x) (hY : tp_F G R y) [Decidable (p_dif I x y f)] [Decidable (p_has (I x 0) f)] [Decidable (p_has (I y 0) f)] : tm_R (d + 2) 64 [.ref x, .ref y, .int f] (G, I, J, R) K ↔ K (some (.int (if p_dif I x y f then 1 else 0))) (G, I, J, R) := by
  have sx := hX.2.1
  have sy := hY.2.1
  rw [e64]
  by_cases h1 : p_has (I x 0) f
  · by_cases h2 : p_has (I y 0) f
    · simp only [r64_0, r64_1, r64_2, r64_5, r64_8, r64_8n, r64_9, r64_10, r64_13, r64_16, r64_17, r64_18, r64_21, r64_21n, r64_22, r64_23, r64_26, r64_29, r64_30, r64_33, r64_34, sx, sy, c3 _ _ _ hX, c3 _ _ _ hY, c4 _ _ _ hX, c4 _ _ _ hY, if_pos h1, if_pos h2, show ¬ (1 : Int32) = 0 by decide, if_false, tm_z0, tm_z1, tm_in, or_true, true_or, tm_cs0, tm_cs1, tm_cs2, tm_cs3, tm_cs4, true_and, and_true, and_self, Option.toList_some, Option.toList_none, List.cons_append, List.nil_append, tm_rf_some, tm_rf_none]
      by_cases h3 : I (x + 1) (tm_ix f) = I (y + 1) (tm_ix f)
      · have : ¬ p_dif I x y f := fun q => q.2.2 h3
        rw [if_pos h3, if_neg this]
      · have : p_dif I x y f := ⟨h1, h2, h3⟩
        rw [if_neg h3, if_pos this]
    · have : ¬ p_dif I x y f := fun q => h2 q.2.1
      rw [if_neg this]
      simp only [r64_0, r64_1, r64_2, r64_5, r64_8, r64_8n, r64_9, r64_10, r64_13, r64_16, r64_17, r64_18, r64_21, r64_21n, r64_22, r64_23, r64_26, r64_29, r64_30, r64_33, r64_34, sx, sy, c3 _ _ _ hX, c3 _ _ _ hY, if_pos h1, if_neg h2, show ¬ (1 : Int32) = 0 by decide, if_true, if_false, tm_z0, tm_z1, tm_in, or_true, true_or, tm_cs0, tm_cs1, tm_cs2, tm_cs3, tm_cs4, true_and, and_true, and_self, Option.toList_some, Option.toList_none, List.cons_append, List.nil_append, tm_rf_some, tm_rf_none]
  · have : ¬ p_dif I x y f := fun q => h1 q.1
    rw [if_neg this]
    simp only [r64_0, r64_1, r64_2, r64_5, r64_8, r64_8n, r64_9, r64_10, r64_13, r64_16, r64_17, r64_18, r64_21, r64_21n, r64_22, r64_23, r64_26, r64_29, r64_30, r64_33, r64_34, sx, c3 _ _ _ hX, if_neg h1, if_true, tm_z0, tm_z1, tm_in, or_true, true_or, tm_cs0, tm_cs1, tm_cs2, tm_cs3, tm_cs4, true_and, and_true, and_self, Option.toList_some, Option.toList_none, List.cons_append, List.nil_append, tm_rf_some, tm_rf_none]
end PRS
