/-! What it costs to take two reports for one. Facts at x and y. -/
section PRS
variable {G : tm_G} {I : Nat → Nat → Int32} {J : Nat → Nat → Int64} {R : Nat → Nat → Option Nat} {x y : Nat}
abbrev p_dif (I : Nat → Nat → Int32) (x y : Nat) (f : Int32) : Prop := p_has (I x 0) f ∧ p_has (I y 0) f ∧ I (x + 1) (tm_ix f) ≠ I (y + 1) (tm_ix f)
theorem c64 (d : Nat) (f : Int32) (K : Option Value → tm_H → Prop) (hX : tp_F G R x) (hY : tp_F G R y) : tm_R (d + 2) 64 [.ref x, .ref y, .int f] (G, I, J, R) K ↔ K (some (.int (if p_dif I x y f then 1 else 0))) (G, I, J, R) := by
  have sx := hX.2.1
  have sy := hY.2.1
  rw [e64]
  by_cases h1 : p_has (I x 0) f
  · by_cases h2 : p_has (I y 0) f
    · simp only [r64_0, r64_1, r64_2, r64_5, r64_8, r64_8n, r64_9, r64_10, r64_13, r64_16, r64_17, r64_18, r64_21, r64_21n, r64_22, r64_23, r64_26, r64_29, r64_30, r64_33, r64_34, sx, sy, c3 _ _ _ hX, c3 _ _ _ hY, c4 _ _ _ hX, c4 _ _ _ hY, if_pos h1, if_pos h2, show ¬ (1 : Int32) = 0 by decide, if_false, tm_z0, tm_z1, tm_in, or_true, true_or, tm_cs0, tm_cs1, tm_cs2, tm_cs3, tm_cs4, true_and, and_true, and_self, Option.toList_some, Option.toList_none, List.cons_append, List.nil_append, tm_rf_some, tm_rf_none]
      by_cases h3 : I (x + 1) (tm_ix f) = I (y + 1) (tm_ix f)
      · have : ¬ p_dif I x y f := fun q => q.2.2 h3
        rw [if_pos h3, if_neg this]
      · have : p_dif I x y f := ⟨h1, h2, h3⟩
        rw [if_neg h3, if_pos this]
    · have : ¬ p_dif I x y f := fun q => h2 q.2.1
      rw [if_neg this]
      simp only [r64_0, r64_1, r64_2, r64_5, r64_8, r64_8n, r64_9, r64_10, r64_13, r64_16, r64_17, r64_18, r64_21, r64_21n, r64_22, r64_23, r64_26, r64_29, r64_30, r64_33, r64_34, sx, sy, c3 _ _ _ hX, c3 _ _ _ hY, if_pos h1, if_neg h2, show ¬ (1 : Int32) = 0 by decide, if_true, if_false, tm_z0, tm_z1, tm_in, or_true, true_or, tm_cs0, tm_cs1, tm_cs2, tm_cs3, tm_cs4, true_and, and_true, and_self, Option.toList_some, Option.toList_none, List.cons_append, List.nil_append, tm_rf_some, tm_rf_none]
  · have : ¬ p_dif I x y f := fun q => h1 q.1
    rw [if_neg this]
    simp only [r64_0, r64_1, r64_2, r64_5, r64_8, r64_8n, r64_9, r64_10, r64_13, r64_16, r64_17, r64_18, r64_21, r64_21n, r64_22, r64_23, r64_26, r64_29, r64_30, r64_33, r64_34, sx, c3 _ _ _ hX, if_neg h1, if_true, tm_z0, tm_z1, tm_in, or_true, true_or, tm_cs0, tm_cs1, tm_cs2, tm_cs3, tm_cs4, true_and, and_true, and_self, Option.toList_some, Option.toList_none, List.cons_append, List.nil_append, tm_rf_some, tm_rf_none]

/-- days between two dates -/
def p_da (I : Nat → Nat → Int32) (x y : Nat) : Int32 := if p_dif I x y 1 then (if 0 ≤ I (x + 1) 1 - I (y + 1) 1 then I (x + 1) 1 - I (y + 1) 1 else 0 - (I (x + 1) 1 - I (y + 1) 1)) else 0
theorem c65 (d : Nat) (K : Option Value → tm_H → Prop) (hX : tp_F G R x) (hY : tp_F G R y) : tm_R (d + 3) 65 [.ref x, .ref y] (G, I, J, R) K ↔ K (some (.int (p_da I x y))) (G, I, J, R) := by
  have sx := hX.2.1
  have sy := hY.2.1
  unfold p_da
  rw [e65]
  by_cases h : p_dif I x y 1
  · simp only [r65_0, r65_1, r65_1n, r65_2, r65_3, r65_6, r65_9, r65_10, r65_11, r65_14, r65_14n, r65_15, r65_16, r65_19, r65_20, r65_23, r65_26, r65_27, sx, sy, c64 _ _ _ hX hY, c4 _ _ _ hX, c4 _ _ _ hY, if_pos h, if_pos h.1, if_pos h.2.1, ix1, show ¬ (1 : Int32) = 0 by decide, if_false, tm_in, or_true, true_or, tm_cs0, tm_cs1, tm_cs2, tm_cs3, tm_cs4, true_and, and_true, and_self, Option.toList_some, Option.toList_none, List.cons_append, List.nil_append, tm_rf_some, tm_rf_none]
  · simp only [r65_0, r65_1, r65_1n, r65_2, r65_3, r65_6, r65_9, r65_10, r65_11, r65_14, r65_14n, r65_15, r65_16, r65_19, r65_20, r65_23, r65_26, r65_27, c64 _ _ _ hX hY, if_neg h, if_true, tm_in, or_true, true_or, tm_cs0, tm_cs1, tm_cs2, tm_cs3, tm_cs4, true_and, and_true, and_self, Option.toList_some, Option.toList_none, List.cons_append, List.nil_append, tm_rf_some, tm_rf_none]
abbrev p_np (I : Nat → Nat → Int32) (x y : Nat) : Prop := p_has (I x 0) 2 ∧ p_has (I y 0) 2 ∧ (I x 1 < I (y + 1) 2 ∨ I y 1 < I (x + 1) 2)
theorem c66 (d : Nat) (K : Option Value → tm_H → Prop) (hX : tp_F G R x) (hY : tp_F G R y) : tm_R (d + 2) 66 [.ref x, .ref y] (G, I, J, R) K ↔ K (some (.int (if p_np I x y then 1 else 0))) (G, I, J, R) := by
  have sx := hX.2.1
  have sy := hY.2.1
  rw [e66]
  by_cases h1 : p_has (I x 0) 2
  · by_cases h2 : p_has (I y 0) 2
    · simp only [r66_0, r66_1, r66_2, r66_5, r66_8, r66_8n, r66_9, r66_10, r66_13, r66_16, r66_17, r66_18, r66_19, r66_22, r66_22n, r66_23, r66_24, r66_27, r66_30, r66_30n, r66_31, r66_34, r66_35, r66_36, r66_39, r66_42, r66_43, r66_46, r66_47, sx, sy, c3 _ _ _ hX, c3 _ _ _ hY, c4 _ _ _ hX, c4 _ _ _ hY, c5 _ _ hX, c5 _ _ hY, if_pos h1, if_pos h2, ix2, show ¬ (1 : Int32) = 0 by decide, not_false_eq_true, if_true, if_false, tm_z0, tm_z1, tm_in, or_true, true_or, tm_cs0, tm_cs1, tm_cs2, tm_cs3, tm_cs4, true_and, and_true, and_self, Option.toList_some, Option.toList_none, List.cons_append, List.nil_append, tm_rf_some, tm_rf_none]
      by_cases h3 : I x 1 < I (y + 1) 2
      · have : p_np I x y := ⟨h1, h2, Or.inl h3⟩
        rw [if_pos h3, if_pos this]
      · rw [if_neg h3]
        by_cases h4 : I y 1 < I (x + 1) 2
        · have : p_np I x y := ⟨h1, h2, Or.inr h4⟩
          rw [if_neg (Int32.not_le.mpr h4), if_pos this]
        · have : ¬ p_np I x y := fun q => q.2.2.elim h3 h4
          rw [if_pos (Int32.not_lt.mp h4), if_neg this]
    · have : ¬ p_np I x y := fun q => h2 q.2.1
      rw [if_neg this]
      simp only [r66_0, r66_1, r66_2, r66_5, r66_8, r66_8n, r66_9, r66_10, r66_13, r66_16, r66_17, r66_18, r66_19, r66_22, r66_22n, r66_23, r66_24, r66_27, r66_30, r66_30n, r66_31, r66_34, r66_35, r66_36, r66_39, r66_42, r66_43, r66_46, r66_47, sx, sy, c3 _ _ _ hX, c3 _ _ _ hY, if_pos h1, if_neg h2, show ¬ (1 : Int32) = 0 by decide, not_true, if_true, if_false, tm_z0, tm_z1, tm_in, or_true, true_or, tm_cs0, tm_cs1, tm_cs2, tm_cs3, tm_cs4, true_and, and_true, and_self, Option.toList_some, Option.toList_none, List.cons_append, List.nil_append, tm_rf_some, tm_rf_none]
  · have : ¬ p_np I x y := fun q => h1 q.1
    rw [if_neg this]
    simp only [r66_0, r66_1, r66_2, r66_5, r66_8, r66_8n, r66_9, r66_10, r66_13, r66_16, r66_17, r66_18, r66_19, r66_22, r66_22n, r66_23, r66_24, r66_27, r66_30, r66_30n, r66_31, r66_34, r66_35, r66_36, r66_39, r66_42, r66_43, r66_46, r66_47, sx, c3 _ _ _ hX, if_neg h1, if_true, tm_z0, tm_z1, tm_in, or_true, true_or, tm_cs0, tm_cs1, tm_cs2, tm_cs3, tm_cs4, true_and, and_true, and_self, Option.toList_some, Option.toList_none, List.cons_append, List.nil_append, tm_rf_some, tm_rf_none]
/-- what common names take off: nm i the name at place i or NONE, hy: has the other it, ho: how many hold it -/
def p_ng (nm : Nat → Int32) (hy : Int32 → Bool) (ho : Int32 → Nat) : Nat → Nat → Int32 → Int32
  | _, 0, g => g
  | i, n + 1, g => p_ng nm hy ho (i + 1) n (if nm i ≠ -1 ∧ hy (nm i) = true then (if 0 < ho (nm i) ∧ ho (nm i) ≤ 4 then g + 12 / nI (ho (nm i)) else g) else g)
theorem p_ho_le (I : Nat → Nat → Int32) (cn : Nat → Nat) (nm : Int32) : ∀ n i, p_ho I cn nm i n ≤ n
  | 0, _ => Nat.le_refl 0
  | n + 1, i => by
    have := p_ho_le I cn nm n (i + 1)
    unfold p_ho
    split <;> omega
theorem c67_l (d : Nat) (K : Option Value → tm_H → Prop) (hS : tp_S G) (hR : tp_R R) (hX : tp_F G R x) (hY : tp_F G R y) {m : Nat} (hm : I 14 1 = nI m) (hm10 : m ≤ 10) {cn : Nat → Nat} (hcn : ∀ r, r < m → I (16 + 3 * r + 1) 3 = nI (cn r) ∧ cn r ≤ 3) {cx cy : Nat} (hcx : I (x + 1) 3 = nI cx) (hcx3 : cx ≤ 3) (hcy : I (y + 1) 3 = nI cy) (hcy3 : cy ≤ 3) : ∀ (n i : Nat) (g : Int32) (o1 o2 : Option Value), i + n = 3 → (tm_A (d + 2) 67 5 [some (.ref 14), some (.ref x), some (.ref y), some (.int g), some (.int (nI i)), o1, o2] [] (G, I, J, R) K ↔ K (some (.int (p_ng (fun i => if i < cx then I (x + 2) i else -1) (fun z => p_hn (I (y + 2)) z 0 cy) (fun z => p_ho I cn z 0 m) i n g))) (G, I, J, R)) := by
  have sx := hX.2.1
  have sy := hY.2.1
  intro n
  induction n with
  | zero =>
    intro i g o1 o2 hi
    have hi : i = 3 := by omega
    subst hi
    have hc : (3 : Int32) ≤ nI 3 := by decide
    rw [r67_5]
    simp only [r67_0, r67_1, r67_2, r67_3, r67_7, r67_8, r67_11, r67_11n, r67_12, r67_14, r67_17, r67_19, r67_21, r67_22, r67_25, r67_25n, r67_26, r67_28, r67_31, r67_34, r67_35, r67_37, r67_40, r67_43, r67_44, r67_46, r67_48, r67_51, r67_53, r67_54, r67_57, r67_58, r67_60, r67_62, r67_63, r67_64, r67_65, r67_68, r67_71, r67_72, hc, if_true, p_ng, tm_in, or_true, true_or, tm_cs0, tm_cs1, tm_cs2, tm_cs3, tm_cs4, true_and, and_true, and_self, Option.toList_some, Option.toList_none, List.cons_append, List.nil_append, tm_rf_some, tm_rf_none]
  | succ n ih =>
    intro i g o1 o2 hi
    have hc : ¬ (3 : Int32) ≤ nI i := fun q => by
      have := (q_le (a := 3) (b := i) rfl rfl (by decide) (by omega)).mp q
      omega
    have hcx' : tm_in (nI i) cx ↔ i < cx := by
      constructor
      · intro q
        have := (q_of q).2
        rw [q_ix (by omega)] at this
        exact this
      · intro q
        exact q_in q (by omega)
    have enm : (if tm_in (nI i) cx then I (x + 2) (tm_ix (nI i)) else -1) = (if i < cx then I (x + 2) i else -1) := by
      rw [q_ix (by omega)]
      by_cases h : i < cx
      · rw [if_pos h, if_pos (hcx'.mpr h)]
      · rw [if_neg h, if_neg (fun q => h (hcx'.mp q))]
    rw [r67_5]
    simp only [r67_7, r67_8, hc, if_false, r67_11, r67_12, r67_14, sx, c6 _ _ _ hX hcx hcx3, enm, r67_17, r67_19, r67_21, r67_22, tm_in, or_true, true_or, tm_cs0, tm_cs1, tm_cs2, tm_cs3, tm_cs4, true_and, and_true, and_self, Option.toList_some, Option.toList_none, List.cons_append, List.nil_append, tm_rf_some, tm_rf_none]
    simp only [p_ng]
    generalize (if i < cx then I (x + 2) i else -1) = nm
    by_cases h1 : nm = -1
    · have h1' : ¬ (nm ≠ -1 ∧ p_hn (I (y + 2)) nm 0 cy = true) := fun q => q.1 h1
      rw [if_pos h1, if_neg h1']
      simp only [r67_43, r67_44, r67_46, r67_48, show (0 : Int32) ≤ 0 by decide, if_true, r67_65, r67_68, nI_1]
      exact ih (i + 1) g _ _ (by omega)
    · rw [if_neg h1]
      simp only [r67_25, r67_26, r67_28, sy, c8 _ _ _ hY hcy hcy3, r67_31, tm_in, or_true, true_or, tm_cs0, tm_cs1, tm_cs2, tm_cs3, tm_cs4, true_and, and_true, and_self, Option.toList_some, Option.toList_none, List.cons_append, List.nil_append, tm_rf_some, tm_rf_none]
      by_cases h2 : p_hn (I (y + 2)) nm 0 cy = true
      · rw [if_pos (⟨h1, h2⟩ : nm ≠ -1 ∧ p_hn (I (y + 2)) nm 0 cy = true)]
        simp only [if_pos h2, show ¬ (1 : Int32) = 0 by decide, if_false, r67_34, r67_35, r67_37, sh_14 hS, c47 _ _ _ hS hR hm hm10 hcn, r67_40, r67_44, r67_46, r67_48, r67_51, r67_53, r67_54, r67_57, r67_58, r67_60, r67_62, r67_63, r67_64, r67_65, r67_68, nI_1, tm_in, or_true, true_or, tm_cs0, tm_cs1, tm_cs2, tm_cs3, tm_cs4, true_and, and_true, and_self, Option.toList_some, Option.toList_none, List.cons_append, List.nil_append, tm_rf_some, tm_rf_none]
        have hle := p_ho_le I cn nm m 0
        by_cases h3 : 0 < p_ho I cn nm 0 m
        · have z1 : ¬ nI (p_ho I cn nm 0 m) ≤ 0 := nI_nle h3 (by omega)
          have z3 : ¬ nI (p_ho I cn nm 0 m) = 0 := nI_ne0 h3 (by omega)
          rw [if_neg z1]
          by_cases h4 : p_ho I cn nm 0 m ≤ 4
          · have z2 : ¬ (4 : Int32) < nI (p_ho I cn nm 0 m) := fun q => by
              have := (q_lt (a := 4) rfl rfl (by decide) (by omega)).mp q
              omega
            rw [if_neg z2, if_pos ⟨h3, h4⟩]
            simp only [z3, not_false_eq_true, true_and]
            exact ih (i + 1) _ _ _ (by omega)
          · have z2 : (4 : Int32) < nI (p_ho I cn nm 0 m) := (q_lt (a := 4) rfl rfl (by decide) (by omega)).mpr (by omega)
            rw [if_pos z2, if_neg (fun q => h4 q.2)]
            exact ih (i + 1) _ _ _ (by omega)
        · have z0 : p_ho I cn nm 0 m = 0 := by omega
          rw [z0]
          rw [if_pos (show nI 0 ≤ 0 by decide), if_neg (by omega)]
          exact ih (i + 1) _ _ _ (by omega)
      · have h2' : ¬ (nm ≠ -1 ∧ p_hn (I (y + 2)) nm 0 cy = true) := fun q => h2 q.2
        rw [if_neg h2']
        simp only [if_neg h2, if_true, r67_43, r67_44, r67_46, r67_48, show (0 : Int32) ≤ 0 by decide, r67_65, r67_68, nI_1]
        exact ih (i + 1) g _ _ (by omega)
end PRS
