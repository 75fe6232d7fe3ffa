/-! The class: folds over a group. -/
section CFD
variable {G : tm_G} {I : Nat → Nat → Int32} {J : Nat → Nat → Int64} {R : Nat → Nat → Option Nat} {m : Nat} {b : Nat → Nat}
/-- what the class knows of its groups -/
def cf_ok (I : Nat → Nat → Int32) (m : Nat) (b : Nat → Nat) : Prop := m ≤ 10 ∧ I 14 1 = nI m ∧ I 71 5 = nI m ∧ ∀ r, r < m → I 75 r = nI (b r) ∧ b r ≤ r
theorem c31 (d : Nat) (x : Int32) (K : Option Value → tm_H → Prop) (hS : tp_S G) (hR : tp_R R) (h71 : I 71 5 = nI m) (hm : m ≤ 10) : tm_R d 31 [.ref 71, .int x] (G, I, J, R) K ↔ K (some (.int (if tm_in x m then I 75 (tm_ix x) else -1))) (G, I, J, R) := by
  have h1 : (0 ≤ x ∧ x < I 71 5) ↔ tm_in x m := q_inI h71 (by omega)
  rw [e31]
  by_cases hx : tm_in x m
  · have hi : tm_in x 10 := ⟨hx.1, by have := hx.2; omega⟩
    have g := h1.mpr hx
    have g2 := (q_inI (x := x) (N := 10) (n := 10) rfl (by decide)).mpr hi
    have n1 : ¬ x < 0 := Int32.not_lt.mpr g.1
    have n2 : ¬ (10 : Int32) ≤ x := Int32.not_le.mpr g2.2
    have n3 : ¬ I 71 5 ≤ x := Int32.not_le.mpr g.2
    rw [if_pos hx]
    simp only [r31_0, r31_1, r31_4, r31_5, r31_6, r31_9, r31_12, r31_13, r31_15, r31_18, r31_19, r31_22, r31_23, r31_24, r31_27, r31_28, sh_71 hS, sh_75 hS, rf_71_3 hR, hi, n1, n2, n3, if_false, tm_in, or_true, true_or, tm_cs0, tm_cs1, tm_cs2, tm_cs3, tm_cs4, true_and, and_true, and_self, Option.toList_some, Option.toList_none, List.cons_append, List.nil_append, tm_rf_some, tm_rf_none]
  · rw [if_neg hx]
    have h1' : ¬ (0 ≤ x ∧ x < I 71 5) := fun q => hx (h1.mp q)
    simp only [r31_0, r31_1, r31_4, r31_5, r31_6, r31_9, r31_12, r31_13, r31_15, r31_27, r31_28, sh_71 hS, tm_in, or_true, true_or, tm_cs0, tm_cs1, tm_cs2, tm_cs3, tm_cs4, true_and, and_true, and_self, Option.toList_some, Option.toList_none, List.cons_append, List.nil_append, tm_rf_some, tm_rf_none]
    by_cases n1 : x < 0
    · simp only [n1, if_true]
    · have n3 : I 71 5 ≤ x := Int32.not_lt.mp (fun q => h1' ⟨Int32.not_lt.mp n1, q⟩)
      simp only [n1, n3, if_true, if_false]
theorem c31k (d : Nat) (K : Option Value → tm_H → Prop) (hS : tp_S G) (hR : tp_R R) (h : cf_ok I m b) {r : Nat} (hr : r < m) : tm_R d 31 [.ref 71, .int (nI r)] (G, I, J, R) K ↔ K (some (.int (nI (b r)))) (G, I, J, R) := by
  obtain ⟨h1, h2, h3, h4⟩ := h
  rw [c31 d _ K hS hR h3 h1, if_pos (q_in hr (by omega)), q_ix (show r < 2147483648 by omega), (h4 r hr).1]
theorem c32 (d : Nat) (K : Option Value → tm_H → Prop) (hS : tp_S G) (hR : tp_R R) (h : cf_ok I m b) : tm_R (d + 1) 32 [.ref 71] (G, I, J, R) K ↔ K (some (.int (nI (p_cn (fun r => decide (b r = r)) m 0)))) (G, I, J, R) := by
  have l : ∀ (n r c : Nat), r + n = m → (tm_A (d + 1) 32 4 [some (.ref 71), some (.int (nI c)), some (.int (nI r))] [] (G, I, J, R) K ↔ K (some (.int (nI (c + p_cn (fun r => decide (b r = r)) n r)))) (G, I, J, R)) := by
    have h0 := h
    obtain ⟨h1, h2, h3, h4⟩ := h0
    intro n
    induction n with
    | zero =>
      intro r c hr
      have : r = m := by omega
      subst this
      have hc : nI r ≤ nI r := Int32.le_refl _
      rw [r32_4]
      simp only [r32_5, r32_6, r32_9, r32_30, r32_31, sh_71 hS, h3, hc, if_true, p_cn, Nat.add_zero, tm_in, or_true, true_or, tm_cs0, tm_cs1, tm_cs2, tm_cs3, tm_cs4, true_and, and_true, and_self, Option.toList_some, Option.toList_none, List.cons_append, List.nil_append, tm_rf_some, tm_rf_none]
    | succ n ih =>
      intro r c hr
      have hc : ¬ nI m ≤ nI r := fun z => by
        have := (q_le (a := m) (b := r) rfl rfl (by omega) (by omega)).mp z
        omega
      have hb := (h4 r (by omega)).2
      have he : nI (b r) = nI r ↔ b r = r := nI_eq (by omega) (by omega)
      rw [r32_4]
      simp only [r32_5, r32_6, r32_9, r32_12, r32_13, r32_14, r32_17, r32_18, sh_71 hS, h3, hc, if_false, c31k _ _ hS hR h (show r < m by omega), he, tm_in, or_true, true_or, tm_cs0, tm_cs1, tm_cs2, tm_cs3, tm_cs4, true_and, and_true, and_self, Option.toList_some, Option.toList_none, List.cons_append, List.nil_append, tm_rf_some, tm_rf_none]
      rw [p_cn]
      by_cases e : b r = r
      · simp only [e, not_true, if_false, decide_true, if_true, r32_21, r32_24, r32_27, nI_1]
        rw [← Nat.add_assoc]
        exact ih (r + 1) (c + 1) (by omega)
      · simp only [e, not_false_eq_true, if_true, decide_false, if_false, Bool.false_eq_true, r32_24, r32_27, nI_1, Nat.zero_add]
        exact ih (r + 1) c (by omega)
  rw [e32]
  simp only [r32_0, r32_1, r32_2, r32_3]
  have := l m 0 0 (by omega)
  rw [nI_0, Nat.zero_add] at this
  exact this
theorem c33 (d : Nat) (K : Option Value → tm_H → Prop) (hS : tp_S G) (hR : tp_R R) (h : cf_ok I m b) {f : Nat} (hf : f < 10) : tm_R (d + 1) 33 [.ref 71, .int (nI f)] (G, I, J, R) K ↔ K (some (.int (nI (p_cn (fun r => decide (b r = f)) m 0)))) (G, I, J, R) := by
  have l : ∀ (n r c : Nat), r + n = m → (tm_A (d + 1) 33 4 [some (.ref 71), some (.int (nI f)), some (.int (nI c)), some (.int (nI r))] [] (G, I, J, R) K ↔ K (some (.int (nI (c + p_cn (fun r => decide (b r = f)) n r)))) (G, I, J, R)) := by
    have h0 := h
    obtain ⟨h1, h2, h3, h4⟩ := h0
    intro n
    induction n with
    | zero =>
      intro r c hr
      have : r = m := by omega
      subst this
      have hc : nI r ≤ nI r := Int32.le_refl _
      rw [r33_4]
      simp only [r33_5, r33_6, r33_9, r33_30, r33_31, sh_71 hS, h3, hc, if_true, p_cn, Nat.add_zero, tm_in, or_true, true_or, tm_cs0, tm_cs1, tm_cs2, tm_cs3, tm_cs4, true_and, and_true, and_self, Option.toList_some, Option.toList_none, List.cons_append, List.nil_append, tm_rf_some, tm_rf_none]
    | succ n ih =>
      intro r c hr
      have hc : ¬ nI m ≤ nI r := fun z => by
        have := (q_le (a := m) (b := r) rfl rfl (by omega) (by omega)).mp z
        omega
      have hb := (h4 r (by omega)).2
      have he : nI (b r) = nI f ↔ b r = f := nI_eq (by omega) (by omega)
      rw [r33_4]
      simp only [r33_5, r33_6, r33_9, r33_12, r33_13, r33_14, r33_17, r33_18, sh_71 hS, h3, hc, if_false, c31k _ _ hS hR h (show r < m by omega), he, tm_in, or_true, true_or, tm_cs0, tm_cs1, tm_cs2, tm_cs3, tm_cs4, true_and, and_true, and_self, Option.toList_some, Option.toList_none, List.cons_append, List.nil_append, tm_rf_some, tm_rf_none]
      rw [p_cn]
      by_cases e : b r = f
      · simp only [e, not_true, if_false, decide_true, if_true, r33_21, r33_24, r33_27, nI_1]
        rw [← Nat.add_assoc]
        exact ih (r + 1) (c + 1) (by omega)
      · simp only [e, not_false_eq_true, if_true, decide_false, if_false, Bool.false_eq_true, r33_24, r33_27, nI_1, Nat.zero_add]
        exact ih (r + 1) c (by omega)
  rw [e33]
  simp only [r33_0, r33_1, r33_2, r33_3]
  have := l m 0 0 (by omega)
  rw [nI_0, Nat.zero_add] at this
  exact this
/-- a field's values of the known reports are never below 0 -/
def cf_v (I : Nat → Nat → Int32) (m f : Nat) : Prop := ∀ r, r < m → tb (I (16 + 3 * r) 0) f = true → ∃ y, y ≤ 9999 ∧ I (16 + 3 * r + 1) f = nI y
theorem c44k (d : Nat) (K : Option Value → tm_H → Prop) (hS : tp_S G) (hR : tp_R R) (h : cf_ok I m b) {r f : Nat} (hr : r < m) (hf : f < 5) : tm_R (d + 2) 44 [.ref 14, .int (nI r), .int (nI f)] (G, I, J, R) K ↔ K (some (.int (if tb (I (16 + 3 * r) 0) f = true then I (16 + 3 * r + 1) f else -1))) (G, I, J, R) := by
  have hm := h.1
  rw [c44 d _ _ K hS hR h.2.1 h.1, if_pos (q_in hr (by omega)), q_ix (show r < 2147483648 by omega), q_ix (show f < 2147483648 by omega)]
  simp only [tb_has hf]
theorem c112 (d : Nat) (K : Option Value → tm_H → Prop) (hS : tp_S G) (hR : tp_R R) (h : cf_ok I m b) {fs f : Nat} (hfs : fs < m) (hf : f < 5) (hv : cf_v I m f) : tm_R (d + 3) 112 [.ref 3, .int (nI fs), .int (nI f)] (G, I, J, R) K ↔ K (some (.int (p_ag (fun r => decide (b r = fs)) (fun r => tb (I (16 + 3 * r) 0) f) (fun r => I (16 + 3 * r + 1) f) m 0 (-1)))) (G, I, J, R) := by
  have h0 := h
  obtain ⟨h1, h2, h3, h4⟩ := h0
  have l : ∀ (n r : Nat) (v : Int32) (o : Option Value), r + n = m → (tm_A (d + 3) 112 5 [some (.ref 3), some (.int (nI fs)), some (.int (nI f)), some (.int v), some (.int (nI r)), o] [] (G, I, J, R) K ↔ K (some (.int (p_ag (fun r => decide (b r = fs)) (fun r => tb (I (16 + 3 * r) 0) f) (fun r => I (16 + 3 * r + 1) f) n r v))) (G, I, J, R)) := by
    intro n
    induction n with
    | zero =>
      intro r v o hr
      have : r = m := by omega
      subst this
      have hc : nI r ≤ nI r := Int32.le_refl _
      rw [r112_5]
      simp only [r112_7, r112_8, r112_11, r112_14, r112_81, r112_82, sh_3 hS, sh_14 hS, rf_3_2 hR, c42 _ _ hS, h2, hc, if_true, p_ag, tm_in, or_true, true_or, tm_cs0, tm_cs1, tm_cs2, tm_cs3, tm_cs4, true_and, and_true, and_self, Option.toList_some, Option.toList_none, List.cons_append, List.nil_append, tm_rf_some, tm_rf_none]
    | succ n ih =>
      intro r v o hr
      have hrm : r < m := by omega
      have hc : ¬ nI m ≤ nI r := fun z => by
        have := (q_le (a := m) (b := r) rfl rfl (by omega) (by omega)).mp z
        omega
      have hb := (h4 r hrm).2
      have he : nI (b r) = nI fs ↔ b r = fs := nI_eq (by omega) (by omega)
      rw [r112_5, p_ag]
      simp only [r112_7, r112_8, r112_11, r112_14, r112_17, r112_18, r112_21, r112_23, r112_26, r112_27, sh_3 hS, sh_14 hS, sh_71 hS, rf_3_2 hR, rf_3_5 hR, c42 _ _ hS, h2, hc, if_false, c31k _ _ hS hR h hrm, he, tm_in, or_true, true_or, tm_cs0, tm_cs1, tm_cs2, tm_cs3, tm_cs4, true_and, and_true, and_self, Option.toList_some, Option.toList_none, List.cons_append, List.nil_append, tm_rf_some, tm_rf_none]
      have m1 : (-1 : Int32) = -1 := rfl
      by_cases e : b r = fs
      · by_cases ht : tb (I (16 + 3 * r) 0) f = true
        · obtain ⟨y, hy, ey⟩ := hv r hrm ht
          have hn1 : ¬ I (16 + 3 * r + 1) f = -1 := by rw [ey]; exact nI_m1 (by omega)
          have hs : decide (b r = fs) = true ∧ tb (I (16 + 3 * r) 0) f = true := ⟨by simp [e], ht⟩
          rw [if_pos hs]
          simp only [e, not_true, if_false, r112_30, r112_31, r112_34, r112_36, r112_37, r112_40, r112_43, r112_44, r112_46, r112_48, r112_49, sh_3 hS, sh_14 hS, rf_3_2 hR, c44k _ _ hS hR h hrm hf, ht, if_true, hn1, r112_52, r112_53, r112_54, tm_in, or_true, true_or, tm_cs0, tm_cs1, tm_cs2, tm_cs3, tm_cs4, true_and, and_true, and_self, Option.toList_some, Option.toList_none, List.cons_append, List.nil_append, tm_rf_some, tm_rf_none]
          by_cases hv1 : v = -1
          · have hor : v = -1 ∨ v = I (16 + 3 * r + 1) f := Or.inl hv1
            rw [if_pos hv1, if_pos hor]
            simp only [r112_66, r112_68, r112_69, r112_72, r112_74, r112_75, r112_78, hn1, if_false, nI_1]
            exact ih (r + 1) _ _ (by omega)
          · rw [if_neg hv1]
            simp only [r112_57, r112_59, r112_60]
            by_cases hv2 : I (16 + 3 * r + 1) f = v
            · have hor : v = -1 ∨ v = I (16 + 3 * r + 1) f := Or.inr hv2.symm
              rw [if_pos hv2, if_pos hor]
              simp only [r112_66, r112_68, r112_69, r112_72, r112_74, r112_75, r112_78, hn1, if_false, nI_1]
              exact ih (r + 1) _ _ (by omega)
            · have hor : ¬ (v = -1 ∨ v = I (16 + 3 * r + 1) f) := fun z => z.elim hv1 (fun w => hv2 w.symm)
              rw [if_neg hv2, if_neg hor]
              simp only [r112_63, r112_65]
        · have hs : ¬ (decide (b r = fs) = true ∧ tb (I (16 + 3 * r) 0) f = true) := fun z => ht z.2
          rw [if_neg hs]
          simp only [e, not_true, if_false, r112_30, r112_31, r112_34, r112_36, r112_37, r112_40, r112_43, r112_44, r112_46, r112_48, r112_49, sh_3 hS, sh_14 hS, rf_3_2 hR, c44k _ _ hS hR h hrm hf, ht, if_true, Bool.false_eq_true, r112_66, r112_68, r112_69, r112_72, r112_74, r112_75, r112_78, nI_1, tm_in, or_true, true_or, tm_cs0, tm_cs1, tm_cs2, tm_cs3, tm_cs4, true_and, and_true, and_self, Option.toList_some, Option.toList_none, List.cons_append, List.nil_append, tm_rf_some, tm_rf_none]
          exact ih (r + 1) _ _ (by omega)
      · have hs : ¬ (decide (b r = fs) = true ∧ tb (I (16 + 3 * r) 0) f = true) := fun z => e (by simpa using z.1)
        rw [if_neg hs]
        simp only [e, not_false_eq_true, if_true, r112_43, r112_44, r112_46, r112_48, r112_49, r112_66, r112_68, r112_69, r112_72, r112_74, r112_75, r112_78, nI_1]
        exact ih (r + 1) _ _ (by omega)
  rw [e112]
  simp only [r112_0, r112_1, r112_2, r112_3]
  have := l (m - fs) fs (-1) none (by omega)
  rw [this]
  have sk := p_ag_skip (sel := fun r => decide (b r = fs)) (has := fun r => tb (I (16 + 3 * r) 0) f) (val := fun r => I (16 + 3 * r + 1) f) fs (m - fs) 0 (-1) (fun i _ hi => by
    have := (h4 i (by omega)).2
    simp
    omega)
  rw [show fs + (m - fs) = m by omega, Nat.zero_add] at sk
  rw [sk]
end CFD
