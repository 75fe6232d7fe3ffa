/-! The class: the ends of a group, its sum. -/
section CEN
variable {G : tm_G} {I : Nat → Nat → Int32} {J : Nat → Nat → Int64} {R : Nat → Nat → Option Nat} {m : Nat} {b : Nat → Nat}
def cf_u (I : Nat → Nat → Int32) (m : Nat) : Prop := ∀ r, r < m → tb (I (16 + 3 * r) 0) 2 = true → ∃ y, y ≤ 9999 ∧ I (16 + 3 * r) 1 = nI y
theorem nI_ge0 {y : Nat} (h : y ≤ 9999) : (-1 : Int32) < nI y := by
  rw [show (-1 : Int32) = iI (-1) from rfl, ← iI_nat]
  apply Int32.not_le.mp
  rw [iI_le (by omega) (by omega)]
  omega
theorem c45k (d : Nat) (K : Option Value → tm_H → Prop) (hS : tp_S G) (hR : tp_R R) (h : cf_ok I m b) {r : Nat} (hr : r < m) : tm_R (d + 2) 45 [.ref 14, .int (nI r)] (G, I, J, R) K ↔ K (some (.int (if tb (I (16 + 3 * r) 0) 2 = true then I (16 + 3 * r) 1 else -1))) (G, I, J, R) := by
  have hm := h.1
  rw [c45 d _ K hS hR h.2.1 h.1, if_pos (q_in hr (by omega)), q_ix (show r < 2147483648 by omega)]
  simp only [show (2 : Int32) = nI 2 from rfl, tb_has (show 2 < 5 by decide)]
theorem c113 (d : Nat) (K : Option Value → tm_H → Prop) (hS : tp_S G) (hR : tp_R R) (h : cf_ok I m b) {fs : Nat} (hfs : fs < m) (hv : cf_v I m 2) : tm_R (d + 3) 113 [.ref 3, .int (nI fs)] (G, I, J, R) K ↔ K (some (.int (p_lo (fun r => decide (b r = fs)) (fun r => tb (I (16 + 3 * r) 0) 2) (fun r => I (16 + 3 * r + 1) 2) m 0 (-1)))) (G, I, J, R) := by
  have h0 := h
  obtain ⟨h1, h2, h3, h4⟩ := h0
  have l : ∀ (n r : Nat) (v : Int32), r + n = m → (v = -1 ∨ ∃ y, y ≤ 9999 ∧ v = nI y) → (tm_A (d + 3) 113 4 [some (.ref 3), some (.int (nI fs)), some (.int v), some (.int (nI r))] [] (G, I, J, R) K ↔ K (some (.int (p_lo (fun r => decide (b r = fs)) (fun r => tb (I (16 + 3 * r) 0) 2) (fun r => I (16 + 3 * r + 1) 2) n r v))) (G, I, J, R)) := by
    intro n
    induction n with
    | zero =>
      intro r v hr hv0
      have : r = m := by omega
      subst this
      have hc : nI r ≤ nI r := Int32.le_refl _
      rw [r113_4]
      simp only [r113_5, r113_6, r113_9, r113_12, r113_47, r113_48, sh_3 hS, sh_14 hS, rf_3_2 hR, c42 _ _ hS, h2, hc, if_true, p_lo, tm_in, or_true, true_or, tm_cs0, tm_cs1, tm_cs2, tm_cs3, tm_cs4, true_and, and_true, and_self, Option.toList_some, Option.toList_none, List.cons_append, List.nil_append, tm_rf_some, tm_rf_none]
    | succ n ih =>
      intro r v hr hv0
      have hrm : r < m := by omega
      have hc : ¬ nI m ≤ nI r := fun z => by
        have := (q_le (a := m) (b := r) rfl rfl (by omega) (by omega)).mp z
        omega
      have hb := (h4 r hrm).2
      have he : nI (b r) = nI fs ↔ b r = fs := nI_eq (by omega) (by omega)
      rw [r113_4, p_lo]
      simp only [r113_5, r113_6, r113_9, r113_12, r113_15, r113_16, r113_19, r113_20, r113_23, r113_24, sh_3 hS, sh_14 hS, sh_71 hS, rf_3_2 hR, rf_3_5 hR, c42 _ _ hS, h2, hc, if_false, c31k _ _ hS hR h hrm, he, tm_in, or_true, true_or, tm_cs0, tm_cs1, tm_cs2, tm_cs3, tm_cs4, true_and, and_true, and_self, Option.toList_some, Option.toList_none, List.cons_append, List.nil_append, tm_rf_some, tm_rf_none]
      have hcs : tm_cs [] := by simp [tm_cs]
      have c44' := fun (K : Option Value → tm_H → Prop) => c44k (G := G) (I := I) (J := J) (R := R) d K hS hR h hrm (show 2 < 5 by decide)
      rw [show nI 2 = (2 : Int32) from rfl] at c44'
      by_cases e : b r = fs
      · by_cases ht : tb (I (16 + 3 * r) 0) 2 = true
        · obtain ⟨y, hy, ey⟩ := hv r hrm ht
          have hs : decide (b r = fs) = true ∧ tb (I (16 + 3 * r) 0) 2 = true := ⟨by simp [e], ht⟩
          rw [if_pos hs]
          simp only [e, not_true, if_false, r113_27, r113_28, r113_29, r113_32, r113_33, r113_34, r113_37, r113_40, sh_3 hS, sh_14 hS, rf_3_2 hR, c44', ht, if_true, r113_41, r113_44, nI_1, tm_in, or_true, true_or, tm_cs0, tm_cs1, tm_cs2, tm_cs3, tm_cs4, true_and, and_true, and_self, Option.toList_some, Option.toList_none, List.cons_append, List.nil_append, tm_rf_some, tm_rf_none]
          rcases hv0 with rfl | ⟨y', hy', rfl⟩
          · have hlt : (-1 : Int32) < I (16 + 3 * r + 1) 2 := by rw [ey]; exact nI_ge0 hy
            simp only [hlt, if_true]
            exact ih (r + 1) _ (by omega) (Or.inr ⟨y, hy, ey⟩)
          · have hn := nI_m1 (y := y') (by omega)
            rw [if_neg hn]
            refine ih (r + 1) _ (by omega) (Or.inr ?_)
            by_cases z : nI y' < I (16 + 3 * r + 1) 2
            · rw [if_pos z]; exact ⟨y, hy, ey⟩
            · rw [if_neg z]; exact ⟨y', hy', rfl⟩
        · have hs : ¬ (decide (b r = fs) = true ∧ tb (I (16 + 3 * r) 0) 2 = true) := fun z => ht z.2
          have hlt : ¬ v < -1 := by
            rcases hv0 with rfl | ⟨y', hy', rfl⟩
            · decide
            · exact fun z => Int32.lt_irrefl (Int32.lt_trans (nI_ge0 hy') z)
          rw [if_neg hs]
          simp only [e, not_true, if_false, r113_27, r113_28, r113_29, r113_32, r113_33, r113_34, r113_37, r113_40, sh_3 hS, sh_14 hS, rf_3_2 hR, c44', ht, if_true, Bool.false_eq_true, hlt, r113_41, r113_44, nI_1, tm_in, or_true, true_or, tm_cs0, tm_cs1, tm_cs2, tm_cs3, tm_cs4, true_and, and_true, and_self, Option.toList_some, Option.toList_none, List.cons_append, List.nil_append, tm_rf_some, tm_rf_none]
          exact ih (r + 1) _ (by omega) hv0
      · have hs : ¬ (decide (b r = fs) = true ∧ tb (I (16 + 3 * r) 0) 2 = true) := fun z => e (by simpa using z.1)
        rw [if_neg hs]
        simp only [e, not_false_eq_true, if_true, r113_41, r113_44, nI_1]
        exact ih (r + 1) _ (by omega) hv0
  rw [e113]
  simp only [r113_0, r113_1, r113_2, r113_3]
  have := l (m - fs) fs (-1) (by omega) (Or.inl rfl)
  rw [this]
  have sk := p_lo_skip (sel := fun r => decide (b r = fs)) (has := fun r => tb (I (16 + 3 * r) 0) 2) (val := fun r => I (16 + 3 * r + 1) 2) fs (m - fs) 0 (-1) (fun i _ hi => by
    have := (h4 i (by omega)).2
    simp
    omega)
  rw [show fs + (m - fs) = m by omega, Nat.zero_add] at sk
  rw [sk]
theorem c114 (d : Nat) (K : Option Value → tm_H → Prop) (hS : tp_S G) (hR : tp_R R) (h : cf_ok I m b) {fs : Nat} (hfs : fs < m) (hu : cf_u I m) : tm_R (d + 3) 114 [.ref 3, .int (nI fs)] (G, I, J, R) K ↔ K (some (.int (p_hi (fun r => decide (b r = fs)) (fun r => tb (I (16 + 3 * r) 0) 2) (fun r => I (16 + 3 * r) 1) m 0 (-1)))) (G, I, J, R) := by
  have h0 := h
  obtain ⟨h1, h2, h3, h4⟩ := h0
  have l : ∀ (n r : Nat) (v : Int32) (o : Option Value), r + n = m → (tm_A (d + 3) 114 4 [some (.ref 3), some (.int (nI fs)), some (.int v), some (.int (nI r)), o] [] (G, I, J, R) K ↔ K (some (.int (p_hi (fun r => decide (b r = fs)) (fun r => tb (I (16 + 3 * r) 0) 2) (fun r => I (16 + 3 * r) 1) n r v))) (G, I, J, R)) := by
    intro n
    induction n with
    | zero =>
      intro r v o hr
      have : r = m := by omega
      subst this
      have hc : nI r ≤ nI r := Int32.le_refl _
      rw [r114_4]
      simp only [r114_5, r114_6, r114_9, r114_12, r114_67, r114_68, sh_3 hS, sh_14 hS, rf_3_2 hR, c42 _ _ hS, h2, hc, if_true, p_hi, tm_in, or_true, true_or, tm_cs0, tm_cs1, tm_cs2, tm_cs3, tm_cs4, true_and, and_true, and_self, Option.toList_some, Option.toList_none, List.cons_append, List.nil_append, tm_rf_some, tm_rf_none]
    | succ n ih =>
      intro r v o hr
      have hrm : r < m := by omega
      have hc : ¬ nI m ≤ nI r := fun z => by
        have := (q_le (a := m) (b := r) rfl rfl (by omega) (by omega)).mp z
        omega
      have hb := (h4 r hrm).2
      have he : nI (b r) = nI fs ↔ b r = fs := nI_eq (by omega) (by omega)
      rw [r114_4, p_hi]
      simp only [r114_5, r114_6, r114_9, r114_12, r114_15, r114_16, r114_19, r114_20, r114_23, r114_24, sh_3 hS, sh_14 hS, sh_71 hS, rf_3_2 hR, rf_3_5 hR, c42 _ _ hS, h2, hc, if_false, c31k _ _ hS hR h hrm, he, tm_in, or_true, true_or, tm_cs0, tm_cs1, tm_cs2, tm_cs3, tm_cs4, true_and, and_true, and_self, Option.toList_some, Option.toList_none, List.cons_append, List.nil_append, tm_rf_some, tm_rf_none]
      by_cases e : b r = fs
      · by_cases ht : tb (I (16 + 3 * r) 0) 2 = true
        · obtain ⟨y, hy, ey⟩ := hu r hrm ht
          have hn1 : ¬ I (16 + 3 * r) 1 = -1 := by rw [ey]; exact nI_m1 (by omega)
          have hs : decide (b r = fs) = true ∧ tb (I (16 + 3 * r) 0) 2 = true := ⟨by simp [e], ht⟩
          rw [if_pos hs]
          simp only [e, not_true, if_false, r114_27, r114_28, r114_31, r114_32, r114_35, r114_38, r114_39, r114_41, r114_43, r114_44, r114_47, r114_48, r114_49, sh_3 hS, sh_14 hS, rf_3_2 hR, c45k _ _ hS hR h hrm, ht, if_true, hn1, tm_in, or_true, true_or, tm_cs0, tm_cs1, tm_cs2, tm_cs3, tm_cs4, true_and, and_true, and_self, Option.toList_some, Option.toList_none, List.cons_append, List.nil_append, tm_rf_some, tm_rf_none]
          by_cases z : v = -1
          · simp only [z, if_true, r114_58, r114_60, r114_61, r114_64, nI_1]
            exact ih (r + 1) _ _ (by omega)
          · simp only [z, if_false, r114_52, r114_54, r114_55]
            by_cases z2 : I (16 + 3 * r) 1 < v
            · have z3 : ¬ v ≤ I (16 + 3 * r) 1 := Int32.not_le.mpr z2
              simp only [z2, z3, if_true, if_false, r114_58, r114_60, r114_61, r114_64, nI_1]
              exact ih (r + 1) _ _ (by omega)
            · have z3 : v ≤ I (16 + 3 * r) 1 := Int32.not_lt.mp z2
              simp only [z2, z3, if_true, if_false, r114_61, r114_64, nI_1]
              exact ih (r + 1) _ _ (by omega)
        · have hs : ¬ (decide (b r = fs) = true ∧ tb (I (16 + 3 * r) 0) 2 = true) := fun z => ht z.2
          rw [if_neg hs]
          simp only [e, not_true, if_false, r114_27, r114_28, r114_31, r114_32, r114_35, r114_38, r114_39, r114_41, r114_43, r114_44, sh_3 hS, sh_14 hS, rf_3_2 hR, c45k _ _ hS hR h hrm, ht, if_true, Bool.false_eq_true, r114_61, r114_64, nI_1, tm_in, or_true, true_or, tm_cs0, tm_cs1, tm_cs2, tm_cs3, tm_cs4, true_and, and_true, and_self, Option.toList_some, Option.toList_none, List.cons_append, List.nil_append, tm_rf_some, tm_rf_none]
          exact ih (r + 1) _ _ (by omega)
      · have hs : ¬ (decide (b r = fs) = true ∧ tb (I (16 + 3 * r) 0) 2 = true) := fun z => e (by simpa using z.1)
        rw [if_neg hs]
        simp only [e, not_false_eq_true, if_true, r114_38, r114_39, r114_41, r114_43, r114_44, r114_61, r114_64, nI_1]
        exact ih (r + 1) _ _ (by omega)
  rw [e114]
  simp only [r114_0, r114_1, r114_2, r114_3]
  have := l (m - fs) fs (-1) none (by omega)
  rw [this]
  have sk := p_hi_skip (sel := fun r => decide (b r = fs)) (has := fun r => tb (I (16 + 3 * r) 0) 2) (val := fun r => I (16 + 3 * r) 1) fs (m - fs) 0 (-1) (fun i _ hi => by
    have := (h4 i (by omega)).2
    simp
    omega)
  rw [show fs + (m - fs) = m by omega, Nat.zero_add] at sk
  rw [sk]
def p_lw (I : Nat → Nat → Int32) (sel : Nat → Bool) (m : Nat) : Int32 := p_lo sel (fun r => tb (I (16 + 3 * r) 0) 2) (fun r => I (16 + 3 * r + 1) 2) m 0 (-1)
def p_hg (I : Nat → Nat → Int32) (sel : Nat → Bool) (m : Nat) : Int32 := p_hi sel (fun r => tb (I (16 + 3 * r) 0) 2) (fun r => I (16 + 3 * r) 1) m 0 (-1)
def p_al (I : Nat → Nat → Int32) (sel : Nat → Bool) (m f : Nat) : Int32 := p_ag sel (fun r => tb (I (16 + 3 * r) 0) f) (fun r => I (16 + 3 * r + 1) f) m 0 (-1)
theorem c115 (d : Nat) (K : Option Value → tm_H → Prop) (hS : tp_S G) (hR : tp_R R) (h : cf_ok I m b) {fs : Nat} (hfs : fs < m) (hv : cf_v I m 2) (hu : cf_u I m) : tm_R (d + 4) 115 [.ref 3, .int (nI fs)] (G, I, J, R) K ↔ K (some (.int (if p_hg I (fun r => decide (b r = fs)) m < p_lw I (fun r => decide (b r = fs)) m then 1 else 0))) (G, I, J, R) := by
  unfold p_hg p_lw
  rw [e115]
  simp only [r115_0, r115_1, r115_2, r115_5, r115_6, r115_7, r115_10, sh_3 hS, c113 _ _ hS hR h hfs hv, c114 _ _ hS hR h hfs hu, tm_in, or_true, true_or, tm_cs0, tm_cs1, tm_cs2, tm_cs3, tm_cs4, true_and, and_true, and_self, Option.toList_some, Option.toList_none, List.cons_append, List.nil_append, tm_rf_some, tm_rf_none]
  by_cases z : p_hi (fun r => decide (b r = fs)) (fun r => tb (I (16 + 3 * r) 0) 2) (fun r => I (16 + 3 * r) 1) m 0 (-1) < p_lo (fun r => decide (b r = fs)) (fun r => tb (I (16 + 3 * r) 0) 2) (fun r => I (16 + 3 * r + 1) 2) m 0 (-1)
  · have z' := Int32.not_le.mpr z
    simp only [z, z', if_true, if_false, r115_13, r115_14, r115_17, r115_18, tm_z1, tm_in, or_true, true_or, tm_cs0, tm_cs1, tm_cs2, tm_cs3, tm_cs4, true_and, and_true, and_self, Option.toList_some, Option.toList_none, List.cons_append, List.nil_append, tm_rf_some, tm_rf_none]
  · have z' := Int32.not_lt.mp z
    simp only [z, z', if_true, if_false, r115_13, r115_14, r115_17, r115_18, tm_z0, tm_in, or_true, true_or, tm_cs0, tm_cs1, tm_cs2, tm_cs3, tm_cs4, true_and, and_true, and_self, Option.toList_some, Option.toList_none, List.cons_append, List.nil_append, tm_rf_some, tm_rf_none]
theorem c30 (d : Nat) (K : Option Value → tm_H → Prop) (hS : tp_S G) {X : Int} (hX : J 71 4 = lI X) (h1 : -2000000000000000000 ≤ X) (h2 : X ≤ 2000000000000000000) : tm_R d 30 [.ref 71] (G, I, J, R) K ↔ K (some (.int (iI (X / 1099511627776)))) (G, I, J, R) := by
  have es : lI X >>> ((40 : Int32).toInt64 &&& 63) = lI (X / 1099511627776) := lI_shr (s := 40) (by omega) (by omega) (by decide)
  have e2 : (lI (X / 1099511627776)).toInt32 = iI (X / 1099511627776) := by
    show (Int64.ofInt _).toInt32 = Int32.ofInt _
    simp
  rw [e30]
  simp only [r30_0, r30_1, r30_4, r30_6, r30_7, r30_8, sh_71 hS, hX, es, e2, tm_in, or_true, true_or, tm_cs0, tm_cs1, tm_cs2, tm_cs3, tm_cs4, true_and, and_true, and_self, Option.toList_some, Option.toList_none, List.cons_append, List.nil_append, tm_rf_some, tm_rf_none]
end CEN
