/-! The reference: folds over a group. -/
section MFD
variable {G : tm_G} {I : Nat → Nat → Int32} {J : Nat → Nat → Int64} {R : Nat → Nat → Option Nat} {nw rp ch n oc pr q m g : Nat} {tl fa ro dy rd w : Nat → Nat}
/-- what the reference knows of its groups -/
def mf_ok (I : Nat → Nat → Int32) (m g : Nat) (w : Nat → Nat) : Prop := g ≤ 10 ∧ ∀ j, j < m → I 109 j = nI (w j) ∧ w j < g
theorem nI_m2 {y : Nat} (hy : y < 2147483648) : ¬ nI y = -2 := fun z => by
  have := congrArg Int32.toInt z
  rw [nI_toInt (by omega)] at this
  have e1 : (-2 : Int32).toInt = -2 := by decide
  omega
theorem kw_v (h : kw G I R nw rp ch n oc pr tl fa ro dy rd q m) {f : Nat} (hf : f < 5) (h3 : f ≠ 3) : cf_v I m f := fun r hr ht => by
  rcases kw_get h hr hf with ⟨-, a2, -⟩ | ⟨j, -, -, -, a4, -⟩
  · rw [a2] at ht; exact absurd ht (by decide)
  · exact (a4 h3).2
theorem kw_u (h : kw G I R nw rp ch n oc pr tl fa ro dy rd q m) : cf_u I m := fun r hr ht => by
  rcases kw_get h hr (show 2 < 5 by decide) with ⟨-, a2, -⟩ | ⟨j, -, -, -, -, a5, -⟩
  · rw [a2] at ht; exact absurd ht (by decide)
  · exact (a5 rfl).2
theorem m157 (d : Nat) (K : Option Value → tm_H → Prop) (h : kw G I R nw rp ch n oc pr tl fa ro dy rd q m) {r : Nat} (hr : r < m) : tm_R d 157 [.ref 89, .int (nI r)] (G, I, J, R) K ↔ K (some (.int (nI r))) (G, I, J, R) := by
  have hS := h.1.1
  have hR := h.1.2.1
  have hm := h.2.2.1
  have h105 := h.2.2.2.2.1
  have l : ∀ (n i : Nat), i + n = r → (tm_A d 157 2 [some (.ref 89), some (.int (nI r)), some (.int (nI i))] [] (G, I, J, R) K ↔ K (some (.int (nI r))) (G, I, J, R)) := by
    intro n
    induction n with
    | zero =>
      intro i hi
      have : i = r := by omega
      subst this
      have i1 : tm_in (nI i) 10 := q_in (by omega) (by decide)
      rw [r157_2]
      simp only [r157_3, r157_6, r157_7, r157_8, r157_9, r157_18, r157_19, sh_89 hS, sh_105 hS, rf_89_27 hR, i1, q_ix (show i < 2147483648 by omega), h105 i (by omega), if_true, tm_in, or_true, true_or, tm_cs0, tm_cs1, tm_cs2, tm_cs3, tm_cs4, true_and, and_true, and_self, Option.toList_some, Option.toList_none, List.cons_append, List.nil_append, tm_rf_some, tm_rf_none]
    | succ n ih =>
      intro i hi
      have i1 : tm_in (nI i) 10 := q_in (by omega) (by decide)
      have e : ¬ nI i = nI r := fun z => by
        have := (nI_eq (by omega) (by omega)).mp z
        omega
      rw [r157_2]
      simp only [r157_3, r157_6, r157_7, r157_8, r157_9, r157_12, r157_15, sh_89 hS, sh_105 hS, rf_89_27 hR, i1, q_ix (show i < 2147483648 by omega), h105 i (by omega), e, if_false, nI_1, tm_in, or_true, true_or, tm_cs0, tm_cs1, tm_cs2, tm_cs3, tm_cs4, true_and, and_true, and_self, Option.toList_some, Option.toList_none, List.cons_append, List.nil_append, tm_rf_some, tm_rf_none]
      exact ih (i + 1) (by omega)
  rw [e157]
  simp only [r157_0, r157_1]
  rw [← nI_0]
  exact l r 0 (by omega)
theorem m161 (d : Nat) (K : Option Value → tm_H → Prop) (h : kw G I R nw rp ch n oc pr tl fa ro dy rd q m) (hw : mf_ok I m g w) {gg f : Nat} (hg : gg < 10) (hf : f < 5) (h3 : f ≠ 3) : tm_R (d + 1) 161 [.ref 89, .int (nI gg), .int (nI f)] (G, I, J, R) K ↔ K (some (.int (p_al I (fun r => decide (w r = gg)) m f))) (G, I, J, R) := by
  have hS := h.1.1
  have hR := h.1.2.1
  have hm := h.2.2.1
  have h26 := h.2.2.2.1
  have h105 := h.2.2.2.2.1
  have hv := kw_v h hf h3
  have l : ∀ (n r : Nat) (v : Int32) (o : Option Value), r + n = m → ¬ v = -2 → (tm_A (d + 1) 161 5 [some (.ref 89), some (.int (nI gg)), some (.int (nI f)), some (.int v), some (.int (nI r)), o] [] (G, I, J, R) K ↔ K (some (.int (p_ag (fun r => decide (w r = gg)) (fun r => tb (I (16 + 3 * r) 0) f) (fun r => I (16 + 3 * r + 1) f) n r v))) (G, I, J, R)) := by
    intro n
    induction n with
    | zero =>
      intro r v o hr hv2
      have : r = m := by omega
      subst this
      have hc : nI r ≤ nI r := Int32.le_refl _
      rw [r161_5]
      simp only [r161_7, r161_8, r161_11, r161_88, r161_89, sh_89 hS, h26, hc, if_true, p_ag, tm_in, or_true, true_or, tm_cs0, tm_cs1, tm_cs2, tm_cs3, tm_cs4, true_and, and_true, and_self, Option.toList_some, Option.toList_none, List.cons_append, List.nil_append, tm_rf_some, tm_rf_none]
    | succ n ih =>
      intro r v o hr hv2
      have hrm : r < m := by omega
      have hc : ¬ nI m ≤ nI r := fun z => by
        have := (q_le (a := m) (b := r) rfl rfl (by omega) (by omega)).mp z
        omega
      have i1 : tm_in (nI r) 10 := q_in (by omega) (by decide)
      have hwr := hw.2 r hrm
      have hg10 := hw.1
      have he : nI (w r) = nI gg ↔ w r = gg := nI_eq (by omega) (by omega)
      rw [r161_5, p_ag]
      simp only [r161_7, r161_8, r161_11, r161_14, r161_15, r161_18, r161_20, r161_21, r161_22, sh_89 hS, sh_109 hS, h26, hc, if_false, rf_89_31 hR, i1, q_ix (show r < 2147483648 by omega), hwr.1, he, tm_in, or_true, true_or, tm_cs0, tm_cs1, tm_cs2, tm_cs3, tm_cs4, true_and, and_true, and_self, Option.toList_some, Option.toList_none, List.cons_append, List.nil_append, tm_rf_some, tm_rf_none]
      by_cases e : w r = gg
      · simp only [e, decide_true, true_and, not_true, if_false, r161_25, r161_26, r161_27, r161_30, r161_32, r161_33, r161_34, sh_89 hS, sh_105 hS, rf_89_27 hR, i1, q_ix (show r < 2147483648 by omega), h105 r hrm, m140 _ _ h hrm hf, tm_in, or_true, true_or, tm_cs0, tm_cs1, tm_cs2, tm_cs3, tm_cs4, true_and, and_true, and_self, Option.toList_some, Option.toList_none, List.cons_append, List.nil_append, tm_rf_some, tm_rf_none]
        by_cases ht : tb (I (16 + 3 * r) 0) f = true
        · obtain ⟨y, hy, ey⟩ := hv r hrm ht
          have hn2 : ¬ I (16 + 3 * r + 1) f = -2 := by rw [ey]; exact nI_m2 (by omega)
          simp only [ht, if_true, show ¬ (1 : Int32) = 0 by decide, if_false, r161_37, r161_40, r161_41, r161_42, r161_45, r161_47, r161_48, r161_49, r161_52, r161_54, r161_55, r161_56, sh_89 hS, sh_105 hS, rf_89_27 hR, i1, q_ix (show r < 2147483648 by omega), h105 r hrm, m141 _ _ h hrm hf h3 ht, tm_in, or_true, true_or, tm_cs0, tm_cs1, tm_cs2, tm_cs3, tm_cs4, true_and, and_true, and_self, Option.toList_some, Option.toList_none, List.cons_append, List.nil_append, tm_rf_some, tm_rf_none]
          by_cases hv1 : v = -1
          · have hor : v = -1 ∨ v = I (16 + 3 * r + 1) f := Or.inl hv1
            rw [if_pos hv1, if_pos hor]
            simp only [r161_65, r161_67, r161_70, r161_72, r161_73, r161_74, r161_76, r161_79, r161_81, r161_82, r161_85, hn2, not_false_eq_true, if_true, nI_1]
            exact ih (r + 1) _ _ (by omega) hn2
          · rw [if_neg hv1]
            simp only [r161_59, r161_60, r161_62]
            by_cases hv3 : v = I (16 + 3 * r + 1) f
            · have hor : v = -1 ∨ v = I (16 + 3 * r + 1) f := Or.inr hv3
              have hv4 : ¬ ¬ v = I (16 + 3 * r + 1) f := fun z => z hv3
              rw [if_neg hv4, if_pos hor]
              simp only [r161_65, r161_67, r161_70, r161_72, r161_73, r161_74, r161_76, r161_79, r161_81, r161_82, r161_85, hn2, not_false_eq_true, if_true, nI_1]
              exact ih (r + 1) _ _ (by omega) hn2
            · have hor : ¬ (v = -1 ∨ v = I (16 + 3 * r + 1) f) := fun z => z.elim hv1 hv3
              rw [if_pos hv3, if_neg hor]
              simp only [r161_70, r161_72, r161_73, r161_74, r161_76, r161_79, r161_81, not_true, if_false]
        · simp only [ht, if_false, Bool.false_eq_true, if_true, r161_37, r161_82, r161_85, nI_1]
          exact ih (r + 1) _ _ (by omega) hv2
      · have hs : ¬ (decide (w r = gg) = true ∧ tb (I (16 + 3 * r) 0) f = true) := fun z => e (by simpa using z.1)
        rw [if_neg hs]
        simp only [e, not_false_eq_true, if_true, r161_82, r161_85, nI_1]
        exact ih (r + 1) _ _ (by omega) hv2
  rw [e161]
  simp only [r161_0, r161_1, r161_2, r161_3]
  have := l m 0 (-1) none (by omega) (by decide)
  rw [nI_0] at this
  exact this
theorem m162l (d : Nat) (K : Option Value → tm_H → Prop) (h : kw G I R nw rp ch n oc pr tl fa ro dy rd q m) (hw : mf_ok I m g w) {gg : Nat} (hg : gg < 10) : tm_R (d + 1) 162 [.ref 89, .int (nI gg), .int 0] (G, I, J, R) K ↔ K (some (.int (p_lw I (fun r => decide (w r = gg)) m))) (G, I, J, R) := by
  have hS := h.1.1
  have hR := h.1.2.1
  have hm := h.2.2.1
  have h26 := h.2.2.2.1
  have h105 := h.2.2.2.2.1
  have hv := kw_v h (show 2 < 5 by decide) (by decide)
  have l : ∀ (n r : Nat) (v : Int32) (o : Option Value), r + n = m → (tm_A (d + 1) 162 5 [some (.ref 89), some (.int (nI gg)), some (.int 0), some (.int v), some (.int (nI r)), o] [] (G, I, J, R) K ↔ K (some (.int (p_lo (fun r => decide (w r = gg)) (fun r => tb (I (16 + 3 * r) 0) 2) (fun r => I (16 + 3 * r + 1) 2) n r v))) (G, I, J, R)) := by
    intro n
    induction n with
    | zero =>
      intro r v o hr
      have : r = m := by omega
      subst this
      have hc : nI r ≤ nI r := Int32.le_refl _
      rw [r162_5]
      simp only [r162_7, r162_8, r162_11, r162_108, r162_109, sh_89 hS, h26, hc, if_true, p_lo, tm_in, or_true, true_or, tm_cs0, tm_cs1, tm_cs2, tm_cs3, tm_cs4, true_and, and_true, and_self, Option.toList_some, Option.toList_none, List.cons_append, List.nil_append, tm_rf_some, tm_rf_none]
    | succ n ih =>
      intro r v o hr
      have hrm : r < m := by omega
      have hc : ¬ nI m ≤ nI r := fun z => by
        have := (q_le (a := m) (b := r) rfl rfl (by omega) (by omega)).mp z
        omega
      have i1 : tm_in (nI r) 10 := q_in (by omega) (by decide)
      have hwr := hw.2 r hrm
      have hg10 := hw.1
      have he : nI (w r) = nI gg ↔ w r = gg := nI_eq (by omega) (by omega)
      have k140 := fun (K : Option Value → tm_H → Prop) => m140 (G := G) (I := I) (J := J) (R := R) d K h hrm (show 2 < 5 by decide)
      rw [show nI 2 = (2 : Int32) from rfl] at k140
      rw [r162_5, p_lo]
      simp only [r162_7, r162_8, r162_11, r162_14, r162_15, r162_18, r162_20, r162_21, r162_22, sh_89 hS, sh_109 hS, h26, hc, if_false, rf_89_31 hR, i1, q_ix (show r < 2147483648 by omega), hwr.1, he, tm_in, or_true, true_or, tm_cs0, tm_cs1, tm_cs2, tm_cs3, tm_cs4, true_and, and_true, and_self, Option.toList_some, Option.toList_none, List.cons_append, List.nil_append, tm_rf_some, tm_rf_none]
      by_cases e : w r = gg
      · simp only [e, decide_true, true_and, not_true, if_false, r162_25, r162_26, r162_27, r162_30, r162_32, r162_33, r162_34, sh_89 hS, sh_105 hS, rf_89_27 hR, i1, q_ix (show r < 2147483648 by omega), h105 r hrm, k140, tm_in, or_true, true_or, tm_cs0, tm_cs1, tm_cs2, tm_cs3, tm_cs4, true_and, and_true, and_self, Option.toList_some, Option.toList_none, List.cons_append, List.nil_append, tm_rf_some, tm_rf_none]
        by_cases ht : tb (I (16 + 3 * r) 0) 2 = true
        · have k141 := fun (K : Option Value → tm_H → Prop) => m141 (G := G) (I := I) (J := J) (R := R) d K h hrm (show 2 < 5 by decide) (by decide) ht
          rw [show nI 2 = (2 : Int32) from rfl] at k141
          simp only [ht, if_true, show ¬ (1 : Int32) = 0 by decide, if_false, r162_37, r162_40, r162_41, r162_58, r162_59, r162_60, r162_63, r162_65, r162_66, r162_67, r162_70, r162_72, r162_73, r162_74, sh_89 hS, sh_105 hS, rf_89_27 hR, i1, q_ix (show r < 2147483648 by omega), h105 r hrm, k141, tm_in, or_true, true_or, tm_cs0, tm_cs1, tm_cs2, tm_cs3, tm_cs4, true_and, and_true, and_self, Option.toList_some, Option.toList_none, List.cons_append, List.nil_append, tm_rf_some, tm_rf_none]
          by_cases hv1 : v = -1
          · simp only [hv1, not_true, if_false, if_true, r162_77, r162_79, r162_101, r162_102, r162_105, nI_1]
            exact ih (r + 1) _ _ (by omega)
          · simp only [hv1, not_false_eq_true, if_false, if_true, r162_82, r162_83, r162_95, r162_96, r162_98, r162_101, r162_102, r162_105, nI_1, tm_in, or_true, true_or, tm_cs0, tm_cs1, tm_cs2, tm_cs3, tm_cs4, true_and, and_true, and_self, Option.toList_some, Option.toList_none, List.cons_append, List.nil_append, tm_rf_some, tm_rf_none]
            exact ih (r + 1) _ _ (by omega)
        · simp only [ht, if_false, Bool.false_eq_true, if_true, r162_37, r162_102, r162_105, nI_1]
          exact ih (r + 1) _ _ (by omega)
      · have hs : ¬ (decide (w r = gg) = true ∧ tb (I (16 + 3 * r) 0) 2 = true) := fun z => e (by simpa using z.1)
        rw [if_neg hs]
        simp only [e, not_false_eq_true, if_true, r162_102, r162_105, nI_1]
        exact ih (r + 1) _ _ (by omega)
  rw [e162]
  simp only [r162_0, r162_1, r162_2, r162_3]
  have := l m 0 (-1) none (by omega)
  rw [nI_0] at this
  exact this
theorem m162h (d : Nat) (K : Option Value → tm_H → Prop) (h : kw G I R nw rp ch n oc pr tl fa ro dy rd q m) (hw : mf_ok I m g w) {gg : Nat} (hg : gg < 10) : tm_R (d + 1) 162 [.ref 89, .int (nI gg), .int 1] (G, I, J, R) K ↔ K (some (.int (p_hg I (fun r => decide (w r = gg)) m))) (G, I, J, R) := by
  have hS := h.1.1
  have hR := h.1.2.1
  have hm := h.2.2.1
  have h26 := h.2.2.2.1
  have h105 := h.2.2.2.2.1
  have h10 : ¬ (1 : Int32) = 0 := by decide
  have l : ∀ (n r : Nat) (v : Int32) (o : Option Value), r + n = m → (tm_A (d + 1) 162 5 [some (.ref 89), some (.int (nI gg)), some (.int 1), some (.int v), some (.int (nI r)), o] [] (G, I, J, R) K ↔ K (some (.int (p_hi (fun r => decide (w r = gg)) (fun r => tb (I (16 + 3 * r) 0) 2) (fun r => I (16 + 3 * r) 1) n r v))) (G, I, J, R)) := by
    intro n
    induction n with
    | zero =>
      intro r v o hr
      have : r = m := by omega
      subst this
      have hc : nI r ≤ nI r := Int32.le_refl _
      rw [r162_5]
      simp only [r162_7, r162_8, r162_11, r162_108, r162_109, sh_89 hS, h26, hc, if_true, p_hi, tm_in, or_true, true_or, tm_cs0, tm_cs1, tm_cs2, tm_cs3, tm_cs4, true_and, and_true, and_self, Option.toList_some, Option.toList_none, List.cons_append, List.nil_append, tm_rf_some, tm_rf_none]
    | succ n ih =>
      intro r v o hr
      have hrm : r < m := by omega
      have hc : ¬ nI m ≤ nI r := fun z => by
        have := (q_le (a := m) (b := r) rfl rfl (by omega) (by omega)).mp z
        omega
      have i1 : tm_in (nI r) 10 := q_in (by omega) (by decide)
      have hwr := hw.2 r hrm
      have hg10 := hw.1
      have he : nI (w r) = nI gg ↔ w r = gg := nI_eq (by omega) (by omega)
      have k140 := fun (K : Option Value → tm_H → Prop) => m140 (G := G) (I := I) (J := J) (R := R) d K h hrm (show 2 < 5 by decide)
      rw [show nI 2 = (2 : Int32) from rfl] at k140
      rw [r162_5, p_hi]
      simp only [r162_7, r162_8, r162_11, r162_14, r162_15, r162_18, r162_20, r162_21, r162_22, sh_89 hS, sh_109 hS, h26, hc, if_false, rf_89_31 hR, i1, q_ix (show r < 2147483648 by omega), hwr.1, he, tm_in, or_true, true_or, tm_cs0, tm_cs1, tm_cs2, tm_cs3, tm_cs4, true_and, and_true, and_self, Option.toList_some, Option.toList_none, List.cons_append, List.nil_append, tm_rf_some, tm_rf_none]
      by_cases e : w r = gg
      · simp only [e, decide_true, true_and, not_true, if_false, r162_25, r162_26, r162_27, r162_30, r162_32, r162_33, r162_34, sh_89 hS, sh_105 hS, rf_89_27 hR, i1, q_ix (show r < 2147483648 by omega), h105 r hrm, k140, tm_in, or_true, true_or, tm_cs0, tm_cs1, tm_cs2, tm_cs3, tm_cs4, true_and, and_true, and_self, Option.toList_some, Option.toList_none, List.cons_append, List.nil_append, tm_rf_some, tm_rf_none]
        by_cases ht : tb (I (16 + 3 * r) 0) 2 = true
        · simp only [ht, if_true, h10, if_false, r162_37, r162_40, r162_41, r162_44, r162_45, r162_46, r162_49, r162_51, r162_52, r162_55, r162_70, r162_72, r162_73, r162_74, sh_89 hS, sh_105 hS, rf_89_27 hR, i1, q_ix (show r < 2147483648 by omega), h105 r hrm, m142 _ _ h hrm ht, tm_in, or_true, true_or, tm_cs0, tm_cs1, tm_cs2, tm_cs3, tm_cs4, true_and, and_true, and_self, Option.toList_some, Option.toList_none, List.cons_append, List.nil_append, tm_rf_some, tm_rf_none]
          by_cases hv1 : v = -1
          · simp only [hv1, not_true, if_false, if_true, r162_77, r162_79, r162_101, r162_102, r162_105, nI_1]
            exact ih (r + 1) _ _ (by omega)
          · simp only [hv1, h10, not_false_eq_true, if_false, if_true, r162_82, r162_83, r162_86, r162_87, r162_89, r162_92, r162_101, r162_102, r162_105, nI_1, tm_in, or_true, true_or, tm_cs0, tm_cs1, tm_cs2, tm_cs3, tm_cs4, true_and, and_true, and_self, Option.toList_some, Option.toList_none, List.cons_append, List.nil_append, tm_rf_some, tm_rf_none]
            exact ih (r + 1) _ _ (by omega)
        · simp only [ht, if_false, Bool.false_eq_true, if_true, r162_37, r162_102, r162_105, nI_1]
          exact ih (r + 1) _ _ (by omega)
      · have hs : ¬ (decide (w r = gg) = true ∧ tb (I (16 + 3 * r) 0) 2 = true) := fun z => e (by simpa using z.1)
        rw [if_neg hs]
        simp only [e, not_false_eq_true, if_true, r162_102, r162_105, nI_1]
        exact ih (r + 1) _ _ (by omega)
  rw [e162]
  simp only [r162_0, r162_1, r162_2, r162_3]
  have := l m 0 (-1) none (by omega)
  rw [nI_0] at this
  exact this
end MFD
