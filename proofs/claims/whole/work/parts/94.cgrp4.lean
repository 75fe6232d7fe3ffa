/-! The class: find. -/
section CG4
variable {G : tm_G} {R : Nat → Nat → Option Nat} {m oc : Nat} {C : Nat → Nat → Int} {T : Nat → Nat → Prop}
theorem c23_a (d : Nat) (K : Option Value → tm_H → Prop) (hS : tp_S G) (hR : tp_R R) {I : Nat → Nat → Int32} {J : Nat → Nat → Int64} (hT : cg_tab I C m) (hC : ∀ j r, -1000 ≤ C j r ∧ C j r ≤ 1000) (hoc : oc ≤ 100) (h71 : I 71 5 = nI m) (o2 : Option Value) : ∀ (n t : Nat) (y : Nat → Int64), t + n = m → (∀ g, 1 ≤ g → g < 2 ^ t → cg_kr C oc m y g) → (∀ y', (∀ g, 1 ≤ g → g < 2 ^ m → cg_kr C oc m y' g) → tm_A (d + 3) 23 40 [some (.ref 71), some (.ref 58), o2, some (.int (nI oc)), some (.int (nI m))] [] (G, I, upr J 72 y', R) K) → tm_A (d + 3) 23 17 [some (.ref 71), some (.ref 58), o2, some (.int (nI oc)), some (.int (nI t))] [] (G, I, upr J 72 y, R) K := by
  have hm := hT.2.2.1
  intro n
  induction n with
  | zero =>
    intro t y ht hy hK
    have : t = m := by omega
    subst this
    have hc : nI t ≤ nI t := Int32.le_refl _
    rw [r23_17]
    simp only [r23_19, r23_20, r23_23, sh_71 hS, h71, hc, if_true, tm_in, or_true, true_or, tm_cs0, tm_cs1, tm_cs2, tm_cs3, tm_cs4, true_and, and_true, and_self, Option.toList_some, Option.toList_none, List.cons_append, List.nil_append, tm_rf_some, tm_rf_none]
    exact hK y hy
  | succ n ih =>
    intro t y ht hy hK
    have hc : ¬ nI m ≤ nI t := fun z => by
      have := (q_le (a := m) (b := t) rfl rfl (by omega) (by omega)).mp z
      omega
    rw [r23_17]
    simp only [r23_19, r23_20, r23_23, r23_26, r23_27, r23_29, r23_29n, r23_30, r23_31, sh_71 hS, h71, hc, if_false, tm_in, or_true, true_or, tm_cs0, tm_cs1, tm_cs2, tm_cs3, tm_cs4, true_and, and_true, and_self, Option.toList_some, Option.toList_none, List.cons_append, List.nil_append, tm_rf_some, tm_rf_none]
    refine c25 d _ hS hR hT hC hoc (show t < m by omega) hy (fun y' hy' => ?_)
    simp only [r23_34, r23_37, nI_1, tm_in, or_true, true_or, tm_cs0, tm_cs1, tm_cs2, tm_cs3, tm_cs4, true_and, and_true, and_self, Option.toList_some, Option.toList_none, List.cons_append, List.nil_append, tm_rf_some, tm_rf_none]
    exact ih (t + 1) y' (by omega) hy' hK
theorem c23_b (d : Nat) (K : Option Value → tm_H → Prop) (hS : tp_S G) (hR : tp_R R) {I : Nat → Nat → Int32} (hT : cg_tab I C m) (hC : ∀ j r, -1000 ≤ C j r ∧ C j r ≤ 1000) (hoc : oc ≤ 100) (h71 : I 71 5 = nI m) (o1 o2 o3 : Option Value) : ∀ (n s : Nat) (J : Nat → Nat → Int64) (LL : Nat → Int), s + n = 2 ^ m → 1 ≤ s → (∀ g, 1 ≤ g → g < 2 ^ m → J 72 g = lI (cg_K C T oc m g)) → (∀ U, U < s → J 73 U = lI (LL U) ∧ gp_lst C T oc m U (LL U)) → (∀ (J' : Nat → Nat → Int64) (LL' : Nat → Int), (∀ U, U < 2 ^ m → J' 73 U = lI (LL' U) ∧ gp_lst C T oc m U (LL' U)) → tm_A (d + 3) 23 85 [some (.ref 71), o1, o2, o3, some (.int (nI (2 ^ m)))] [] (G, I, J', R) K) → tm_A (d + 3) 23 55 [some (.ref 71), o1, o2, o3, some (.int (nI s))] [] (G, I, J, R) K := by
  have hm := hT.2.2.1
  have h2m : (2 : Nat) ^ m ≤ 2 ^ 10 := Nat.pow_le_pow_right (by decide) hm
  intro n
  induction n with
  | zero =>
    intro s J LL hs h1 h72 h73 hK
    have : s = 2 ^ m := by omega
    subst this
    have hc : nI (2 ^ m) ≤ nI (2 ^ m) := Int32.le_refl _
    rw [r23_55]
    simp only [r23_57, r23_58, r23_59, r23_62, r23_63, sh_71 hS, h71, nI_1s (show m < 31 by omega), hc, if_true, tm_in, or_true, true_or, tm_cs0, tm_cs1, tm_cs2, tm_cs3, tm_cs4, true_and, and_true, and_self, Option.toList_some, Option.toList_none, List.cons_append, List.nil_append, tm_rf_some, tm_rf_none]
    exact hK J LL h73
  | succ n ih =>
    intro s J LL hs h1 h72 h73 hK
    have hc : ¬ nI (2 ^ m) ≤ nI s := fun z => by
      have := (q_le (a := 2 ^ m) (b := s) rfl rfl (by omega) (by omega)).mp z
      omega
    have is : tm_in (nI s) 1024 := q_in (by omega) (by decide)
    have hcs : tm_cs [Value.int (nI s), Value.ref 73] := by simp [tm_cs, Value.category]
    rw [r23_55]
    simp only [r23_57, r23_58, r23_59, r23_62, r23_63, r23_66, r23_67, r23_70, r23_72, r23_73, r23_75, sh_71 hS, rf_71_1 hR, h71, nI_1s (show m < 31 by omega), hc, if_false, hcs, tm_in, or_true, true_or, tm_cs0, tm_cs1, tm_cs2, tm_cs3, tm_cs4, true_and, and_true, and_self, Option.toList_some, Option.toList_none, List.cons_append, List.nil_append, tm_rf_some, tm_rf_none]
    refine c28 d _ hS hR hm hT.2.1 hC hoc h1 (by omega) h72 h73 (fun X hX => ?_)
    simp only [r23_78, r23_79, r23_82, sh_73 hS, is, q_ix (show s < 2147483648 by omega), nI_1, show 3 ≤ 73 by decide, tm_in, or_true, true_or, tm_cs0, tm_cs1, tm_cs2, tm_cs3, tm_cs4, true_and, and_true, and_self, Option.toList_some, Option.toList_none, List.cons_append, List.nil_append, tm_rf_some, tm_rf_none]
    refine ih (s + 1) _ (fun U => if U = s then X else LL U) (by omega) (by omega) (fun g a b => by rw [up2_row (by decide)]; exact h72 g a b) (fun U hU => ?_) hK
    by_cases e : U = s
    · subst e
      rw [up2_at]
      simp only [if_true]
      exact ⟨trivial, hX⟩
    · rw [up2_ne e]
      simp only [e, if_false]
      exact h73 U (by omega)
theorem c23_c (d : Nat) (K : Option Value → tm_H → Prop) (hS : tp_S G) (hR : tp_R R) {J : Nat → Nat → Int64} {X : Int} (hX : -1152921504606846976 ≤ X ∧ X ≤ 1152921504606846976) (hJ : J 71 4 = lI X) (hm : m ≤ 10) (o1 o2 o3 : Option Value) : ∀ (n r : Nat) (I : Nat → Nat → Int32), r + n = m → I 71 5 = nI m → (∀ i, i < r → I 75 i = iI (X / 2 ^ (4 * (9 - i))) &&& 15) → (∀ I', (∀ b, b ≠ 75 → I' b = I b) → (∀ i, i < m → I' 75 i = iI (X / 2 ^ (4 * (9 - i))) &&& 15) → K none (G, I', J, R)) → tm_A (d + 1) 23 105 [some (.ref 71), o1, o2, o3, some (.int (nI r))] [] (G, I, J, R) K := by
  intro n
  induction n with
  | zero =>
    intro r I hr h71 hI hK
    have : r = m := by omega
    subst this
    have hc : nI r ≤ nI r := Int32.le_refl _
    rw [r23_105]
    simp only [r23_107, r23_108, r23_111, r23_141, sh_71 hS, h71, hc, if_true, tm_in, or_true, true_or, tm_cs0, tm_cs1, tm_cs2, tm_cs3, tm_cs4, true_and, and_true, and_self, Option.toList_some, Option.toList_none, List.cons_append, List.nil_append, tm_rf_some, tm_rf_none]
    exact hK I (fun _ _ => rfl) hI
  | succ n ih =>
    intro r I hr h71 hI hK
    have hc : ¬ nI m ≤ nI r := fun z => by
      have := (q_le (a := m) (b := r) rfl rfl (by omega) (by omega)).mp z
      omega
    have ir : tm_in (nI r) 10 := q_in (by omega) (by decide)
    have es : lI X >>> ((nI (4 * (9 - r))).toInt64 &&& 63) = lI (X / 2 ^ (4 * (9 - r))) := lI_shr (by omega) (by omega) (by omega)
    have hcs : tm_cs [Value.long (lI X), Value.int (nI r), Value.ref 75] := by simp [tm_cs, Value.category]
    rw [r23_105]
    simp only [r23_107, r23_108, r23_111, r23_114, r23_115, r23_118, r23_120, r23_121, r23_124, r23_126, sh_71 hS, rf_71_3 hR, h71, hc, if_false, hJ, c24 _ (show r < 10 by omega), hcs, tm_in, or_true, true_or, tm_cs0, tm_cs1, tm_cs2, tm_cs3, tm_cs4, true_and, and_true, and_self, Option.toList_some, Option.toList_none, List.cons_append, List.nil_append, tm_rf_some, tm_rf_none]
    simp only [r23_129, r23_130, r23_131, r23_133, r23_134, r23_135, r23_138, es, lI_32, sh_75 hS, ir, q_ix (show r < 2147483648 by omega), nI_1, show 3 ≤ 75 by decide, tm_in, or_true, true_or, tm_cs0, tm_cs1, tm_cs2, tm_cs3, tm_cs4, true_and, and_true, and_self, Option.toList_some, Option.toList_none, List.cons_append, List.nil_append, tm_rf_some, tm_rf_none]
    refine ih (r + 1) _ (by omega) (by rw [up2_row (by decide)]; exact h71) (fun i hi => ?_) (fun I' a b => hK I' (fun b' hb' => by rw [a b' hb', up2_row hb']) b)
    by_cases e : i = r
    · subst e; rw [up2_at]
    · rw [up2_ne e]
      exact hI i (by omega)
theorem c23 (d : Nat) (K : Option Value → tm_H → Prop) (hS : tp_S G) (hR : tp_R R) {I : Nat → Nat → Int32} {J : Nat → Nat → Int64} (hT : cg_tab I C m) (hC : ∀ j r, -1000 ≤ C j r ∧ C j r ≤ 1000) (hoc : oc ≤ 100) {pt : Nat → Nat} (hp70 : ∀ r, r < m → I 70 r = nI (pt r) ∧ pt r < 1024) (hpt : ∀ r s, r < m → ((pt r).testBit s = true ↔ s < m ∧ T r s)) (hK : ∀ I' J' X, (∀ b, b ≠ 75 → b ≠ 71 → I' b = I b) → I' 71 5 = nI m → J' 71 4 = lI X → gp_lst C T oc m (gp_all m) X → (∀ i, i < m → I' 75 i = iI (X / 2 ^ (4 * (9 - i))) &&& 15) → K none (G, I', J', R)) : tm_R (d + 3) 23 [.ref 71, .ref 58, .int (nI m), .int (nI oc)] (G, I, J, R) K := by
  have hm := hT.2.2.1
  have h2m : (2 : Nat) ^ m ≤ 2 ^ 10 := Nat.pow_le_pow_right (by decide) hm
  have hp : 0 < (2 : Nat) ^ m := Nat.pow_pos (by decide)
  have e1 : (if (0 : Int32) < nI m then nI m else 0) = nI m := by
    by_cases h : m = 0
    · subst h; rfl
    · rw [if_pos]
      exact (q_lt (a := 0) (b := m) rfl rfl (by decide) (by omega)).mpr (by omega)
  have e2 : (if (10 : Int32) < nI m then 10 else nI m) = nI m := by
    rw [if_neg (fun z => by
      have := (q_lt (a := 10) (b := m) rfl rfl (by decide) (by omega)).mp z
      omega)]
  rw [e23]
  simp only [r23_0, r23_1, r23_2, r23_3, r23_6, r23_8, r23_11, r23_14, r23_15, sh_71 hS, e1, e2, tm_in, or_true, true_or, tm_cs0, tm_cs1, tm_cs2, tm_cs3, tm_cs4, true_and, and_true, and_self, Option.toList_some, Option.toList_none, List.cons_append, List.nil_append, tm_rf_some, tm_rf_none]
  generalize hI1 : up2 I 71 5 (nI m) = I1
  have i1o : ∀ b, b ≠ 71 → I1 b = I b := fun b h => by rw [← hI1]; exact up2_row h
  have i71 : I1 71 5 = nI m := by rw [← hI1]; exact up2_at
  have hT1 : cg_tab I1 C m := by
    obtain ⟨a, b, c, e⟩ := hT
    refine ⟨fun r s h1 h2 => by rw [i1o _ (by omega)]; exact a r s h1 h2, ?_, c, e⟩
    unfold iv_low
    rw [i1o 74 (by decide)]
    exact b
  have hJ0 : J = upr J 72 (J 72) := upr_self.symm
  rw [← nI_0]
  have l := c23_a (G := G) (R := R) (I := I1) (J := J) d K hS hR hT1 hC hoc i71 (some (.int (nI m))) m 0 (J 72) (by omega) (fun g h1 h2 => by
    have : (2 : Nat) ^ 0 = 1 := rfl
    omega) (fun y hy => ?_)
  · rw [← hJ0] at l
    exact l
  · simp only [r23_40, r23_41, r23_41n, r23_42, sh_71 hS, tm_in, or_true, true_or, tm_cs0, tm_cs1, tm_cs2, tm_cs3, tm_cs4, true_and, and_true, and_self, Option.toList_some, Option.toList_none, List.cons_append, List.nil_append, tm_rf_some, tm_rf_none]
    rw [e27]
    simp only [r27_0, r27_1]
    rw [← nI_0]
    refine c27_l (d + 1) _ hS hR hm i71 (pt := pt) (fun r hr => by rw [i1o 70 (by decide)]; exact hp70 r hr) (y0 := y) m 0 y _ _ (by omega) (fun g _ _ => by simp [tns]) (fun y' hy' => ?_)
    have i0 : tm_in (nI 0) 1024 := by decide
    simp only [r23_45, r23_46, r23_49, r23_50, r23_51, r23_52, r23_53, sh_71 hS, sh_73 hS, rf_71_1 hR, show tm_in 0 1024 by decide, ix0, show 3 ≤ 73 by decide, tm_in, or_true, true_or, tm_cs0, tm_cs1, tm_cs2, tm_cs3, tm_cs4, true_and, and_true, and_self, Option.toList_some, Option.toList_none, List.cons_append, List.nil_append, tm_rf_some, tm_rf_none]
    have hk : ∀ g, 1 ≤ g → g < 2 ^ m → y' g = lI (cg_K C T oc m g) := fun g h1 h2 => by
      rw [hy' g h1 h2]
      have hv := gp_val_iff (C := C) (T := T) hm h1 h2 hpt
      have hkr := hy g h1 h2
      by_cases t : tns pt m g = true
      · rw [if_pos t, cg_K_n (fun z => (hv.mp z).2 t)]
      · rw [if_neg t]
        by_cases nb : gp_nb C m g
        · rw [hkr.1 nb, cg_K_y (hv.mpr ⟨nb, t⟩)]
        · rw [hkr.2 nb, cg_K_n (fun z => nb (hv.mp z).1)]
    rw [show (1 : Int32) = nI 1 from rfl]
    refine c23_b d K hS hR (T := T) hT1 hC hoc i71 _ _ _ (2 ^ m - 1) 1 _ (fun _ => 0) (by omega) (by decide) (fun g h1 h2 => by rw [up2_row (by decide), upr_at]; exact hk g h1 h2) (fun U hU => ?_) (fun J2 LL h73 => ?_)
    · have : U = 0 := by omega
      subst this
      rw [up2_at]
      exact ⟨lI_0, gp_lst_0⟩
    · have ea : nI (2 ^ m) - 1 = nI (2 ^ m - 1) := pk_sub (a := 2 ^ m) (b := 1) hp
      have ia : tm_in (nI (2 ^ m - 1)) 1024 := q_in (by omega) (by decide)
      obtain ⟨z1, z2⟩ := h73 (2 ^ m - 1) (by omega)
      simp only [r23_85, r23_86, r23_87, r23_90, r23_91, r23_92, r23_95, r23_96, r23_97, r23_98, r23_99, r23_102, r23_103, sh_71 hS, sh_73 hS, rf_71_1 hR, i71, nI_1s (show m < 31 by omega), ea, ia, q_ix (show 2 ^ m - 1 < 2147483648 by omega), z1, tm_in, or_true, true_or, tm_cs0, tm_cs1, tm_cs2, tm_cs3, tm_cs4, true_and, and_true, and_self, Option.toList_some, Option.toList_none, List.cons_append, List.nil_append, tm_rf_some, tm_rf_none]
      rw [← nI_0]
      refine c23_c (d + 2) K hS hR (gp_lst_bd hm hC hoc z2) up2_at hm _ _ _ m 0 I1 (by omega) i71 (fun i hi => by omega) (fun I3 h3 h75 => ?_)
      refine hK I3 _ (LL (2 ^ m - 1)) (fun b hb1 hb2 => by rw [h3 b hb1, i1o b hb2]) (by rw [h3 71 (by decide)]; exact i71) up2_at z2 h75
/-! The class: costs of all pairs, and partners. -/
end CG4
