/-! Letters and shapes: on both. -/
theorem pk_31 (n : Nat) (hn : n < 1073741824) {j : Nat} (hj : j < 6) : (nI n >>> ((5 * nI j) &&& 31)) &&& 31 = nI (n / 32 ^ j % 32) := by
  have e5 : (5 : Int32) * nI j = nI (5 * j) := pk_mul 5 j
  rw [e5]
  have hs : (((nI (5 * j)) &&& 31).toBitVec.smod 32).toNat = 5 * j := tb_sm (5 * j) (by omega)
  rw [pk_shrN (by omega) _ (5 * j) hs, show (2 : Nat) ^ (5 * j) = 32 ^ j by rw [Nat.pow_mul]]
  have hlt : n / 32 ^ j < 2 ^ 32 := Nat.lt_of_le_of_lt (Nat.div_le_self _ _) (by omega)
  exact pk_andN hlt 5 (by decide)
theorem p_let_nr {w l : Int32} {f : Nat → Int32} (h : p_nr w l f) : ∃ n, 1 ≤ n ∧ n ≤ 6 ∧ l = nI n ∧ ∀ j : Int32, p_let w j = if tm_in j n then f (tm_ix j) else -1 := by
  have hm1 := p_nr_m1 h
  obtain ⟨a, n, h1, h2, h3, h4, h5⟩ := h
  refine ⟨n, h1, h2, h3, fun j => ?_⟩
  have hlt := p_nr_lt h2 (fun t ht => ⟨(h5 t ht).1, (h5 t ht).2.1⟩)
  have hj6 : (0 ≤ j ∧ j < 6) ↔ tm_in j 6 := q_inI (N := 6) (n := 6) rfl (by decide)
  unfold p_let
  by_cases hj : tm_in j 6
  · have g := hj6.mpr hj
    rw [if_neg (fun z => z.elim hm1 (fun z => z.elim (fun y => absurd g.1 (Int32.not_le.mpr y)) (fun y => absurd g.2 (Int32.not_lt.mpr y))))]
    have hq := q_of hj
    generalize tm_ix j = t at hq
    obtain ⟨rfl, ht⟩ := hq
    rw [h4, pk_31 _ hlt ht, pk32_dg n t (fun t ht => by have := h5 t ht; omega)]
    by_cases htn : t < n
    · have a1 := h5 t htn
      have : tm_in (nI t) n := q_in htn (by omega)
      rw [if_pos htn, if_neg (nI_ne0 (by omega) (by omega)), if_pos this, a1.2.2]
      exact nI_add 96 (a t)
    · have : ¬ tm_in (nI t) n := fun z => by
        have := (q_of z).2
        rw [q_ix (by omega)] at this
        exact htn this
      rw [if_neg htn, if_pos (show nI 0 = 0 from rfl), if_neg this]
  · have hn : ¬ tm_in j n := fun z => hj ⟨z.1, by have := z.2; omega⟩
    have hc : w = -1 ∨ j < 0 ∨ 6 ≤ j := by
      by_cases y : j < 0
      · exact Or.inr (Or.inl y)
      · exact Or.inr (Or.inr (Int32.not_lt.mp (fun z => hj (hj6.mp ⟨Int32.not_lt.mp y, z⟩))))
    rw [if_pos hc, if_neg hn]
section LTR
variable {G : tm_G} {I : Nat → Nat → Int32} {J : Nat → Nat → Int64} {R : Nat → Nat → Option Nat} {nw rp ch n oc pr q : Nat} {tl fa ro dy rd : Nat → Nat}
/-- how many names a report has as known -/
theorem iv_cn (hb : iv_b G I R nw rp ch n oc pr tl fa ro dy rd) {m : Nat} (hk : iv_kn I rp (rp + ch) fa rd q m) {r : Nat} (hr : r < 10) : I (16 + 3 * r + 1) 3 = nI (ck_n I r) ∧ ck_n I r ≤ 3 := by
  unfold ck_n
  rcases iv_get hb hk hr (show 3 < 5 by decide) with ⟨a1, a2, a3⟩ | ⟨j, a1, a2, a3, a4, a5, a6⟩
  · rw [a3 rfl]
    decide
  · obtain ⟨cn, c1, c2, c3, -⟩ := a6 rfl
    rw [c3, q_ix (by omega)]
    exact ⟨rfl, c2⟩
theorem c98 (d : Nat) (x i j y : Int32) (K : Option Value → tm_H → Prop) (hp : iv_p G I J R nw rp ch n oc pr tl fa ro dy rd) (h0 : ¬ tm_in y (nw + 1) → K (some (.int (-1))) (G, I, J, R)) (h1 : ∀ q m I1, q ≤ nw → y = nI q → m ≤ 10 → iv_b G I1 R nw rp ch n oc pr tl fa ro dy rd → iv_c I1 J rp ch oc pr fa rd q m → K (some (.int (if tm_in x m then p_let (if tm_in i (ck_n I1 (tm_ix x)) then I1 (16 + 3 * tm_ix x + 2) (tm_ix i) else -1) j else -1))) (G, I1, J, R)) : tm_R (d + 5) 98 [.ref 3, .int x, .int i, .int j, .int y] (G, I, J, R) K := by
  obtain ⟨hS, hR, -⟩ := hp.1
  rw [e98]
  simp only [r98_0, r98_1, r98_3, sh_3 hS, tm_in, or_true, true_or, tm_cs0, tm_cs1, tm_cs2, tm_cs3, tm_cs4, true_and, and_true, and_self, Option.toList_some, Option.toList_none, List.cons_append, List.nil_append, tm_rf_some, tm_rf_none]
  refine c109i d y _ hp (fun h => ?_) (fun q m I1 hq e hm hb hc => ?_)
  · simp only [r98_6, r98_20, r98_21, r98_21n, r98_23, r98_23n, r98_25, r98_25n, r98_28, r98_29, r98_39, if_true, tm_in, or_true, true_or, tm_cs0, tm_cs1, tm_cs2, tm_cs3, tm_cs4, true_and, and_true, and_self, Option.toList_some, Option.toList_none, List.cons_append, List.nil_append, tm_rf_some, tm_rf_none]
    exact h0 h
  · have hk := h1 q m I1 hq e hm hb hc
    simp only [r98_6, r98_9, r98_10, r98_13, r98_14, show ¬ (1 : Int32) = 0 by decide, if_false, sh_3 hS, sh_14 hS, rf_3_2 hR, c43 _ _ _ hS hR hc.2.1.2.2.1 hm, tm_in, or_true, true_or, tm_cs0, tm_cs1, tm_cs2, tm_cs3, tm_cs4, true_and, and_true, and_self, Option.toList_some, Option.toList_none, List.cons_append, List.nil_append, tm_rf_some, tm_rf_none]
    by_cases hx : tm_in x m
    · have hr : tm_ix x < 10 := by have := (q_of hx).2; omega
      have hF := tp_Fk hS hR hr
      obtain ⟨k1, k2⟩ := iv_cn hb hc.2.1 hr
      rw [if_pos hx] at hk ⊢
      simp only [r98_17, r98_21, r98_23, r98_25, r98_32, r98_34, r98_35, r98_36, r98_39, sh_F hS hr, c7 _ _ _ _ hF k1 k2, tm_in, or_true, true_or, tm_cs0, tm_cs1, tm_cs2, tm_cs3, tm_cs4, true_and, and_true, and_self, Option.toList_some, Option.toList_none, List.cons_append, List.nil_append, tm_rf_some, tm_rf_none]
      exact hk
    · rw [if_neg hx] at hk ⊢
      simp only [r98_17, r98_21n, r98_23n, r98_25n, r98_28, r98_29, r98_39, tm_in, or_true, true_or, tm_cs0, tm_cs1, tm_cs2, tm_cs3, tm_cs4, true_and, and_true, and_self, Option.toList_some, Option.toList_none, List.cons_append, List.nil_append, tm_rf_some, tm_rf_none]
      exact hk
theorem m145n (d : Nat) (x i j y : Int32) (K : Option Value → tm_H → Prop) (hp : iv_p G I J R nw rp ch n oc pr tl fa ro dy rd) (hy : ¬ tm_in y (nw + 1)) : tm_R (d + 3) 145 [.ref 89, .int x, .int i, .int j, .int y] (G, I, J, R) K ↔ K (some (.int (-1))) (G, I, J, R) := by
  have hS := hp.1.1
  rw [e145]
  simp only [r145_0, r145_1, r145_2, r145_4, r145_7, r145_10, r145_11, sh_89 hS, m138n _ _ _ _ hp hy, not_true, if_false, tm_in, or_true, true_or, tm_cs0, tm_cs1, tm_cs2, tm_cs3, tm_cs4, true_and, and_true, and_self, Option.toList_some, Option.toList_none, List.cons_append, List.nil_append, tm_rf_some, tm_rf_none]
theorem m145 (d : Nat) (x i j : Int32) (K : Option Value → tm_H → Prop) (hb : iv_b G I R nw rp ch n oc pr tl fa ro dy rd) {m : Nat} (hm : m ≤ 10) (hk : iv_kn I rp (rp + ch) fa rd q m) (hq : q ≤ nw) : tm_R (d + 3) 145 [.ref 89, .int x, .int i, .int j, .int (nI q)] (G, I, J, R) K ↔ K (some (.int (if tm_in x m then p_let (if tm_in i (ck_n I (tm_ix x)) then I (16 + 3 * tm_ix x + 2) (tm_ix i) else -1) j else -1))) (G, I, J, R) := by
  have h70 := iv_70 hb
  have hS := hb.1
  have hR := hb.2.1
  have pm1 : ∀ j, p_let (-1) j = -1 := fun j => by unfold p_let; rw [if_pos (Or.inl rfl)]
  rw [e145]
  by_cases h1 : tm_in x m
  · simp only [r145_0, r145_1, r145_2, r145_4, r145_7, r145_10, r145_11, r145_12, r145_13, r145_14, r145_15, r145_17, r145_20, r145_22, r145_24, r145_25, sh_89 hS, m138k _ _ _ hb hk hq, h1, if_true, show ¬ (1 : Int32) = 0 by decide, not_false_eq_true, m137 _ _ _ _ _ hS hR h70.1 h70.2, tm_in, or_true, true_or, tm_cs0, tm_cs1, tm_cs2, tm_cs3, tm_cs4, true_and, and_true, and_self, Option.toList_some, Option.toList_none, List.cons_append, List.nil_append, tm_rf_some, tm_rf_none]
    have hx := q_of h1
    generalize tm_ix x = r at hx ⊢
    obtain ⟨rfl, hr⟩ := hx
    rcases iv_get hb hk (show r < 10 by omega) (show 3 < 5 by decide) with ⟨a1, a2, a3⟩ | ⟨jj, a1, a2, a3, a4, a5, a6⟩
    · have a1' : p_rf I (nI r) 3 (nI q) (rp + ch) = -1 := a1
      have hn0 : ck_n I r = 0 := by unfold ck_n; rw [a3 rfl]; rfl
      have hni : ¬ tm_in i 0 := fun z => by have h1 := z.1; have h2 := z.2; omega
      rw [hn0, if_neg hni, pm1]
      simp only [a1', if_true, r145_66, r145_67]
    · obtain ⟨cn, c1, c2, c3, c4, c5⟩ := a6 rfl
      have a2' : p_rf I (nI r) 3 (nI q) (rp + ch) = nI jj := a2
      have hnc : ck_n I r = cn := by unfold ck_n; rw [c3, q_ix (by omega)]
      have z := nI_m1 (y := jj) (by omega)
      have i1 : tm_in (nI jj) 70 := q_in (by omega) (by decide)
      have hic : (0 ≤ i ∧ i ≤ I 100 jj - 1) ↔ tm_in i cn := q_inI3 c4 (by omega)
      rw [hnc]
      by_cases h2 : tm_in i cn
      · have hi := q_of h2
        generalize tm_ix i = t at hi ⊢
        obtain ⟨rfl, ht⟩ := hi
        obtain ⟨ln, l1, l2, l3, l4⟩ := p_let_nr (c5 t ht)
        have e1 : (3 : Int32) * nI jj + nI t = nI (3 * jj + t) := by rw [show (3 : Int32) = nI 3 from rfl, pk_mul, nI_add]
        have i2 : tm_in (nI (3 * jj + t)) 210 := q_in (by omega) (by decide)
        have hjc : (0 ≤ j ∧ j ≤ I 102 (3 * jj + t) - 1) ↔ tm_in j ln := q_inI3 l3 (by omega)
        rw [if_pos h2, l4 j]
        by_cases h3 : tm_in j ln
        · have hj := q_of h3
          generalize tm_ix j = s at hj ⊢
          obtain ⟨rfl, hs⟩ := hj
          have e2 : nI (3 * jj + t) * (6 : Int32) + nI s = nI (18 * jj + (6 * t + s)) := by
            rw [show (6 : Int32) = nI 6 from rfl, pk_mul, nI_add]
            congr 1
            omega
          have i3 : tm_in (nI (18 * jj + (6 * t + s))) 1260 := q_in (by omega) (by decide)
          rw [if_pos h3]
          simp only [a2', z, if_false, r145_28, r145_29, r145_30, r145_31, r145_34, r145_36, r145_37, r145_38, r145_39, r145_42, r145_45, r145_46, r145_47, r145_48, r145_51, r145_52, r145_54, r145_55, r145_56, r145_57, r145_58, r145_59, r145_60, r145_63, sh_89 hS, sh_100 hS, sh_102 hS, rf_89_21 hR, rf_89_23 hR, i1, q_ix (show jj < 2147483648 by omega), m117, hic, h2, if_true, e1, i2, q_ix (show 3 * jj + t < 2147483648 by omega), hjc, h3, show ¬ (1 : Int32) = 0 by decide, not_false_eq_true, r145_68, r145_69, r145_72, r145_73, r145_75, r145_76, r145_77, r145_78, r145_80, r145_81, r145_82, r145_83, r145_84, sh_101 hS, rf_89_22 hR, e2, i3, q_ix (show 18 * jj + (6 * t + s) < 2147483648 by omega), tm_in, or_true, true_or, tm_cs0, tm_cs1, tm_cs2, tm_cs3, tm_cs4, true_and, and_true, and_self, Option.toList_some, Option.toList_none, List.cons_append, List.nil_append, tm_rf_some, tm_rf_none]
        · rw [if_neg h3]
          simp only [a2', z, if_false, r145_28, r145_29, r145_30, r145_31, r145_34, r145_36, r145_37, r145_38, r145_39, r145_42, r145_45, r145_46, r145_47, r145_48, r145_51, r145_52, r145_54, r145_55, r145_56, r145_57, r145_58, r145_59, r145_60, r145_63, sh_89 hS, sh_100 hS, sh_102 hS, rf_89_21 hR, rf_89_23 hR, i1, q_ix (show jj < 2147483648 by omega), m117, hic, h2, if_true, e1, i2, q_ix (show 3 * jj + t < 2147483648 by omega), hjc, h3, show ¬ (1 : Int32) = 0 by decide, not_true, r145_66, r145_67, tm_in, or_true, true_or, tm_cs0, tm_cs1, tm_cs2, tm_cs3, tm_cs4, true_and, and_true, and_self, Option.toList_some, Option.toList_none, List.cons_append, List.nil_append, tm_rf_some, tm_rf_none]
      · rw [if_neg h2, pm1]
        simp only [a2', z, if_false, r145_28, r145_29, r145_30, r145_31, r145_34, r145_36, r145_37, r145_38, r145_39, r145_42, sh_89 hS, sh_100 hS, rf_89_21 hR, i1, q_ix (show jj < 2147483648 by omega), m117, hic, h2, if_true, r145_66, r145_67, tm_in, or_true, true_or, tm_cs0, tm_cs1, tm_cs2, tm_cs3, tm_cs4, true_and, and_true, and_self, Option.toList_some, Option.toList_none, List.cons_append, List.nil_append, tm_rf_some, tm_rf_none]
  · simp only [r145_0, r145_1, r145_2, r145_4, r145_7, r145_10, r145_11, sh_89 hS, m138k _ _ _ hb hk hq, h1, if_false, not_true, tm_in, or_true, true_or, tm_cs0, tm_cs1, tm_cs2, tm_cs3, tm_cs4, true_and, and_true, and_self, Option.toList_some, Option.toList_none, List.cons_append, List.nil_append, tm_rf_some, tm_rf_none]
theorem bo_letter (d : Nat) (x i j y : Int32) (hi : iv (G, I, J, R)) : iv_both (d + 5) 98 145 [.int x, .int i, .int j, .int y] (G, I, J, R) := by
  have hi0 := hi
  obtain ⟨nw, rp, ch, n, oc, pr, tl, fa, ro, dy, rd, hp⟩ : ∃ (nw rp ch n oc pr : Nat) (tl fa ro dy rd : Nat → Nat), iv_p G I J R nw rp ch n oc pr tl fa ro dy rd := hi
  unfold iv_both
  refine c98 d x i j y _ hp (fun h => ?_) (fun q m I1 hq e hm hb hc => ?_)
  · rw [m145n (d + 2) x i j y _ hp h]
    exact iv_same _ hi0
  · subst e
    rw [m145 (d + 2) x i j _ hb hm hc.2.1 hq]
    exact iv_same _ (iv_of hb hq hc)
end LTR
