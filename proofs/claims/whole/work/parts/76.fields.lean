/-! Fields, upper ends, letters: on both. -/
section FLD
variable {G : tm_G} {I : Nat → Nat → Int32} {J : Nat → Nat → Int64} {R : Nat → Nat → Option Nat} {nw rp ch n oc pr q : Nat} {tl fa ro dy rd : Nat → Nat}
theorem iv_of (hb : iv_b G I R nw rp ch n oc pr tl fa ro dy rd) {m : Nat} (hq : q ≤ nw) (hc : iv_c I J rp ch oc pr fa rd q m) : iv (G, I, J, R) := ⟨nw, rp, ch, n, oc, pr, tl, fa, ro, dy, rd, hb, Or.inr ⟨q, m, hq, hc⟩⟩
/-- an unknown day: the reference refuses -/
theorem m138n (d : Nat) (x y : Int32) (K : Option Value → tm_H → Prop) (hp : iv_p G I J R nw rp ch n oc pr tl fa ro dy rd) (hy : ¬ tm_in y (nw + 1)) : tm_R (d + 2) 138 [.ref 89, .int x, .int y] (G, I, J, R) K ↔ K (some (.int 0)) (G, I, J, R) := by
  obtain ⟨b1, b2, b3, b4, b5, b6, b7, b8, b9, b10⟩ := hp.1
  rw [m138 d x y K b1 b2 b4.2.1.2.1 b4.2.1.2.2 b4.1.2.1 b4.1.2.2, if_neg (fun z => hy z.2.1)]
theorem m138k (d : Nat) (x : Int32) (K : Option Value → tm_H → Prop) (hb : iv_b G I R nw rp ch n oc pr tl fa ro dy rd) {m : Nat} (hk : iv_kn I rp (rp + ch) fa rd q m) (hq : q ≤ nw) : tm_R (d + 2) 138 [.ref 89, .int x, .int (nI q)] (G, I, J, R) K ↔ K (some (.int (if tm_in x m then 1 else 0))) (G, I, J, R) := by
  have h := iv_known hb hk hq x
  obtain ⟨b1, b2, b3, b4, b5, b6, b7, b8, b9, b10⟩ := hb
  rw [m138 d x (nI q) K b1 b2 b4.2.1.2.1 b4.2.1.2.2 b4.1.2.1 b4.1.2.2]
  simp only [h]
theorem iv_70 (hb : iv_b G I R nw rp ch n oc pr tl fa ro dy rd) : I 89 14 = nI (rp + ch) ∧ rp + ch ≤ 70 := by
  obtain ⟨b1, b2, b3, b4, b5, b6, b7, b8, b9, b10⟩ := hb
  have h1 := b4.2.1.2.2
  have h2 := b4.2.2.1.2.2
  exact ⟨b4.2.2.2.1.2, by omega⟩
theorem c96 (d : Nat) (x f y : Int32) (K : Option Value → tm_H → Prop) (hp : iv_p G I J R nw rp ch n oc pr tl fa ro dy rd) (h0 : ¬ tm_in y (nw + 1) → K (some (.int (-1))) (G, I, J, R)) (h1 : ∀ q m I1, q ≤ nw → y = nI q → m ≤ 10 → iv_b G I1 R nw rp ch n oc pr tl fa ro dy rd → iv_c I1 J rp ch oc pr fa rd q m → K (some (.int (if tm_in x m then (if p_has (I1 (16 + 3 * tm_ix x) 0) f then I1 (16 + 3 * tm_ix x + 1) (tm_ix f) else -1) else -1))) (G, I1, J, R)) : tm_R (d + 5) 96 [.ref 3, .int x, .int f, .int y] (G, I, J, R) K := by
  obtain ⟨hS, hR, -⟩ := hp.1
  rw [e96]
  simp only [r96_0, r96_1, r96_2, sh_3 hS, tm_in, or_true, true_or, tm_cs0, tm_cs1, tm_cs2, tm_cs3, tm_cs4, true_and, and_true, and_self, Option.toList_some, Option.toList_none, List.cons_append, List.nil_append, tm_rf_some, tm_rf_none]
  refine c109i d y _ hp (fun h => ?_) (fun q m I1 hq e hm hb hc => ?_)
  · simp only [r96_5, r96_20, r96_21, if_true, tm_in, or_true, true_or, tm_cs0, tm_cs1, tm_cs2, tm_cs3, tm_cs4, true_and, and_true, and_self, Option.toList_some, Option.toList_none, List.cons_append, List.nil_append, tm_rf_some, tm_rf_none]
    exact h0 h
  · simp only [r96_5, r96_8, r96_9, r96_12, r96_13, r96_14, r96_17, r96_20, r96_21, show ¬ (1 : Int32) = 0 by decide, if_false, sh_3 hS, sh_14 hS, rf_3_2 hR, c44 _ _ _ _ hS hR hc.2.1.2.2.1 hm, tm_in, or_true, true_or, tm_cs0, tm_cs1, tm_cs2, tm_cs3, tm_cs4, true_and, and_true, and_self, Option.toList_some, Option.toList_none, List.cons_append, List.nil_append, tm_rf_some, tm_rf_none]
    exact h1 q m I1 hq e hm hb hc
theorem m143 (d : Nat) (x f : Int32) (K : Option Value → tm_H → Prop) (hb : iv_b G I R nw rp ch n oc pr tl fa ro dy rd) {m : Nat} (hk : iv_kn I rp (rp + ch) fa rd q m) (hq : q ≤ nw) : tm_R (d + 3) 143 [.ref 89, .int x, .int f, .int (nI q)] (G, I, J, R) K ↔ K (some (.int (if tm_in x m ∧ tm_in f 5 then (if p_rf I x f (nI q) (rp + ch) = -1 then -1 else if f = 3 then I 100 (tm_ix (p_rf I x f (nI q) (rp + ch))) else I 98 (5 * tm_ix (p_rf I x f (nI q) (rp + ch)) + tm_ix f)) else -1))) (G, I, J, R) := by
  have h70 := iv_70 hb
  have hS := hb.1
  have hR := hb.2.1
  have hf5 : (0 ≤ f ∧ f ≤ 4) ↔ tm_in f 5 := q_inI2 (N := 4) (n := 4) rfl (by decide)
  rw [e143]
  by_cases h1 : tm_in x m
  · by_cases h2 : tm_in f 5
    · rw [if_pos (⟨h1, h2⟩ : tm_in x m ∧ tm_in f 5)]
      simp only [r143_0, r143_1, r143_2, r143_3, r143_6, r143_9, r143_10, r143_11, r143_12, r143_15, r143_18, r143_19, r143_20, r143_21, r143_22, r143_23, r143_24, r143_27, r143_29, r143_31, r143_32, sh_89 hS, m138k _ _ _ hb hk hq, h1, m117, hf5, h2, if_true, show ¬ (1 : Int32) = 0 by decide, if_false, not_false_eq_true, m137 _ _ _ _ _ hS hR h70.1 h70.2, tm_in, or_true, true_or, tm_cs0, tm_cs1, tm_cs2, tm_cs3, tm_cs4, true_and, and_true, and_self, Option.toList_some, Option.toList_none, List.cons_append, List.nil_append, tm_rf_some, tm_rf_none]
      have hl := (q_of h2)
      generalize tm_ix f = g at hl ⊢
      obtain ⟨rfl, hl⟩ := hl
      rcases p_rf_in x (nI g) (nI q) (I := I) (rp + ch) with e | ⟨j, hj, e⟩
      · simp only [e, not_true, if_false, if_true, r143_35, r143_36]
      · have z := nI_m1 (y := j) (by omega)
        have i1 : tm_in (nI j) 70 := q_in (by omega) (by decide)
        have e1 : (5 : Int32) * nI j + nI g = nI (5 * j + g) := by rw [show (5 : Int32) = nI 5 from rfl, pk_mul, nI_add]
        have i2 : tm_in (nI (5 * j + g)) 350 := q_in (by omega) (by decide)
        simp only [e, z, not_false_eq_true, if_true, if_false, r143_37, r143_38, r143_39]
        by_cases h3 : nI g = 3
        · simp only [h3, not_true, if_true, if_false, r143_42, r143_43, r143_46, r143_48, r143_49, r143_63, sh_89 hS, sh_100 hS, rf_89_21 hR, i1, q_ix (show j < 2147483648 by omega), tm_in, or_true, true_or, tm_cs0, tm_cs1, tm_cs2, tm_cs3, tm_cs4, true_and, and_true, and_self, Option.toList_some, Option.toList_none, List.cons_append, List.nil_append, tm_rf_some, tm_rf_none]
        · simp only [h3, not_false_eq_true, if_true, if_false, r143_52, r143_53, r143_56, r143_57, r143_59, r143_60, r143_61, r143_62, r143_63, sh_89 hS, sh_98 hS, rf_89_19 hR, e1, i2, q_ix (show j < 2147483648 by omega), q_ix (show 5 * j + g < 2147483648 by omega), tm_in, or_true, true_or, tm_cs0, tm_cs1, tm_cs2, tm_cs3, tm_cs4, true_and, and_true, and_self, Option.toList_some, Option.toList_none, List.cons_append, List.nil_append, tm_rf_some, tm_rf_none]
    · rw [if_neg (fun z : tm_in x m ∧ tm_in f 5 => h2 z.2)]
      simp only [r143_0, r143_1, r143_2, r143_3, r143_6, r143_9, r143_10, r143_11, r143_12, r143_15, r143_18, r143_19, sh_89 hS, m138k _ _ _ hb hk hq, h1, m117, hf5, h2, if_true, show ¬ (1 : Int32) = 0 by decide, if_false, not_true, tm_in, or_true, true_or, tm_cs0, tm_cs1, tm_cs2, tm_cs3, tm_cs4, true_and, and_true, and_self, Option.toList_some, Option.toList_none, List.cons_append, List.nil_append, tm_rf_some, tm_rf_none]
  · rw [if_neg (fun z : tm_in x m ∧ tm_in f 5 => h1 z.1)]
    simp only [r143_0, r143_1, r143_2, r143_3, r143_6, r143_9, r143_10, r143_11, r143_12, r143_15, r143_18, r143_19, sh_89 hS, m138k _ _ _ hb hk hq, h1, if_true, if_false, tm_in, or_true, true_or, tm_cs0, tm_cs1, tm_cs2, tm_cs3, tm_cs4, true_and, and_true, and_self, Option.toList_some, Option.toList_none, List.cons_append, List.nil_append, tm_rf_some, tm_rf_none]
theorem m143n (d : Nat) (x f y : Int32) (K : Option Value → tm_H → Prop) (hp : iv_p G I J R nw rp ch n oc pr tl fa ro dy rd) (hy : ¬ tm_in y (nw + 1)) : tm_R (d + 3) 143 [.ref 89, .int x, .int f, .int y] (G, I, J, R) K ↔ K (some (.int (-1))) (G, I, J, R) := by
  have hS := hp.1.1
  rw [e143]
  simp only [r143_0, r143_1, r143_2, r143_3, r143_6, r143_18, r143_19, sh_89 hS, m138n _ _ _ _ hp hy, if_true, tm_in, or_true, true_or, tm_cs0, tm_cs1, tm_cs2, tm_cs3, tm_cs4, true_and, and_true, and_self, Option.toList_some, Option.toList_none, List.cons_append, List.nil_append, tm_rf_some, tm_rf_none]
theorem bo_field (d : Nat) (x f y : Int32) (hi : iv (G, I, J, R)) : iv_both (d + 5) 96 143 [.int x, .int f, .int y] (G, I, J, R) := by
  have hi0 := hi
  obtain ⟨nw, rp, ch, n, oc, pr, tl, fa, ro, dy, rd, hp⟩ : ∃ (nw rp ch n oc pr : Nat) (tl fa ro dy rd : Nat → Nat), iv_p G I J R nw rp ch n oc pr tl fa ro dy rd := hi
  have hS := hp.1.1
  unfold iv_both
  refine c96 d x f y _ hp (fun h => ?_) (fun q m I1 hq e hm hb hc => ?_)
  · rw [m143n (d + 2) x f y _ hp h]
    exact iv_same _ hi0
  · subst e
    rw [m143 (d + 2) x f _ hb hc.2.1 hq]
    have he : (if tm_in x m then (if p_has (I1 (16 + 3 * tm_ix x) 0) f then I1 (16 + 3 * tm_ix x + 1) (tm_ix f) else -1) else -1) = (if tm_in x m ∧ tm_in f 5 then (if p_rf I1 x f (nI q) (rp + ch) = -1 then -1 else if f = 3 then I1 100 (tm_ix (p_rf I1 x f (nI q) (rp + ch))) else I1 98 (5 * tm_ix (p_rf I1 x f (nI q) (rp + ch)) + tm_ix f)) else -1) := by
      by_cases h1 : tm_in x m
      · have hx := q_of h1
        generalize tm_ix x = r at hx
        obtain ⟨rfl, hr⟩ := hx
        by_cases h2 : tm_in f 5
        · have hf := q_of h2
          generalize tm_ix f = g at hf
          obtain ⟨rfl, hg⟩ := hf
          have h12 : tm_in (nI r) m ∧ tm_in (nI g) 5 := ⟨h1, h2⟩
          rw [if_pos h1, if_pos h12]
          rcases iv_get hb hc.2.1 (show r < 10 by omega) hg with ⟨a1, a2, a3⟩ | ⟨j, a1, a2, a3, a4, a5, a6⟩
          · have hn : ¬ p_has (I1 (16 + 3 * r) 0) (nI g) := fun z => by rw [tb_has hg, a2] at z; exact absurd z (by decide)
            rw [a1, if_neg hn, if_pos rfl]
          · have hj := (iv_70 hb).2
            have hn : p_has (I1 (16 + 3 * r) 0) (nI g) := (tb_has hg).mpr a3
            have hz := nI_m1 (y := j) (by omega)
            rw [a2, if_pos hn, if_neg hz, q_ix (show j < 2147483648 by omega)]
            by_cases h3 : g = 3
            · obtain ⟨cn, -, -, c3, c4, -⟩ := a6 h3
              subst h3
              rw [if_pos (show nI 3 = 3 from rfl), c3, c4]
            · have hg3 : ¬ nI g = 3 := fun z => h3 ((q_eq (a := g) (b := 3) rfl rfl (by omega) (by decide)).mp z)
              rw [if_neg hg3]
              exact (a4 h3).1
        · have h12 : ¬ (tm_in (nI r) m ∧ tm_in f 5) := fun z => h2 z.2
          have hn : ¬ p_has (I1 (16 + 3 * r) 0) f := fun z => h2 (p_hin z)
          rw [if_pos h1, if_neg h12, if_neg hn]
      · have h12 : ¬ (tm_in x m ∧ tm_in f 5) := fun z => h1 z.1
        rw [if_neg h1, if_neg h12]
    rw [he]
    exact iv_same _ (iv_of hb hq hc)
theorem c97 (d : Nat) (x y : Int32) (K : Option Value → tm_H → Prop) (hp : iv_p G I J R nw rp ch n oc pr tl fa ro dy rd) (h0 : ¬ tm_in y (nw + 1) → K (some (.int (-1))) (G, I, J, R)) (h1 : ∀ q m I1, q ≤ nw → y = nI q → m ≤ 10 → iv_b G I1 R nw rp ch n oc pr tl fa ro dy rd → iv_c I1 J rp ch oc pr fa rd q m → K (some (.int (if tm_in x m then (if p_has (I1 (16 + 3 * tm_ix x) 0) 2 then I1 (16 + 3 * tm_ix x) 1 else -1) else -1))) (G, I1, J, R)) : tm_R (d + 5) 97 [.ref 3, .int x, .int y] (G, I, J, R) K := by
  obtain ⟨hS, hR, -⟩ := hp.1
  rw [e97]
  simp only [r97_0, r97_1, r97_2, sh_3 hS, tm_in, or_true, true_or, tm_cs0, tm_cs1, tm_cs2, tm_cs3, tm_cs4, true_and, and_true, and_self, Option.toList_some, Option.toList_none, List.cons_append, List.nil_append, tm_rf_some, tm_rf_none]
  refine c109i d y _ hp (fun h => ?_) (fun q m I1 hq e hm hb hc => ?_)
  · simp only [r97_5, r97_19, r97_20, if_true, tm_in, or_true, true_or, tm_cs0, tm_cs1, tm_cs2, tm_cs3, tm_cs4, true_and, and_true, and_self, Option.toList_some, Option.toList_none, List.cons_append, List.nil_append, tm_rf_some, tm_rf_none]
    exact h0 h
  · simp only [r97_5, r97_8, r97_9, r97_12, r97_13, r97_16, r97_19, r97_20, show ¬ (1 : Int32) = 0 by decide, if_false, sh_3 hS, sh_14 hS, rf_3_2 hR, c45 _ _ _ hS hR hc.2.1.2.2.1 hm, tm_in, or_true, true_or, tm_cs0, tm_cs1, tm_cs2, tm_cs3, tm_cs4, true_and, and_true, and_self, Option.toList_some, Option.toList_none, List.cons_append, List.nil_append, tm_rf_some, tm_rf_none]
    exact h1 q m I1 hq e hm hb hc
theorem m144n (d : Nat) (x y : Int32) (K : Option Value → tm_H → Prop) (hp : iv_p G I J R nw rp ch n oc pr tl fa ro dy rd) (hy : ¬ tm_in y (nw + 1)) : tm_R (d + 3) 144 [.ref 89, .int x, .int y] (G, I, J, R) K ↔ K (some (.int (-1))) (G, I, J, R) := by
  have hS := hp.1.1
  rw [e144]
  simp only [r144_0, r144_1, r144_2, r144_3, r144_6, r144_9, r144_10, sh_89 hS, m138n _ _ _ _ hp hy, not_true, if_false, tm_in, or_true, true_or, tm_cs0, tm_cs1, tm_cs2, tm_cs3, tm_cs4, true_and, and_true, and_self, Option.toList_some, Option.toList_none, List.cons_append, List.nil_append, tm_rf_some, tm_rf_none]
theorem m144 (d : Nat) (x : Int32) (K : Option Value → tm_H → Prop) (hb : iv_b G I R nw rp ch n oc pr tl fa ro dy rd) {m : Nat} (hm : m ≤ 10) (hk : iv_kn I rp (rp + ch) fa rd q m) (hq : q ≤ nw) : tm_R (d + 3) 144 [.ref 89, .int x, .int (nI q)] (G, I, J, R) K ↔ K (some (.int (if tm_in x m then (if p_has (I (16 + 3 * tm_ix x) 0) 2 then I (16 + 3 * tm_ix x) 1 else -1) else -1))) (G, I, J, R) := by
  have h70 := iv_70 hb
  have hS := hb.1
  have hR := hb.2.1
  rw [e144]
  by_cases h1 : tm_in x m
  · simp only [r144_0, r144_1, r144_2, r144_3, r144_6, r144_9, r144_10, r144_11, r144_12, r144_13, r144_14, r144_15, r144_18, r144_19, r144_20, r144_21, sh_89 hS, m138k _ _ _ hb hk hq, h1, if_true, show ¬ (1 : Int32) = 0 by decide, not_false_eq_true, m137 _ _ _ _ _ hS hR h70.1 h70.2, tm_in, or_true, true_or, tm_cs0, tm_cs1, tm_cs2, tm_cs3, tm_cs4, true_and, and_true, and_self, Option.toList_some, Option.toList_none, List.cons_append, List.nil_append, tm_rf_some, tm_rf_none]
    have hx := q_of h1
    generalize tm_ix x = r at hx ⊢
    obtain ⟨rfl, hr⟩ := hx
    rcases iv_get hb hk (show r < 10 by omega) (show 2 < 5 by decide) with ⟨a1, a2, a3⟩ | ⟨j, a1, a2, a3, a4, a5, a6⟩
    · have a1' : p_rf I (nI r) 2 (nI q) (rp + ch) = -1 := a1
      have hn : ¬ p_has (I (16 + 3 * r) 0) 2 := fun z => by rw [show (2 : Int32) = nI 2 from rfl, tb_has (by decide), a2] at z; exact absurd z (by decide)
      rw [if_neg hn]
      simp only [a1', not_true, if_false, r144_24, r144_25, r144_34]
    · have a2' : p_rf I (nI r) 2 (nI q) (rp + ch) = nI j := a2
      have hn : p_has (I (16 + 3 * r) 0) 2 := (tb_has (k := 2) (by decide)).mpr a3
      have z := nI_m1 (y := j) (by omega)
      have i1 : tm_in (nI j) 70 := q_in (by omega) (by decide)
      rw [if_pos hn, (a5 rfl).1]
      simp only [a2', z, not_false_eq_true, if_true, r144_28, r144_29, r144_32, r144_33, r144_34, sh_89 hS, sh_99 hS, rf_89_20 hR, i1, q_ix (show j < 2147483648 by omega), tm_in, or_true, true_or, tm_cs0, tm_cs1, tm_cs2, tm_cs3, tm_cs4, true_and, and_true, and_self, Option.toList_some, Option.toList_none, List.cons_append, List.nil_append, tm_rf_some, tm_rf_none]
  · simp only [r144_0, r144_1, r144_2, r144_3, r144_6, r144_9, r144_10, sh_89 hS, m138k _ _ _ hb hk hq, h1, if_false, not_true, tm_in, or_true, true_or, tm_cs0, tm_cs1, tm_cs2, tm_cs3, tm_cs4, true_and, and_true, and_self, Option.toList_some, Option.toList_none, List.cons_append, List.nil_append, tm_rf_some, tm_rf_none]
theorem bo_upper (d : Nat) (x y : Int32) (hi : iv (G, I, J, R)) : iv_both (d + 5) 97 144 [.int x, .int y] (G, I, J, R) := by
  have hi0 := hi
  obtain ⟨nw, rp, ch, n, oc, pr, tl, fa, ro, dy, rd, hp⟩ : ∃ (nw rp ch n oc pr : Nat) (tl fa ro dy rd : Nat → Nat), iv_p G I J R nw rp ch n oc pr tl fa ro dy rd := hi
  unfold iv_both
  refine c97 d x y _ hp (fun h => ?_) (fun q m I1 hq e hm hb hc => ?_)
  · rw [m144n (d + 2) x y _ hp h]
    exact iv_same _ hi0
  · subst e
    rw [m144 (d + 2) x _ hb hm hc.2.1 hq]
    exact iv_same _ (iv_of hb hq hc)
end FLD
