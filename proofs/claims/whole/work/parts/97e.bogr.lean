/-! Groups: on both. -/
theorem p_ag_c {sel sel' has has' : Nat → Bool} {val val' : Nat → Int32} : ∀ n k v, (∀ i, k ≤ i → i < k + n → sel i = sel' i ∧ has i = has' i ∧ val i = val' i) → p_ag sel has val n k v = p_ag sel' has' val' n k v
  | 0, _, _, _ => rfl
  | n + 1, k, v, h => by
    obtain ⟨h1, h2, h3⟩ := h k (by omega) (by omega)
    rw [p_ag, p_ag, h1, h2, h3, p_ag_c n (k + 1) (val' k) (fun i a b => h i (by omega) (by omega)), p_ag_c n (k + 1) v (fun i a b => h i (by omega) (by omega))]
theorem p_lo_c {sel sel' has has' : Nat → Bool} {val val' : Nat → Int32} : ∀ n k v, (∀ i, k ≤ i → i < k + n → sel i = sel' i ∧ has i = has' i ∧ val i = val' i) → p_lo sel has val n k v = p_lo sel' has' val' n k v
  | 0, _, _, _ => rfl
  | n + 1, k, v, h => by
    obtain ⟨h1, h2, h3⟩ := h k (by omega) (by omega)
    rw [p_lo, p_lo, h1, h2, h3, p_lo_c n (k + 1) _ (fun i a b => h i (by omega) (by omega))]
theorem p_hi_c {sel sel' has has' : Nat → Bool} {val val' : Nat → Int32} : ∀ n k v, (∀ i, k ≤ i → i < k + n → sel i = sel' i ∧ has i = has' i ∧ val i = val' i) → p_hi sel has val n k v = p_hi sel' has' val' n k v
  | 0, _, _, _ => rfl
  | n + 1, k, v, h => by
    obtain ⟨h1, h2, h3⟩ := h k (by omega) (by omega)
    rw [p_hi, p_hi, h1, h2, h3, p_hi_c n (k + 1) _ (fun i a b => h i (by omega) (by omega))]
section BGR
variable {G : tm_G} {I I' : Nat → Nat → Int32} {J : Nat → Nat → Int64} {R : Nat → Nat → Option Nat} {nw rp ch n oc pr q m g : Nat} {tl fa ro dy rd b w : Nat → Nat}
theorem p_al_c {sel sel' : Nat → Bool} (e : ∀ b k, ¬ scr b k → I' b k = I b k) (hm : m ≤ 10) (hs : ∀ i, i < m → sel i = sel' i) (f : Nat) : p_al I' sel' m f = p_al I sel m f := p_ag_c m 0 (-1) (fun i _ hi => ⟨(hs i (by omega)).symm, by rw [scr_row e (b := 16 + 3 * i) (by omega)], by rw [scr_row e (b := 16 + 3 * i + 1) (by omega)]⟩)
theorem p_lw_c {sel sel' : Nat → Bool} (e : ∀ b k, ¬ scr b k → I' b k = I b k) (hm : m ≤ 10) (hs : ∀ i, i < m → sel i = sel' i) : p_lw I' sel' m = p_lw I sel m := p_lo_c m 0 (-1) (fun i _ hi => ⟨(hs i (by omega)).symm, by rw [scr_row e (b := 16 + 3 * i) (by omega)], by rw [scr_row e (b := 16 + 3 * i + 1) (by omega)]⟩)
theorem p_hg_c {sel sel' : Nat → Bool} (e : ∀ b k, ¬ scr b k → I' b k = I b k) (hm : m ≤ 10) (hs : ∀ i, i < m → sel i = sel' i) : p_hg I' sel' m = p_hg I sel m := p_hi_c m 0 (-1) (fun i _ hi => ⟨(hs i (by omega)).symm, by rw [scr_row e (b := 16 + 3 * i) (by omega)], by rw [scr_row e (b := 16 + 3 * i) (by omega)]⟩)
theorem gr_g (h : gp_rel m g w b) : g = p_cn (fun r => decide (b r = r)) m 0 := by
  have h5 := h.2.2.2.2 (fun _ => 1)
  have e := gp_n_cn (fun r => decide (b r = r)) m 0
  rw [gp_n_1] at h5
  simp only [decide_eq_true_eq] at e
  rw [h5]
  rw [Nat.zero_add] at e
  rw [e]
  show 0 + _ = _
  rw [Nat.zero_add]
/-- both have looked: the reference's run is known -/
def gx (d : Nat) (fd : Int32) (G : tm_G) (I I' : Nat → Nat → Int32) (J : Nat → Nat → Int64) (R : Nat → Nat → Option Nat) (nw rp ch n oc pr : Nat) (tl fa ro dy rd : Nat → Nat) (q m : Nat) : Prop := q ≤ nw ∧ m ≤ 10 ∧ iv_b G I R nw rp ch n oc pr tl fa ro dy rd ∧ iv_c I J rp ch oc pr fa rd q m ∧ kw G I' R nw rp ch n oc pr tl fa ro dy rd q m ∧ (∀ b k, ¬ scr b k → I' b k = I b k) ∧ ∀ K, (tm_R (d + 13) 156 [.ref 89, .int (nI q)] (G, I, J, R) K ↔ K (some (.int fd)) (G, I', J, R))
def gy (I I' : Nat → Nat → Int32) (J : Nat → Nat → Int64) (oc m : Nat) (b w : Nat → Nat) (g : Nat) : Prop := gr_yes I J oc m (I' 89 32) (I' 89 33) (I' 109) b w g ∧ cf_ok I m b ∧ mf_ok I' m g w ∧ g = p_cn (fun r => decide (b r = r)) m 0
theorem gx_iv {d : Nat} {fd : Int32} (h : gx d fd G I I' J R nw rp ch n oc pr tl fa ro dy rd q m) : iv (G, I', J, R) := by
  obtain ⟨h1, h2, h3, h4, h5, h6, -⟩ := h
  exact iv_of (iv_b_scr h3 h6) h1 (iv_c_scr h3 h2 h4 h6 rfl)
theorem gx_iv0 {d : Nat} {fd : Int32} (h : gx d fd G I I' J R nw rp ch n oc pr tl fa ro dy rd q m) : iv (G, I, J, R) := iv_of h.2.2.1 h.1 h.2.2.2.1
theorem gx_ex (d : Nat) (hq : q ≤ nw) (hm : m ≤ 10) (hb : iv_b G I R nw rp ch n oc pr tl fa ro dy rd) (hc : iv_c I J rp ch oc pr fa rd q m) (hg : iv_gr I J m oc) : ∃ I', (gx d 0 G I I' J R nw rp ch n oc pr tl fa ro dy rd q m ∧ J 71 4 = lI gp_NV) ∨ (gx d 1 G I I' J R nw rp ch n oc pr tl fa ro dy rd q m ∧ J 71 4 ≠ lI gp_NV ∧ ∃ b w g, gy I I' J oc m b w g) := by
  have h := m156 (G := G) (I := I) (J := J) (R := R) d (fun r h' => ∃ I' fd, r = some (.int fd) ∧ h' = (G, I', J, R) ∧ (∀ b k, ¬ scr b k → I' b k = I b k) ∧ kw G I' R nw rp ch n oc pr tl fa ro dy rd q m ∧ ((fd = 0 ∧ J 71 4 = lI gp_NV) ∨ (fd = 1 ∧ ∃ b w g, gr_yes I J oc m (I' 89 32) (I' 89 33) (I' 109) b w g))) hb hq hm hc.2.1 (fun I' B fd bc bg bw e1 e2 e3 e4 e5 e6 e7 e8 => ⟨I', fd, rfl, rfl, e1, e2, by rw [e4, e5, e6]; exact gr_agree hb hc.2.1 hm hg e7 e8⟩)
  obtain ⟨t, ⟨q1, q2⟩, f1, I', fd, f2, f3, f4, f5, f6⟩ := h
  simp only at f2 f3
  subst f2 f3
  have hr : ∀ K, (tm_R (d + 13) 156 [.ref 89, .int (nI q)] (G, I, J, R) K ↔ K (some (.int fd)) (G, I', J, R)) := fun K => tm_A_det (fun K hk => ⟨t, _, f1, hk⟩) K
  refine ⟨I', ?_⟩
  rcases f6 with ⟨rfl, z⟩ | ⟨rfl, b, w, g, z⟩
  · exact Or.inl ⟨⟨hq, hm, hb, hc, f5, f4, hr⟩, z⟩
  · refine Or.inr ⟨⟨hq, hm, hb, hc, f5, f4, hr⟩, z.2.2.2.2.2.2.2, b, w, g, z, ?_, ?_, gr_g z.2.1⟩
    · exact ⟨hm, hc.2.1.2.2.1, hg.1, fun r hr => ⟨z.2.2.2.2.2.1 r hr, (z.2.1.1 r hr).2.1⟩⟩
    · refine ⟨?_, fun j hj => ⟨z.2.2.2.2.1 j hj, (z.2.1.1 j hj).1⟩⟩
      rw [gr_g z.2.1]
      exact Nat.le_trans (p_cn_le _ _ _) hm
/-- the class has looked at groups -/
theorem c110x (d e : Nat) (y : Int32) (K : Option Value → tm_H → Prop) (hp : iv_p G I J R nw rp ch n oc pr tl fa ro dy rd) (h0 : ¬ tm_in y (nw + 1) → K (some (.int 0)) (G, I, J, R)) (hN : ∀ q m I1 J1 I', y = nI q → gx e 0 G I1 I' J1 R nw rp ch n oc pr tl fa ro dy rd q m → K (some (.int 0)) (G, I1, J1, R)) (hY : ∀ q m I1 J1 I' b w g, y = nI q → gx e 1 G I1 I' J1 R nw rp ch n oc pr tl fa ro dy rd q m → gy I1 I' J1 oc m b w g → K (some (.int 1)) (G, I1, J1, R)) : tm_R (d + 7) 110 [.ref 3, .int y] (G, I, J, R) K := by
  refine c110i d y K hp h0 (fun q m I1 J1 hq ey hm hb hc hg => ?_)
  obtain ⟨I', ⟨z1, z2⟩ | ⟨z1, z2, b, w, g, z3⟩⟩ := gx_ex e hq hm hb hc hg
  · rw [if_pos z2]
    exact hN q m I1 J1 I' ey z1
  · rw [if_neg z2]
    exact hY q m I1 J1 I' b w g ey z1 z3
theorem c100 (d e : Nat) (x y : Int32) (K : Option Value → tm_H → Prop) (hp : iv_p G I J R nw rp ch n oc pr tl fa ro dy rd) (h0 : ¬ tm_in y (nw + 1) → K (some (.int (-1))) (G, I, J, R)) (hN : ∀ q m I1 J1 I', y = nI q → gx e 0 G I1 I' J1 R nw rp ch n oc pr tl fa ro dy rd q m → K (some (.int (-1))) (G, I1, J1, R)) (hY : ∀ q m I1 J1 I' b w g, y = nI q → gx e 1 G I1 I' J1 R nw rp ch n oc pr tl fa ro dy rd q m → gy I1 I' J1 oc m b w g → K (some (.int (if tm_in x m then I1 75 (tm_ix x) else -1))) (G, I1, J1, R)) : tm_R (d + 8) 100 [.ref 3, .int x, .int y] (G, I, J, R) K := by
  obtain ⟨hS, hR, -⟩ := hp.1
  rw [e100]
  simp only [r100_0, r100_1, r100_2, sh_3 hS, tm_in, or_true, true_or, tm_cs0, tm_cs1, tm_cs2, tm_cs3, tm_cs4, true_and, and_true, and_self, Option.toList_some, Option.toList_none, List.cons_append, List.nil_append, tm_rf_some, tm_rf_none]
  refine c110x d e y _ hp (fun h => ?_) (fun q m I1 J1 I' ey h1 => ?_) (fun q m I1 J1 I' b w g ey h1 h2 => ?_)
  · simp only [r100_5, r100_19, r100_20, if_true, tm_in, or_true, true_or, tm_cs0, tm_cs1, tm_cs2, tm_cs3, tm_cs4, true_and, and_true, and_self, Option.toList_some, Option.toList_none, List.cons_append, List.nil_append, tm_rf_some, tm_rf_none]
    exact h0 h
  · simp only [r100_5, r100_19, r100_20, if_true, tm_in, or_true, true_or, tm_cs0, tm_cs1, tm_cs2, tm_cs3, tm_cs4, true_and, and_true, and_self, Option.toList_some, Option.toList_none, List.cons_append, List.nil_append, tm_rf_some, tm_rf_none]
    exact hN q m I1 J1 I' ey h1
  · simp only [r100_5, r100_8, r100_9, r100_12, r100_13, r100_16, r100_19, r100_20, show ¬ (1 : Int32) = 0 by decide, if_false, sh_3 hS, sh_71 hS, rf_3_5 hR, c31 _ _ _ hS hR h2.2.1.2.2.1 h2.2.1.1, tm_in, or_true, true_or, tm_cs0, tm_cs1, tm_cs2, tm_cs3, tm_cs4, true_and, and_true, and_self, Option.toList_some, Option.toList_none, List.cons_append, List.nil_append, tm_rf_some, tm_rf_none]
    exact hY q m I1 J1 I' b w g ey h1 h2
theorem m158n (d : Nat) (x y : Int32) (K : Option Value → tm_H → Prop) (hp : iv_p G I J R nw rp ch n oc pr tl fa ro dy rd) (hy : ¬ tm_in y (nw + 1)) : tm_R (d + 3) 158 [.ref 89, .int x, .int y] (G, I, J, R) K ↔ K (some (.int (-1))) (G, I, J, R) := by
  have hS := hp.1.1
  rw [e158]
  simp only [r158_0, r158_1, r158_2, r158_3, r158_6, r158_17, r158_18, sh_89 hS, m138n _ _ _ _ hp hy, if_true, tm_in, or_true, true_or, tm_cs0, tm_cs1, tm_cs2, tm_cs3, tm_cs4, true_and, and_true, and_self, Option.toList_some, Option.toList_none, List.cons_append, List.nil_append, tm_rf_some, tm_rf_none]
theorem m158z (d : Nat) (x : Int32) (K : Option Value → tm_H → Prop) (h : gx d 0 G I I' J R nw rp ch n oc pr tl fa ro dy rd q m) : tm_R (d + 14) 158 [.ref 89, .int x, .int (nI q)] (G, I, J, R) K ↔ if tm_in x m then K (some (.int (-1))) (G, I', J, R) else K (some (.int (-1))) (G, I, J, R) := by
  obtain ⟨h1, h2, h3, h4, h5, h6, h7⟩ := h
  have hS := h3.1
  rw [e158]
  by_cases hx : tm_in x m
  · rw [if_pos hx]
    simp only [r158_0, r158_1, r158_2, r158_3, r158_6, r158_9, r158_10, r158_11, r158_14, r158_17, r158_18, sh_89 hS, m138k _ _ _ h3 h4.2.1 h1, hx, if_true, if_false, show ¬ (1 : Int32) = 0 by decide, h7, not_true, tm_in, or_true, true_or, tm_cs0, tm_cs1, tm_cs2, tm_cs3, tm_cs4, true_and, and_true, and_self, Option.toList_some, Option.toList_none, List.cons_append, List.nil_append, tm_rf_some, tm_rf_none]
  · rw [if_neg hx]
    simp only [r158_0, r158_1, r158_2, r158_3, r158_6, r158_17, r158_18, sh_89 hS, m138k _ _ _ h3 h4.2.1 h1, hx, if_true, if_false, tm_in, or_true, true_or, tm_cs0, tm_cs1, tm_cs2, tm_cs3, tm_cs4, true_and, and_true, and_self, Option.toList_some, Option.toList_none, List.cons_append, List.nil_append, tm_rf_some, tm_rf_none]
theorem m158y (d : Nat) (x : Int32) (K : Option Value → tm_H → Prop) (h : gx d 1 G I I' J R nw rp ch n oc pr tl fa ro dy rd q m) (hg : gy I I' J oc m b w g) : tm_R (d + 14) 158 [.ref 89, .int x, .int (nI q)] (G, I, J, R) K ↔ if tm_in x m then K (some (.int (I 75 (tm_ix x)))) (G, I', J, R) else K (some (.int (-1))) (G, I, J, R) := by
  obtain ⟨h1, h2, h3, h4, h5, h6, h7⟩ := h
  have hS := h3.1
  have hR := h3.2.1
  rw [e158]
  by_cases hx : tm_in x m
  · have hk := q_of hx
    rw [if_pos hx]
    generalize tm_ix x = r at hk ⊢
    obtain ⟨rfl, hr⟩ := hk
    obtain ⟨g1, g2, g3, g4⟩ := hg
    have hrel := g1.2.1
    have ir : tm_in (nI r) 10 := q_in (by omega) (by decide)
    have hbr := (hrel.1 r hr)
    have g10 := g3.1
    simp only [r158_0, r158_1, r158_2, r158_3, r158_6, r158_9, r158_10, r158_11, r158_14, r158_17, r158_18, r158_19, r158_20, r158_23, r158_24, r158_25, r158_28, r158_29, r158_30, r158_31, sh_89 hS, m138k _ _ _ h3 h4.2.1 h1, hx, if_true, if_false, show ¬ (1 : Int32) = 0 by decide, h7, not_false_eq_true, rf_89_31 hR, m157 _ _ h5 hr, sh_109 hS, ir, q_ix (show r < 2147483648 by omega), (g3.2 r hr).1, tm_in, or_true, true_or, tm_cs0, tm_cs1, tm_cs2, tm_cs3, tm_cs4, true_and, and_true, and_self, Option.toList_some, Option.toList_none, List.cons_append, List.nil_append, tm_rf_some, tm_rf_none]
    have l : ∀ (n i : Nat), i + n = b r → (tm_A (d + 14) 158 33 [some (.ref 89), some (.int (nI r)), some (.int (nI q)), some (.int (nI (w r))), some (.int (nI i))] [] (G, I', J, R) K ↔ K (some (.int (I 75 r))) (G, I', J, R)) := by
      intro n
      induction n with
      | zero =>
        intro i hi
        have : i = b r := by omega
        subst this
        have i1 : tm_in (nI (b r)) 10 := q_in (by omega) (by decide)
        have ew : I' 109 (b r) = nI (w r) := by rw [(g3.2 (b r) (by omega)).1, hbr.2.2]
        rw [r158_33]
        simp only [r158_34, r158_37, r158_39, r158_40, r158_41, r158_50, r158_51, r158_54, r158_56, r158_57, sh_89 hS, sh_105 hS, sh_109 hS, rf_89_27 hR, rf_89_31 hR, i1, q_ix (show b r < 2147483648 by omega), ew, if_true, h5.2.2.2.2.1 (b r) (by omega), (g2.2.2.2 r hr).1, tm_in, or_true, true_or, tm_cs0, tm_cs1, tm_cs2, tm_cs3, tm_cs4, true_and, and_true, and_self, Option.toList_some, Option.toList_none, List.cons_append, List.nil_append, tm_rf_some, tm_rf_none]
      | succ n ih =>
        intro i hi
        have i1 : tm_in (nI i) 10 := q_in (by omega) (by decide)
        have hwi := (g3.2 i (by omega))
        have e : ¬ nI (w i) = nI (w r) := fun z => by
          have z1 := (nI_eq (by omega) (by omega)).mp z
          have z2 := hrel.2.1 i r (by omega) hr z1
          have z3 := (hrel.1 i (by omega)).2.1
          omega
        rw [r158_33]
        simp only [r158_34, r158_37, r158_39, r158_40, r158_41, r158_44, r158_47, sh_89 hS, sh_109 hS, rf_89_31 hR, i1, q_ix (show i < 2147483648 by omega), hwi.1, e, if_false, nI_1, tm_in, or_true, true_or, tm_cs0, tm_cs1, tm_cs2, tm_cs3, tm_cs4, true_and, and_true, and_self, Option.toList_some, Option.toList_none, List.cons_append, List.nil_append, tm_rf_some, tm_rf_none]
        exact ih (i + 1) (by omega)
    have := l (b r) 0 (by omega)
    rw [nI_0] at this
    exact this
  · rw [if_neg hx]
    simp only [r158_0, r158_1, r158_2, r158_3, r158_6, r158_17, r158_18, sh_89 hS, m138k _ _ _ h3 h4.2.1 h1, hx, if_true, if_false, tm_in, or_true, true_or, tm_cs0, tm_cs1, tm_cs2, tm_cs3, tm_cs4, true_and, and_true, and_self, Option.toList_some, Option.toList_none, List.cons_append, List.nil_append, tm_rf_some, tm_rf_none]
theorem bo_group (d : Nat) (x y : Int32) (hi : iv (G, I, J, R)) : iv_both (d + 14) 100 158 [.int x, .int y] (G, I, J, R) := by
  have hi0 := hi
  obtain ⟨nw, rp, ch, n, oc, pr, tl, fa, ro, dy, rd, hp⟩ : ∃ (nw rp ch n oc pr : Nat) (tl fa ro dy rd : Nat → Nat), iv_p G I J R nw rp ch n oc pr tl fa ro dy rd := hi
  unfold iv_both
  refine c100 (d + 6) d x y _ hp (fun h => ?_) (fun q m I1 J1 I' ey h1 => ?_) (fun q m I1 J1 I' b w g ey h1 h2 => ?_)
  · rw [m158n (d + 11) x y _ hp h]
    exact iv_same _ hi0
  · subst ey
    rw [m158z d x _ h1]
    by_cases hx : tm_in x m
    · rw [if_pos hx]; exact iv_same _ (gx_iv h1)
    · rw [if_neg hx]; exact iv_same _ (gx_iv0 h1)
  · subst ey
    rw [m158y d x _ h1 h2]
    by_cases hx : tm_in x m
    · rw [if_pos hx, if_pos hx]; exact iv_same _ (gx_iv h1)
    · rw [if_neg hx, if_neg hx]; exact iv_same _ (gx_iv0 h1)
/-! Cost, and how many. -/
theorem gy_X (h : gy I I' J oc m b w g) (hb : iv_b G I R nw rp ch n oc pr tl fa ro dy rd) (hk : iv_kn I rp (rp + ch) fa rd q m) (hm : m ≤ 10) : ∃ X : Int, J 71 4 = lI X ∧ -2000000000000000000 ≤ X ∧ X ≤ 2000000000000000000 ∧ I' 89 32 = iI (X / 1099511627776) := by
  obtain ⟨⟨z1, z2, z3, z4, z5, z6, z7, z8⟩, h2, -⟩ := h
  refine ⟨_, z7, ?_⟩
  have e : gp_key (ck_C I m) oc m (gp_all m) b = gp_cost (ck_C I m) oc m (gp_all m) b * 1099511627776 + gp_df b m := by
    unfold gp_key
    rw [gp_df_e]
  have e2 : gp_key (ck_C I m) oc m (gp_all m) b / 1099511627776 = gp_cost (ck_C I m) oc m (gp_all m) b := by
    rw [e]
    exact gp_dec40 hm (fun j hj => by have := (h2.2.2.2 j hj).2; omega) _
  rw [e2]
  have s6 := hb.2.2.2.1.2.2.2.2.2.1
  have bd := gp_key_bd (o := (oc : Int)) (S := gp_all m) (f := b) hm (ck_bd hb hk hm) (by have := s6.2.2; omega) (gp_ok_15 hm z1.1)
  exact ⟨by omega, by omega, z3⟩
theorem c101 (d e : Nat) (y : Int32) (K : Option Value → tm_H → Prop) (hp : iv_p G I J R nw rp ch n oc pr tl fa ro dy rd) (h0 : ¬ tm_in y (nw + 1) → K (some (.int (-10000))) (G, I, J, R)) (hN : ∀ q m I1 J1 I', y = nI q → gx e 0 G I1 I' J1 R nw rp ch n oc pr tl fa ro dy rd q m → K (some (.int (-10000))) (G, I1, J1, R)) (hY : ∀ q m I1 J1 I' b w g, y = nI q → gx e 1 G I1 I' J1 R nw rp ch n oc pr tl fa ro dy rd q m → gy I1 I' J1 oc m b w g → K (some (.int (I' 89 32))) (G, I1, J1, R)) : tm_R (d + 8) 101 [.ref 3, .int y] (G, I, J, R) K := by
  obtain ⟨hS, hR, -⟩ := hp.1
  rw [e101]
  simp only [r101_0, r101_1, r101_2, sh_3 hS, tm_in, or_true, true_or, tm_cs0, tm_cs1, tm_cs2, tm_cs3, tm_cs4, true_and, and_true, and_self, Option.toList_some, Option.toList_none, List.cons_append, List.nil_append, tm_rf_some, tm_rf_none]
  refine c110x d e y _ hp (fun h => ?_) (fun q m I1 J1 I' ey h1 => ?_) (fun q m I1 J1 I' b w g ey h1 h2 => ?_)
  · simp only [r101_5, r101_18, r101_21, if_true, tm_in, or_true, true_or, tm_cs0, tm_cs1, tm_cs2, tm_cs3, tm_cs4, true_and, and_true, and_self, Option.toList_some, Option.toList_none, List.cons_append, List.nil_append, tm_rf_some, tm_rf_none]
    exact h0 h
  · simp only [r101_5, r101_18, r101_21, if_true, tm_in, or_true, true_or, tm_cs0, tm_cs1, tm_cs2, tm_cs3, tm_cs4, true_and, and_true, and_self, Option.toList_some, Option.toList_none, List.cons_append, List.nil_append, tm_rf_some, tm_rf_none]
    exact hN q m I1 J1 I' ey h1
  · obtain ⟨X, x1, x2, x3, x4⟩ := gy_X h2 h1.2.2.1 h1.2.2.2.1.2.1 h1.2.1
    simp only [r101_5, r101_8, r101_9, r101_12, r101_15, r101_18, r101_21, show ¬ (1 : Int32) = 0 by decide, if_false, sh_3 hS, sh_71 hS, rf_3_5 hR, c30 _ _ hS x1 x2 x3, tm_in, or_true, true_or, tm_cs0, tm_cs1, tm_cs2, tm_cs3, tm_cs4, true_and, and_true, and_self, Option.toList_some, Option.toList_none, List.cons_append, List.nil_append, tm_rf_some, tm_rf_none]
    rw [← x4]
    exact hY q m I1 J1 I' b w g ey h1 h2
theorem iv_day (hb : iv_b G I R nw rp ch n oc pr tl fa ro dy rd) (y : Int32) : (0 ≤ y ∧ y ≤ I 89 0) ↔ tm_in y (nw + 1) := by
  have s1 := hb.2.2.2.1.1
  exact q_inI2 s1.2.1 (by omega)
theorem m159n (d : Nat) (y : Int32) (K : Option Value → tm_H → Prop) (hp : iv_p G I J R nw rp ch n oc pr tl fa ro dy rd) (hy : ¬ tm_in y (nw + 1)) : tm_R (d + 3) 159 [.ref 89, .int y] (G, I, J, R) K ↔ K (some (.int (-10000))) (G, I, J, R) := by
  have hS := hp.1.1
  have hd := iv_day hp.1 y
  rw [e159]
  simp only [r159_0, r159_1, r159_2, r159_3, r159_6, r159_9, r159_27, r159_30, sh_89 hS, m117, hd, hy, if_true, if_false, tm_in, or_true, true_or, tm_cs0, tm_cs1, tm_cs2, tm_cs3, tm_cs4, true_and, and_true, and_self, Option.toList_some, Option.toList_none, List.cons_append, List.nil_append, tm_rf_some, tm_rf_none]
theorem m159k (d : Nat) {fd : Int32} (K : Option Value → tm_H → Prop) (h : gx d fd G I I' J R nw rp ch n oc pr tl fa ro dy rd q m) : tm_R (d + 14) 159 [.ref 89, .int (nI q)] (G, I, J, R) K ↔ K (some (.int (if fd = 0 then -10000 else I' 89 32))) (G, I', J, R) := by
  obtain ⟨h1, h2, h3, h4, h5, h6, h7⟩ := h
  have hS := h3.1
  have hd := iv_day h3 (nI q)
  have hin : tm_in (nI q) (nw + 1) := q_in (by omega) (by have := h3.2.2.2.1.1.2.2; omega)
  rw [e159]
  by_cases hf : fd = 0
  · simp only [r159_0, r159_1, r159_2, r159_3, r159_6, r159_9, r159_12, r159_13, r159_14, r159_17, r159_27, r159_30, sh_89 hS, m117, hd, hin, if_true, if_false, show ¬ (1 : Int32) = 0 by decide, h7, hf, tm_in, or_true, true_or, tm_cs0, tm_cs1, tm_cs2, tm_cs3, tm_cs4, true_and, and_true, and_self, Option.toList_some, Option.toList_none, List.cons_append, List.nil_append, tm_rf_some, tm_rf_none]
  · simp only [r159_0, r159_1, r159_2, r159_3, r159_6, r159_9, r159_12, r159_13, r159_14, r159_17, r159_20, r159_21, r159_24, r159_30, sh_89 hS, m117, hd, hin, if_true, if_false, show ¬ (1 : Int32) = 0 by decide, h7, hf, tm_in, or_true, true_or, tm_cs0, tm_cs1, tm_cs2, tm_cs3, tm_cs4, true_and, and_true, and_self, Option.toList_some, Option.toList_none, List.cons_append, List.nil_append, tm_rf_some, tm_rf_none]
theorem bo_cost (d : Nat) (y : Int32) (hi : iv (G, I, J, R)) : iv_both (d + 14) 101 159 [.int y] (G, I, J, R) := by
  have hi0 := hi
  obtain ⟨nw, rp, ch, n, oc, pr, tl, fa, ro, dy, rd, hp⟩ : ∃ (nw rp ch n oc pr : Nat) (tl fa ro dy rd : Nat → Nat), iv_p G I J R nw rp ch n oc pr tl fa ro dy rd := hi
  unfold iv_both
  refine c101 (d + 6) d y _ hp (fun h => ?_) (fun q m I1 J1 I' ey h1 => ?_) (fun q m I1 J1 I' b w g ey h1 h2 => ?_)
  · rw [m159n (d + 11) y _ hp h]
    exact iv_same _ hi0
  · subst ey
    rw [m159k d _ h1, if_pos rfl]
    exact iv_same _ (gx_iv h1)
  · subst ey
    rw [m159k d _ h1, if_neg (by decide)]
    exact iv_same _ (gx_iv h1)
theorem c102 (d e : Nat) (y : Int32) (K : Option Value → tm_H → Prop) (hp : iv_p G I J R nw rp ch n oc pr tl fa ro dy rd) (h0 : ¬ tm_in y (nw + 1) → K (some (.int (-1))) (G, I, J, R)) (hN : ∀ q m I1 J1 I', y = nI q → gx e 0 G I1 I' J1 R nw rp ch n oc pr tl fa ro dy rd q m → K (some (.int (-1))) (G, I1, J1, R)) (hY : ∀ q m I1 J1 I' b w g, y = nI q → gx e 1 G I1 I' J1 R nw rp ch n oc pr tl fa ro dy rd q m → gy I1 I' J1 oc m b w g → K (some (.int (nI g))) (G, I1, J1, R)) : tm_R (d + 8) 102 [.ref 3, .int y] (G, I, J, R) K := by
  obtain ⟨hS, hR, -⟩ := hp.1
  rw [e102]
  simp only [r102_0, r102_1, r102_2, sh_3 hS, tm_in, or_true, true_or, tm_cs0, tm_cs1, tm_cs2, tm_cs3, tm_cs4, true_and, and_true, and_self, Option.toList_some, Option.toList_none, List.cons_append, List.nil_append, tm_rf_some, tm_rf_none]
  refine c110x d e y _ hp (fun h => ?_) (fun q m I1 J1 I' ey h1 => ?_) (fun q m I1 J1 I' b w g ey h1 h2 => ?_)
  · simp only [r102_5, r102_18, r102_19, if_true, tm_in, or_true, true_or, tm_cs0, tm_cs1, tm_cs2, tm_cs3, tm_cs4, true_and, and_true, and_self, Option.toList_some, Option.toList_none, List.cons_append, List.nil_append, tm_rf_some, tm_rf_none]
    exact h0 h
  · simp only [r102_5, r102_18, r102_19, if_true, tm_in, or_true, true_or, tm_cs0, tm_cs1, tm_cs2, tm_cs3, tm_cs4, true_and, and_true, and_self, Option.toList_some, Option.toList_none, List.cons_append, List.nil_append, tm_rf_some, tm_rf_none]
    exact hN q m I1 J1 I' ey h1
  · have hk := hY q m I1 J1 I' b w g ey h1 h2
    rw [h2.2.2.2] at hk
    simp only [r102_5, r102_8, r102_9, r102_12, r102_15, r102_18, r102_19, show ¬ (1 : Int32) = 0 by decide, if_false, sh_3 hS, sh_71 hS, rf_3_5 hR, c32 _ _ hS hR h2.2.1, tm_in, or_true, true_or, tm_cs0, tm_cs1, tm_cs2, tm_cs3, tm_cs4, true_and, and_true, and_self, Option.toList_some, Option.toList_none, List.cons_append, List.nil_append, tm_rf_some, tm_rf_none]
    exact hk
theorem m160n (d : Nat) (y : Int32) (K : Option Value → tm_H → Prop) (hp : iv_p G I J R nw rp ch n oc pr tl fa ro dy rd) (hy : ¬ tm_in y (nw + 1)) : tm_R (d + 3) 160 [.ref 89, .int y] (G, I, J, R) K ↔ K (some (.int (-1))) (G, I, J, R) := by
  have hS := hp.1.1
  have hd := iv_day hp.1 y
  rw [e160]
  simp only [r160_0, r160_1, r160_2, r160_3, r160_6, r160_9, r160_27, r160_28, sh_89 hS, m117, hd, hy, if_true, if_false, tm_in, or_true, true_or, tm_cs0, tm_cs1, tm_cs2, tm_cs3, tm_cs4, true_and, and_true, and_self, Option.toList_some, Option.toList_none, List.cons_append, List.nil_append, tm_rf_some, tm_rf_none]
theorem m160k (d : Nat) {fd : Int32} (K : Option Value → tm_H → Prop) (h : gx d fd G I I' J R nw rp ch n oc pr tl fa ro dy rd q m) : tm_R (d + 14) 160 [.ref 89, .int (nI q)] (G, I, J, R) K ↔ K (some (.int (if fd = 0 then -1 else I' 89 33))) (G, I', J, R) := by
  obtain ⟨h1, h2, h3, h4, h5, h6, h7⟩ := h
  have hS := h3.1
  have hd := iv_day h3 (nI q)
  have hin : tm_in (nI q) (nw + 1) := q_in (by omega) (by have := h3.2.2.2.1.1.2.2; omega)
  rw [e160]
  by_cases hf : fd = 0
  · simp only [r160_0, r160_1, r160_2, r160_3, r160_6, r160_9, r160_12, r160_13, r160_14, r160_17, r160_27, r160_28, sh_89 hS, m117, hd, hin, if_true, if_false, show ¬ (1 : Int32) = 0 by decide, h7, hf, tm_in, or_true, true_or, tm_cs0, tm_cs1, tm_cs2, tm_cs3, tm_cs4, true_and, and_true, and_self, Option.toList_some, Option.toList_none, List.cons_append, List.nil_append, tm_rf_some, tm_rf_none]
  · simp only [r160_0, r160_1, r160_2, r160_3, r160_6, r160_9, r160_12, r160_13, r160_14, r160_17, r160_20, r160_21, r160_24, r160_28, sh_89 hS, m117, hd, hin, if_true, if_false, show ¬ (1 : Int32) = 0 by decide, h7, hf, tm_in, or_true, true_or, tm_cs0, tm_cs1, tm_cs2, tm_cs3, tm_cs4, true_and, and_true, and_self, Option.toList_some, Option.toList_none, List.cons_append, List.nil_append, tm_rf_some, tm_rf_none]
theorem bo_groups (d : Nat) (y : Int32) (hi : iv (G, I, J, R)) : iv_both (d + 14) 102 160 [.int y] (G, I, J, R) := by
  have hi0 := hi
  obtain ⟨nw, rp, ch, n, oc, pr, tl, fa, ro, dy, rd, hp⟩ : ∃ (nw rp ch n oc pr : Nat) (tl fa ro dy rd : Nat → Nat), iv_p G I J R nw rp ch n oc pr tl fa ro dy rd := hi
  unfold iv_both
  refine c102 (d + 6) d y _ hp (fun h => ?_) (fun q m I1 J1 I' ey h1 => ?_) (fun q m I1 J1 I' b w g ey h1 h2 => ?_)
  · rw [m160n (d + 11) y _ hp h]
    exact iv_same _ hi0
  · subst ey
    rw [m160k d _ h1, if_pos rfl]
    exact iv_same _ (gx_iv h1)
  · subst ey
    rw [m160k d _ h1, if_neg (by decide), h2.1.2.2.2.1]
    exact iv_same _ (gx_iv h1)
end BGR
