/-! Calls on both that change numbers alone. -/
section ST1
variable {G : tm_G} {I I' : Nat → Nat → Int32} {J J' : Nat → Nat → Int64} {R : Nat → Nat → Option Nat} {nw rp ch n oc pr : Nat} {tl fa ro dy rd : Nat → Nat}
theorem iv_keep (hi : iv_p G I J R nw rp ch n oc pr tl fa ro dy rd) (e : ∀ b k, b ≠ 3 → b ≠ 9 → b ≠ 89 → b ≠ 4 → b ≠ 5 → b ≠ 90 → ¬ scr b k → I' b k = I b k) (hJ : J' 71 4 = J 71 4) {nw' n' oc' pr' : Nat} (hnw : nw ≤ nw') (hsc : iv_sc I' nw' rp ch n' oc' pr') (htp : iv_tp I' n') (h10 : I' 3 10 = I 3 10) (h11 : I' 3 11 = 0 ∨ (I' 3 11 = I 3 11 ∧ oc' = oc)) (h12 : I' 3 12 = 0 ∨ (I' 3 12 = I 3 12 ∧ pr' = pr)) : iv_p G I' J' R nw' rp ch n' oc' pr' tl fa ro dy rd := by
  have er : ∀ b, (b < 3 ∨ (10 ≤ b ∧ b < 60) ∨ (71 ≤ b ∧ b ≤ 77) ∨ b = 88 ∨ (94 ≤ b ∧ b ≤ 103) ∨ b = 106 ∨ 112 ≤ b) → I' b = I b := fun b h => by
    funext k
    exact e b k (by omega) (by omega) (by omega) (by omega) (by omega) (by omega) (scr_no (by omega) k)
  obtain ⟨⟨b1, b2, b3, b4, b5, b6, b7, b8, b9, b10⟩, hc⟩ := hi
  have fe : ∀ j, j < rp + ch → I' (fa j) = I (fa j) ∧ I' (fa j + 1) = I (fa j + 1) ∧ I' (fa j + 2) = I (fa j + 2) := fun j hj => by
    obtain ⟨-, -, -, -, -, t6⟩ := b7.1 j hj
    exact ⟨er _ (by omega), er _ (by omega), er _ (by omega)⟩
  refine ⟨⟨b1, b2, ?_, hsc, htp, ?_, ?_, ?_, ?_, b10⟩, ?_⟩
  · unfold tp_C
    rw [er 1 (by omega), er 2 (by omega)]
    exact b3
  · intro a b ha hb
    rw [er (48 + 1 * a) (by omega), er 106 (by omega)]
    exact b6 a b ha hb
  · exact iv_rows_congr (fun b h1 h2 => er b (by omega)) (er 11 (by omega)) (er 12 (by omega)) (er 13 (by omega)) (fun b h => er b (by omega)) b7
  · unfold iv_days
    rw [er 94 (by omega), er 95 (by omega), er 103 (by omega)]
    obtain ⟨d1, d2, d3⟩ := b8
    refine ⟨fun j hj => ?_, fun r hr => ?_, d3⟩
    · obtain ⟨a1, a2, a3, a4, a5⟩ := d1 j hj
      exact ⟨a1, a2, a3, a4, by omega⟩
    · obtain ⟨a1, a2, a3⟩ := d2 r hr
      exact ⟨a1, by omega, a3⟩
  · unfold iv_low
    rw [er 74 (by omega)]
    exact b9
  · rw [h10]
    rcases hc with z | ⟨q, m, hq, z1, z2, z3, z4⟩
    · exact Or.inl z
    · have hm : m ≤ 10 := Nat.le_trans z2.1 b4.2.1.2.2
      refine Or.inr ⟨q, m, by omega, by rw [h10]; exact z1, iv_kn_congr (fun b h1 h2 => er b (by omega)) (fun b h1 h2 => er b (by omega)) fe z2, ?_, ?_⟩
      · rcases h11 with y | ⟨y, rfl⟩
        · exact Or.inl y
        · rw [y]
          exact z3.imp id (fun w => ⟨w.1, iv_gr_congr (fun b h1 h2 => er b (by omega)) (er 71 (by omega)) (er 75 (by omega)) hJ hm w.2⟩)
      · rcases h12 with y | ⟨y, rfl⟩
        · exact Or.inl y
        · rw [y]
          exact z4.imp id (fun w => ⟨w.1, iv_fs_congr (fun b h1 h2 => er b (by omega)) (er 76 (by omega)) (er 88 (by omega)) hm w.2⟩)
theorem iv_same (x : Int32) {h : tm_H} (hi : iv h) : (∃ y, some (Value.int x) = some (.int y) ∧ some (Value.int x) = some (.int y)) ∧ iv h := ⟨⟨x, rfl, rfl⟩, hi⟩
theorem q_le1000 {x : Int32} {a : Nat} (hx : 0 ≤ x ∧ x ≤ 1000) (ha : a ≤ 1000) : ∃ y, y ≤ 1000 ∧ x = nI y ∧ nI a + x = nI (a + y) ∧ (nI a + x ≤ 1000 ↔ a + y ≤ 1000) := by
  have h := q_of ((q_inI2 (x := x) (N := 1000) (n := 1000) rfl (by decide)).mp hx)
  generalize tm_ix x = y at h
  obtain ⟨rfl, hy⟩ := h
  refine ⟨y, by omega, rfl, nI_add a y, ?_⟩
  rw [nI_add]
  exact q_le (b := 1000) rfl rfl (by omega) (by decide)
theorem bo_days (d : Nat) (v : Int32) (hi : iv (G, I, J, R)) : iv_both (d + 1) 86 118 [.int v] (G, I, J, R) := by
  have hi0 := hi
  obtain ⟨nw, rp, ch, n, oc, pr, tl, fa, ro, dy, rd, hp⟩ : ∃ (nw rp ch n oc pr : Nat) (tl fa ro dy rd : Nat → Nat), iv_p G I J R nw rp ch n oc pr tl fa ro dy rd := hi
  obtain ⟨s1, s2, s3, s4, s5, s6, s7⟩ := hp.1.2.2.2.1
  have hS := hp.1.1
  have ht := hp.1.2.2.2.2.1
  unfold iv_both
  rw [c86 _ _ _ hS]
  by_cases h1 : 0 ≤ v ∧ v ≤ 1000
  · obtain ⟨y, hy, rfl, e1, e2⟩ := q_le1000 h1 s1.2.2
    by_cases h2 : nw + y ≤ 1000
    · have c1 : 0 ≤ nI y ∧ nI y ≤ 1000 ∧ I 3 7 + nI y ≤ 1000 := ⟨h1.1, h1.2, by rw [s1.1]; exact e2.mpr h2⟩
      rw [if_pos c1, m118 _ _ _ hS, up2_row (by decide)]
      have c2 : 0 ≤ nI y ∧ nI y ≤ 1000 ∧ I 89 0 + nI y ≤ 1000 := ⟨h1.1, h1.2, by rw [s1.2.1]; exact e2.mpr h2⟩
      rw [if_pos c2, s1.1, s1.2.1, e1]
      refine iv_same _ ⟨nw + y, rp, ch, n, oc, pr, tl, fa, ro, dy, rd, iv_keep hp (fun b k h3 h9 h89 h4 _ _ _ => ?_) rfl (by omega) ?_ ?_ ?_ (Or.inr ⟨?_, rfl⟩) (Or.inr ⟨?_, rfl⟩)⟩
      · show up2 (up2 I 3 7 _) 89 0 _ b k = I b k
        rw [up2_row h89, up2_row h3]
      · simp [iv_sc, up2, s1, s2, s3, s4, s5, s6, s7, h2]
      · intro p hp2
        simp [up2]
        exact ht p hp2
      · simp [up2]
      · simp [up2]
      · simp [up2]
    · have c1 : ¬ (0 ≤ nI y ∧ nI y ≤ 1000 ∧ I 3 7 + nI y ≤ 1000) := fun z => h2 (e2.mp (by rw [← s1.1]; exact z.2.2))
      have c2 : ¬ (0 ≤ nI y ∧ nI y ≤ 1000 ∧ I 89 0 + nI y ≤ 1000) := fun z => h2 (e2.mp (by rw [← s1.2.1]; exact z.2.2))
      rw [if_neg c1, m118 _ _ _ hS, if_neg c2]
      exact iv_same _ hi0
  · have c1 : ∀ z : Int32, ¬ (0 ≤ v ∧ v ≤ 1000 ∧ z + v ≤ 1000) := fun z y => h1 ⟨y.1, y.2.1⟩
    rw [if_neg (c1 _), m118 _ _ _ hS, if_neg (c1 _)]
    exact iv_same _ hi0
theorem bo_opens (d : Nat) (v : Int32) (hi : iv (G, I, J, R)) : iv_both (d + 1) 94 147 [.int v] (G, I, J, R) := by
  have hi0 := hi
  obtain ⟨nw, rp, ch, n, oc, pr, tl, fa, ro, dy, rd, hp⟩ : ∃ (nw rp ch n oc pr : Nat) (tl fa ro dy rd : Nat → Nat), iv_p G I J R nw rp ch n oc pr tl fa ro dy rd := hi
  obtain ⟨s1, s2, s3, s4, s5, s6, s7⟩ := hp.1.2.2.2.1
  have hS := hp.1.1
  have ht := hp.1.2.2.2.2.1
  unfold iv_both
  rw [c94 _ _ _ hS]
  by_cases h1 : 0 ≤ v ∧ v ≤ 100
  · rw [if_pos h1, m147 _ _ _ hS, if_pos h1]
    have h := q_of ((q_inI2 (x := v) (N := 100) (n := 100) rfl (by decide)).mp h1)
    generalize tm_ix v = y at h
    obtain ⟨rfl, hy⟩ := h
    refine iv_same _ ⟨nw, rp, ch, n, y, pr, tl, fa, ro, dy, rd, iv_keep hp (fun b k h3 h9 h89 h4 _ _ _ => ?_) rfl (Nat.le_refl _) ?_ ?_ ?_ (Or.inl ?_) (Or.inr ⟨?_, rfl⟩)⟩
    · show up2 (up2 (up2 I 3 8 _) 3 11 0) 89 3 _ b k = I b k
      rw [up2_row h89, up2_row h3, up2_row h3]
    · have : y ≤ 100 := by omega
      simp [iv_sc, up2, s1, s2, s3, s4, s5, s6, s7, this]
    · intro p hp2
      simp [up2]
      exact ht p hp2
    · simp [up2]
    · simp [up2]
    · simp [up2]
  · rw [if_neg h1, m147 _ _ _ hS, if_neg h1]
    exact iv_same _ hi0
theorem bo_price (d : Nat) (v : Int32) (hi : iv (G, I, J, R)) : iv_both (d + 1) 95 148 [.int v] (G, I, J, R) := by
  have hi0 := hi
  obtain ⟨nw, rp, ch, n, oc, pr, tl, fa, ro, dy, rd, hp⟩ : ∃ (nw rp ch n oc pr : Nat) (tl fa ro dy rd : Nat → Nat), iv_p G I J R nw rp ch n oc pr tl fa ro dy rd := hi
  obtain ⟨s1, s2, s3, s4, s5, s6, s7⟩ := hp.1.2.2.2.1
  have hS := hp.1.1
  have ht := hp.1.2.2.2.2.1
  unfold iv_both
  rw [c95 _ _ _ hS]
  by_cases h1 : 0 ≤ v ∧ v ≤ 50
  · rw [if_pos h1, m148 _ _ _ hS, if_pos h1]
    have h := q_of ((q_inI2 (x := v) (N := 50) (n := 50) rfl (by decide)).mp h1)
    generalize tm_ix v = y at h
    obtain ⟨rfl, hy⟩ := h
    refine iv_same _ ⟨nw, rp, ch, n, oc, y, tl, fa, ro, dy, rd, iv_keep hp (fun b k h3 h9 h89 h4 _ _ _ => ?_) rfl (Nat.le_refl _) ?_ ?_ ?_ (Or.inr ⟨?_, rfl⟩) (Or.inl ?_)⟩
    · show up2 (up2 (up2 I 3 9 _) 3 12 0) 89 4 _ b k = I b k
      rw [up2_row h89, up2_row h3, up2_row h3]
    · have : y ≤ 50 := by omega
      simp [iv_sc, up2, s1, s2, s3, s4, s5, s6, s7, this]
    · intro p hp2
      simp [up2]
      exact ht p hp2
    · simp [up2]
    · simp [up2]
    · simp [up2]
  · rw [if_neg h1, m148 _ _ _ hS, if_neg h1]
    exact iv_same _ hi0
theorem bo_end (d : Nat) (v : Int32) (hi : iv (G, I, J, R)) : iv_both (d + 1) 88 121 [.int v] (G, I, J, R) := by
  have hi0 := hi
  obtain ⟨nw, rp, ch, n, oc, pr, tl, fa, ro, dy, rd, hp⟩ : ∃ (nw rp ch n oc pr : Nat) (tl fa ro dy rd : Nat → Nat), iv_p G I J R nw rp ch n oc pr tl fa ro dy rd := hi
  obtain ⟨s1, s2, s3, s4, s5, s6, s7⟩ := hp.1.2.2.2.1
  have hS := hp.1.1
  have hR := hp.1.2.1
  have ht := hp.1.2.2.2.2.1
  unfold iv_both
  rw [c88 _ _ _ hS hR]
  by_cases h1 : 0 ≤ v ∧ v ≤ I 4 1
  · have h2 : 0 ≤ v ∧ v ≤ up2 I 4 1 v 89 6 := by
      rw [up2_row (by decide), s5.2.1, ← s5.1]
      exact h1
    rw [if_pos h1, m121 _ _ _ hS, if_pos h2]
    have h := q_of ((q_inI2 (x := v) (N := I 4 1) (n := n) s5.1 (by omega)).mp h1)
    generalize tm_ix v = y at h
    obtain ⟨rfl, hy⟩ := h
    refine iv_same _ ⟨nw, rp, ch, y, oc, pr, tl, fa, ro, dy, rd, iv_keep hp (fun b k h3 h9 h89 h4 _ _ _ => ?_) rfl (Nat.le_refl _) ?_ ?_ ?_ (Or.inr ⟨?_, rfl⟩) (Or.inr ⟨?_, rfl⟩)⟩
    · show up2 (up2 I 4 1 _) 89 6 _ b k = I b k
      rw [up2_row h89, up2_row h4]
    · have : y ≤ 100 := by omega
      simp [iv_sc, up2, s1, s2, s3, s4, s5, s6, s7, this]
    · intro p hp2
      simp [up2]
      exact ht p (by omega)
    · simp [up2]
    · simp [up2]
    · simp [up2]
  · have h2 : ¬ (0 ≤ v ∧ v ≤ I 89 6) := by
      rw [s5.2.1, ← s5.1]
      exact h1
    rw [if_neg h1, m121 _ _ _ hS, if_neg h2]
    exact iv_same _ hi0
theorem p_st_b {f : Nat → Int32} : ∀ (k i : Nat) (D D' : (Nat → Int32) × Nat), D.2 = D'.2 → (∀ p, p < D.2 → D.1 p = D'.1 p ∧ D'.1 p ≠ 0) → ∀ p, p < (p_app f k i D).2 → (p_app f k i D).1 p = (p_app f k i D').1 p ∧ (p_app f k i D').1 p ≠ 0
  | 0, _, _, _, _, h => h
  | k + 1, i, D, D', e, h => by
    rw [p_app, p_app]
    refine p_st_b k (i + 1) _ _ ?_ ?_
    · unfold p_st
      split
      · exact e
      · exact congrArg (· + 1) e
    · unfold p_st
      split
      · exact h
      · rename_i hne
        intro p hp
        have hp' : p < D.2 + 1 := hp
        show p_upf D.1 D.2 (f i) p = p_upf D'.1 D'.2 (f i) p ∧ p_upf D'.1 D'.2 (f i) p ≠ 0
        rw [← e]
        unfold p_upf
        by_cases hh : p = D.2
        · rw [if_pos hh, if_pos hh]
          exact ⟨rfl, hne⟩
        · rw [if_neg hh, if_neg hh]
          exact h p (by omega)
theorem feed_iv (hp : iv_p G I J R nw rp ch n oc pr tl fa ro dy rd) {A B : (Nat → Int32) × Nat} (hA : A.2 ≤ 100) (hb : ∀ p, p < A.2 → A.1 p = B.1 p ∧ B.1 p ≠ 0) : iv (G, tp_w (tp_w I 5 4 1 A.1 A.2) 90 89 6 B.1 A.2, J, R) := by
  obtain ⟨s1, s2, s3, s4, s5, s6, s7⟩ := hp.1.2.2.2.1
  refine ⟨nw, rp, ch, A.2, oc, pr, tl, fa, ro, dy, rd, iv_keep hp (fun b k h3 h9 h89 h4 h5 h90 _ => ?_) rfl (Nat.le_refl _) ?_ ?_ ?_ (Or.inr ⟨?_, rfl⟩) (Or.inr ⟨?_, rfl⟩)⟩
  · show tp_w (tp_w I 5 4 1 A.1 A.2) 90 89 6 B.1 A.2 b k = I b k
    rw [tw_o h90 h89, tw_o h5 h4]
  · simp [iv_sc, tp_w, s1, s2, s3, s4, s5, s6, s7, hA]
  · intro p hp2
    simp [tp_w]
    exact hb p hp2
  · simp [tp_w]
  · simp [tp_w]
  · simp [tp_w]
theorem bo_feed (d : Nat) (x0 x1 x2 x3 x4 : Int32) (hi : iv (G, I, J, R)) : iv_both (d + 2) 87 120 [.int x0, .int x1, .int x2, .int x3, .int x4] (G, I, J, R) := by
  have hi0 := hi
  obtain ⟨nw, rp, ch, n, oc, pr, tl, fa, ro, dy, rd, hp⟩ : ∃ (nw rp ch n oc pr : Nat) (tl fa ro dy rd : Nat → Nat), iv_p G I J R nw rp ch n oc pr tl fa ro dy rd := hi
  obtain ⟨s1, s2, s3, s4, s5, s6, s7⟩ := hp.1.2.2.2.1
  have hS := hp.1.1
  have hR := hp.1.2.1
  have ht : ∀ p, p < n → I 5 p = I 90 p ∧ I 90 p ≠ 0 := hp.1.2.2.2.2.1
  obtain ⟨f, hf⟩ : ∃ f, f = p_20 x0 x1 x2 x3 x4 := ⟨_, rfl⟩
  have hc := c87 (G := G) (I := I) (J := J) (R := R) d x0 x1 x2 x3 x4 (fun r h1 => tm_R (d + 2) 120 [.ref 89, .int x0, .int x1, .int x2, .int x3, .int x4] h1 (fun r' h2 => (∃ x, r = some (.int x) ∧ r' = some (.int x)) ∧ iv h2)) hS hR rfl s5.1 s5.2.2
  rw [← hf] at hc
  have hm := fun (I1 : Nat → Nat → Int32) (e1 : I1 90 = I 90) (e2 : I1 89 6 = nI n) (K : Option Value → tm_H → Prop) => m120 (G := G) (I := I1) (J := J) (R := R) (d + 1) x0 x1 x2 x3 x4 K hS hR e1 e2 s5.2.2
  rw [← hf] at hm
  have hn1 := p_app_n f 20 0 (I 5, n)
  have hn2 := p_app_n f 20 0 (I 90, n)
  have hb := p_st_b (f := f) 20 0 (I 5, n) (I 90, n) rfl ht
  obtain ⟨A, hA⟩ : ∃ A, A = p_app f 20 0 (I 5, n) := ⟨_, rfl⟩
  obtain ⟨B, hB⟩ : ∃ B, B = p_app f 20 0 (I 90, n) := ⟨_, rfl⟩
  obtain ⟨z, hz⟩ : ∃ z, z = p_nz f 20 0 := ⟨_, rfl⟩
  rw [← hA, ← hz] at hn1
  rw [← hB, ← hz] at hn2
  rw [← hA, ← hB] at hb
  rw [← hA, ← hz] at hc
  simp only [← hB, ← hz] at hm
  show tm_R (d + 2) 87 (.ref 3 :: [.int x0, .int x1, .int x2, .int x3, .int x4]) (G, I, J, R) _
  refine hc.mpr ?_
  by_cases h1 : n + z ≤ 100
  · rw [if_pos h1, hm _ (tw_o (by decide) (by decide)) (by rw [tw_o (by decide) (by decide)]; exact s5.2.1), if_pos h1]
    have e3 : B.2 = A.2 := by rw [hn1, hn2]
    rw [e3]
    exact iv_same _ (feed_iv hp (by rw [hn1]; exact h1) hb)
  · rw [if_neg h1, hm _ rfl s5.2.1, if_neg h1]
    exact iv_same _ hi0
theorem p_pk_eq {b b' : Nat → Int32} {n : Nat} (h : ∀ p, p < n → b p = b' p) : p_pk b n = p_pk b' n := by
  funext p
  unfold p_pk
  by_cases hp : p < n
  · rw [if_pos hp, if_pos hp, h p hp]
  · rw [if_neg hp, if_neg hp]
theorem p_read_eq {b b' : Nat → Int32} {n : Nat} (h : ∀ p, p < n → b p = b' p) (u : Int32) (v w : Nat → Int32) : p_read b n u v w = p_read b' n u v w := by
  unfold p_read
  rw [p_pk_eq h]
theorem scr_dr {D : p_D} {b k : Nat} (h : ¬ scr b k) : tp_dr I D b k = I b k := by
  unfold tp_dr
  unfold scr at h
  rw [if_neg (by omega), if_neg (by omega), if_neg (by omega), if_neg (by omega), if_neg (by omega)]
theorem scr_mr {M : p_M} {b k : Nat} (h : ¬ scr b k) : tp_mr I M b k = I b k := by
  unfold scr at h
  by_cases h9 : b = 89
  · subst h9
    exact mr_o9 (by omega)
  · rw [mr_o h9 (by omega)]
theorem bo_fault (d : Nat) (hi : iv (G, I, J, R)) : iv_both (d + 5) 89 131 [] (G, I, J, R) := by
  have hi0 := hi
  obtain ⟨nw, rp, ch, n, oc, pr, tl, fa, ro, dy, rd, hp⟩ : ∃ (nw rp ch n oc pr : Nat) (tl fa ro dy rd : Nat → Nat), iv_p G I J R nw rp ch n oc pr tl fa ro dy rd := hi
  obtain ⟨s1, s2, s3, s4, s5, s6, s7⟩ := hp.1.2.2.2.1
  have hS := hp.1.1
  have hR := hp.1.2.1
  have hC := hp.1.2.2.1
  have ht := hp.1.2.2.2.2.1
  unfold iv_both
  rw [c89 d _ hS hR hC s5.1 s5.2.2]
  have e90 : ∀ D, tp_dr I D 90 = I 90 := fun D => dr_o (by decide) (by omega)
  have e89 : ∀ D, tp_dr I D 89 = I 89 := fun D => dr_o (by decide) (by omega)
  refine m131 (d + 2) _ hS hR (n := n) (by rw [e89]; exact s5.2.1) s5.2.2 (fun p hp2 => by rw [e90]; exact (ht p hp2).2) (I 6 1) (I 7) (I 8) (fun M' hM' => ?_)
  rw [e90, ← p_read_eq (fun p hp2 => (ht p hp2).1)]
  refine iv_same _ ⟨nw, rp, ch, n, oc, pr, tl, fa, ro, dy, rd, iv_scr hp (fun b k h => ?_) rfl⟩
  show tp_mr (tp_dr I _) M' b k = I b k
  rw [scr_mr h, scr_dr h]
end ST1
