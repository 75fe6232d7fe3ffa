/-! A denial, on both. -/
section BDN
variable {G G' : tm_G} {I I' X : Nat → Nat → Int32} {J J' : Nat → Nat → Int64} {R R' : Nat → Nat → Option Nat} {nw rp ch n oc pr : Nat} {tl fa ro dy rd : Nat → Nat}
theorem deny_iv (hp : iv_p G I J R nw rp ch n oc pr tl fa ro dy rd) {xr f : Nat} (hxr : xr < rp) (hf : f < 5) (hch : ch < 60) : iv ((G.1 + 1, G.2.1 + 4, upr G.2.2 G.1 (0, 8)), p_mden (up2 (up2 (up2 (up2 (up2 (up2 (upr I G.1 (fun _ => 0)) G.1 0 (nI xr)) G.1 1 (I 3 7)) G.1 2 ((1 : Int32) <<< (nI f &&& 31))) 9 2 (nI (rp + ch + 1))) 9 4 (nI (ch + 1))) 3 10 (-1)) ch (rp + ch) (nI xr) (nI f), upr J G.1 (fun _ => 0), up2 (up2 (upr R G.1 (fun _ => none)) G.1 3 (some 11)) 10 (rp + ch) (some G.1)) := by
  obtain ⟨⟨b1, b2, b3, b4, b5, b6, b7, b8, b9, b10⟩, -⟩ := hp
  have hG := b1.1
  obtain ⟨s1, s2, s3, s4, s5, s6, s7⟩ := b4
  generalize hI1 : up2 (up2 (up2 (up2 (up2 (up2 (upr I G.1 (fun _ => 0)) G.1 0 (nI xr)) G.1 1 (I 3 7)) G.1 2 ((1 : Int32) <<< (nI f &&& 31))) 9 2 (nI (rp + ch + 1))) 9 4 (nI (ch + 1))) 3 10 (-1) = I1
  have io : ∀ b k, b ≠ G.1 → b ≠ 3 → b ≠ 9 → I1 b k = I b k := fun b k h1 h3 h9 => by
    rw [← hI1, up2_row h3, up2_row h9, up2_row h9, up2_row h1, up2_row h1, up2_row h1, upr_ne h1]
  have mo : ∀ b k, b ≠ 89 → (b < 94 ∨ 97 < b) → p_mden I1 ch (rp + ch) (nI xr) (nI f) b k = I1 b k := fun b k h1 h2 => by
    unfold p_mden
    rw [up2_row (by omega), up2_row (by omega), up2_row (by omega), up2_row (by omega), up2_row h1, up2_row h1]
  have hn : ∀ b, b ≠ 89 → (b < 94 ∨ 97 < b) → b ≠ G.1 → b ≠ 3 → b ≠ 9 → p_mden I1 ch (rp + ch) (nI xr) (nI f) b = I b := fun b h1 h2 h3 h4 h5 => by
    funext k
    rw [mo b k h1 h2, io b k h3 h4 h5]
  have f94 : ∀ k, p_mden I1 ch (rp + ch) (nI xr) (nI f) 94 k = if k = rp + ch then nI xr else I 94 k := fun k => by
    unfold p_mden
    rw [up2_row (by decide), up2_row (by decide), up2_row (by decide)]
    by_cases e : k = rp + ch
    · subst e; rw [up2_at, if_pos rfl]
    · rw [up2_ne e, up2_row (by decide), up2_row (by decide), if_neg e, io 94 k (by omega) (by omega) (by omega)]
  have f95 : ∀ k, p_mden I1 ch (rp + ch) (nI xr) (nI f) 95 k = if k = rp + ch then nI nw else I 95 k := fun k => by
    unfold p_mden
    rw [up2_row (by decide), up2_row (by decide)]
    by_cases e : k = rp + ch
    · subst e; rw [up2_at, if_pos rfl, io 89 0 (by omega) (by omega) (by omega)]; exact s1.2.1
    · rw [up2_ne e, up2_row (by decide), up2_row (by decide), up2_row (by decide), if_neg e, io 95 k (by omega) (by omega) (by omega)]
  have f96 : ∀ k, p_mden I1 ch (rp + ch) (nI xr) (nI f) 96 k = if k = rp + ch then 0 else I 96 k := fun k => by
    unfold p_mden
    rw [up2_row (by decide)]
    by_cases e : k = rp + ch
    · subst e; rw [up2_at, if_pos rfl]
    · rw [up2_ne e, up2_row (by decide), up2_row (by decide), up2_row (by decide), up2_row (by decide), if_neg e, io 96 k (by omega) (by omega) (by omega)]
  have f97 : ∀ k, p_mden I1 ch (rp + ch) (nI xr) (nI f) 97 k = if k = rp + ch then nI f else I 97 k := fun k => by
    unfold p_mden
    by_cases e : k = rp + ch
    · subst e; rw [up2_at, if_pos rfl]
    · rw [up2_ne e, up2_row (by decide), up2_row (by decide), up2_row (by decide), up2_row (by decide), up2_row (by decide), if_neg e, io 97 k (by omega) (by omega) (by omega)]
  have g0 : p_mden I1 ch (rp + ch) (nI xr) (nI f) G.1 0 = nI xr := by
    rw [mo G.1 0 (by omega) (by omega), ← hI1, up2_row (by omega), up2_row (by omega), up2_row (by omega), up2_ne (by decide), up2_ne (by decide), up2_at]
  have g1 : p_mden I1 ch (rp + ch) (nI xr) (nI f) G.1 1 = nI nw := by
    rw [mo G.1 1 (by omega) (by omega), ← hI1, up2_row (by omega), up2_row (by omega), up2_row (by omega), up2_ne (by decide), up2_at]
    exact s1.1
  have g2 : p_mden I1 ch (rp + ch) (nI xr) (nI f) G.1 2 = (1 : Int32) <<< (nI f &&& 31) := by
    rw [mo G.1 2 (by omega) (by omega), ← hI1, up2_row (by omega), up2_row (by omega), up2_row (by omega), up2_at]
  have hS' : tp_S (G.1 + 1, G.2.1 + 4, upr G.2.2 G.1 (0, 8)) := tp_S_grow b1 (Nat.le_succ _) (fun a ha => upr_ne (by omega))
  have hR' : tp_R (up2 (up2 (upr R G.1 (fun _ => none)) G.1 3 (some 11)) 10 (rp + ch) (some G.1)) := tp_R_keep b2 (fun a k ha h10 => by rw [up2_row h10, up2_row (by omega), upr_ne (by omega)])
  refine ⟨nw, rp, ch + 1, n, oc, pr, (fun j => if j = rp + ch then G.1 else tl j), (fun j => if j = rp + ch then 11 else fa j), (fun j => if j = rp + ch then xr else ro j), (fun j => if j = rp + ch then nw else dy j), rd, ⟨hS', hR', ?_, ?_, ?_, ?_, ?_, ?_, ?_, ?_⟩, Or.inl ?_⟩
  · show tp_C (p_mden I1 ch (rp + ch) (nI xr) (nI f))
    unfold tp_C
    rw [hn 1 (by omega) (by omega) (by omega) (by omega) (by omega), hn 2 (by omega) (by omega) (by omega) (by omega) (by omega)]
    exact b3
  · show iv_sc (p_mden I1 ch (rp + ch) (nI xr) (nI f)) nw rp (ch + 1) n oc pr
    have j3 : ∀ k, k ≠ 10 → I1 3 k = I 3 k := fun k hk => by rw [← hI1, up2_ne hk, up2_row (by decide), up2_row (by decide), up2_row (by omega), up2_row (by omega), up2_row (by omega), upr_ne (by omega)]
    have j93 : I1 9 3 = nI rp := by
      rw [← hI1, up2_row (by decide), up2_ne (by decide), up2_ne (by decide), up2_row (by omega), up2_row (by omega), up2_row (by omega), upr_ne (by omega)]
      exact s2.1
    have j94 : I1 9 4 = nI (ch + 1) := by rw [← hI1, up2_row (by decide), up2_at]
    have j92 : I1 9 2 = nI (rp + ch + 1) := by rw [← hI1, up2_row (by decide), up2_ne (by decide), up2_at]
    have i89 : ∀ k, I1 89 k = I 89 k := fun k => io 89 k (by omega) (by omega) (by omega)
    have i41 : I1 4 1 = nI n := by rw [io 4 1 (by omega) (by omega) (by omega)]; exact s5.1
    simp only [iv_sc, p_mden, up2, j3 7 (by decide), j3 8 (by decide), j3 9 (by decide), j93, j94, j92, i41, i89, s1, s2, s3, s5, s6, s7, Nat.reduceEqDiff, if_true, if_false, false_and, and_false, and_self, true_and, nI_0, show rp + (ch + 1) = rp + ch + 1 by omega]
    simp
    omega
  · show iv_tp (p_mden I1 ch (rp + ch) (nI xr) (nI f)) n
    unfold iv_tp
    rw [hn 5 (by omega) (by omega) (by omega) (by omega) (by omega), hn 90 (by omega) (by omega) (by omega) (by omega) (by omega)]
    exact b5
  · show iv_hd (p_mden I1 ch (rp + ch) (nI xr) (nI f)) rp
    intro a b ha hb
    rw [hn (48 + 1 * a) (by omega) (by omega) (by omega) (by omega) (by omega), hn 106 (by omega) (by omega) (by omega) (by omega) (by omega)]
    exact b6 a b ha hb
  · show iv_rows (G.1 + 1, G.2.1 + 4, upr G.2.2 G.1 (0, 8)) (p_mden I1 ch (rp + ch) (nI xr) (nI f)) (up2 (up2 (upr R G.1 (fun _ => none)) G.1 3 (some 11)) 10 (rp + ch) (some G.1)) (rp + (ch + 1)) _ _
    obtain ⟨r1, r2, r3, r4, r5⟩ := b7
    refine ⟨fun j hj => ?_, fun j hj => ?_, fun j hj => ?_, by rw [hn 11 (by omega) (by omega) (by omega) (by omega) (by omega)]; exact r4, by rw [hn 12 (by omega) (by omega) (by omega) (by omega) (by omega)]; exact r5⟩
    · by_cases e : j = rp + ch
      · subst e
        simp only [if_true]
        refine ⟨up2_at, upr_at, hG, ?_, ⟨by decide, ?_, ?_, ?_, ?_, ?_⟩, Or.inl trivial⟩
        · rw [up2_row (by omega), up2_at]
        · show upr G.2.2 G.1 (0, 8) 11 = _
          rw [upr_ne (by omega)]; exact sh_11 b1
        · show upr G.2.2 G.1 (0, 8) 12 = _
          rw [upr_ne (by omega)]; exact sh_12 b1
        · show upr G.2.2 G.1 (0, 8) 13 = _
          rw [upr_ne (by omega)]; exact sh_13 b1
        · rw [up2_row (by decide), up2_row (by omega), upr_ne (by omega)]; exact rf_11_2 b2
        · rw [up2_row (by decide), up2_row (by omega), upr_ne (by omega)]; exact rf_11_3 b2
      · simp only [e, if_false]
        obtain ⟨u1, u2, u3, u4, u5, u6⟩ := r1 j (by omega)
        obtain ⟨v1, v2⟩ := r2 j (by omega)
        obtain ⟨w1, w2, w3, w4, w5, w6⟩ := u5
        refine ⟨by rw [up2_ne e, up2_row (by omega), upr_ne (by omega)]; exact u1, ?_, u3, by rw [up2_row (by omega), up2_row (by omega), upr_ne (by omega)]; exact u4, ⟨w1, ?_, ?_, ?_, by rw [up2_row (by omega), up2_row (by omega), upr_ne (by omega)]; exact w5, by rw [up2_row (by omega), up2_row (by omega), upr_ne (by omega)]; exact w6⟩, u6⟩
        · show upr G.2.2 G.1 (0, 8) (tl j) = _
          rw [upr_ne (by omega)]; exact u2
        · show upr G.2.2 G.1 (0, 8) (fa j) = _
          rw [upr_ne (by omega)]; exact w2
        · show upr G.2.2 G.1 (0, 8) (fa j + 1) = _
          rw [upr_ne (by omega)]; exact w3
        · show upr G.2.2 G.1 (0, 8) (fa j + 2) = _
          rw [upr_ne (by omega)]; exact w4
    · show _ < G.1 + 1 ∧ _ < G.1 + 1
      by_cases e : j = rp + ch
      · simp only [e, if_true]
        omega
      · simp only [e, if_false]
        have := r2 j (by omega)
        omega
    · by_cases e : j = rp + ch
      · subst e
        simp only [if_true]
        refine ⟨by rw [g0, f94, if_pos rfl], by rw [g1, f95, if_pos rfl], Or.inr ⟨by rw [f96, if_pos rfl], rfl, f, hf, by rw [f97, if_pos rfl], g2⟩⟩
      · simp only [e, if_false]
        obtain ⟨u1, u2, u3, u4, u5, u6⟩ := r1 j (by omega)
        obtain ⟨v1, v2⟩ := r2 j (by omega)
        refine iv_row_keep (r3 j (by omega)) (hn _ (by omega) (by omega) (by omega) (by omega) (by omega)) (hn _ (by omega) (by omega) (by omega) (by omega) (by omega)) (hn _ (by omega) (by omega) (by omega) (by omega) (by omega)) (hn _ (by omega) (by omega) (by omega) (by omega) (by omega)) (fun b hb => ?_) (fun g hg => ?_) (fun k hk => ?_) (fun k hk => ?_)
        · rcases hb with rfl | rfl | rfl | rfl | rfl | rfl
          · rw [f94, if_neg e]
          · rw [f95, if_neg e]
          · rw [f96, if_neg e]
          · rw [f97, if_neg e]
          · rw [hn 99 (by omega) (by omega) (by omega) (by omega) (by omega)]
          · rw [hn 100 (by omega) (by omega) (by omega) (by omega) (by omega)]
        · rw [hn 98 (by omega) (by omega) (by omega) (by omega) (by omega)]
        · rw [hn 101 (by omega) (by omega) (by omega) (by omega) (by omega)]
        · rw [hn 102 (by omega) (by omega) (by omega) (by omega) (by omega)]
  · show iv_days (p_mden I1 ch (rp + ch) (nI xr) (nI f)) nw rp (rp + (ch + 1)) _ _ rd
    obtain ⟨d1, d2, d3⟩ := b8
    refine ⟨fun j hj => ?_, fun r hr => ?_, d3⟩
    · by_cases e : j = rp + ch
      · subst e
        simp only [if_true]
        exact ⟨by rw [f94, if_pos rfl], hxr, by rw [f95, if_pos rfl], (d2 xr hxr).2.1, Nat.le_refl _⟩
      · simp only [e, if_false]
        obtain ⟨a1, a2, a3, a4, a5⟩ := d1 j (by omega)
        exact ⟨by rw [f94, if_neg e]; exact a1, a2, by rw [f95, if_neg e]; exact a3, a4, a5⟩
    · obtain ⟨a1, a2, j, a3, a4, a5⟩ := d2 r hr
      refine ⟨by rw [hn 103 (by omega) (by omega) (by omega) (by omega) (by omega)]; exact a1, a2, j, by omega, ?_, ?_⟩
      · show (if j = rp + ch then xr else ro j) = r
        rw [if_neg (by omega)]; exact a4
      · show (if j = rp + ch then nw else dy j) = rd r
        rw [if_neg (by omega)]; exact a5
  · show iv_low (p_mden I1 ch (rp + ch) (nI xr) (nI f))
    unfold iv_low
    rw [hn 74 (by omega) (by omega) (by omega) (by omega) (by omega)]
    exact b9
  · show iv_room (G.1 + 1, G.2.1 + 4, upr G.2.2 G.1 (0, 8)) (rp + (ch + 1))
    unfold iv_room at b10 ⊢
    show G.1 + 1 ≤ _ ∧ G.2.1 + 4 ≤ _
    omega
  · show p_mden I1 ch (rp + ch) (nI xr) (nI f) 3 10 = -1
    rw [mo 3 10 (by decide) (by omega), ← hI1, up2_at]
theorem bo_deny (d : Nat) (x f : Int32) (hi : iv (G, I, J, R)) : iv_both (d + 3) 92 136 [.int x, .int f] (G, I, J, R) := by
  have hi0 := hi
  obtain ⟨nw, rp, ch, n, oc, pr, tl, fa, ro, dy, rd, hp⟩ : ∃ (nw rp ch n oc pr : Nat) (tl fa ro dy rd : Nat → Nat), iv_p G I J R nw rp ch n oc pr tl fa ro dy rd := hi
  obtain ⟨s1, s2, s3, s4, s5, s6, s7⟩ := hp.1.2.2.2.1
  have hS := hp.1.1
  have hR := hp.1.2.1
  have hG := hS.1
  unfold iv_both
  rw [c92 d x f _ hS hR s2.1 s2.2.2 s3.1 s3.2.2 s4.1 (fun h => by omega)]
  by_cases h : (tm_in x rp ∧ ch < 60) ∧ tm_in f 5
  · rw [if_pos h]
    have hS' : tp_S (G.1 + 1, G.2.1 + 4, upr G.2.2 G.1 (0, 8)) := tp_S_grow hS (Nat.le_succ _) (fun a ha => upr_ne (by omega))
    have hR' : tp_R (up2 (up2 (upr R G.1 (fun _ => none)) G.1 3 (some 11)) 10 (rp + ch) (some G.1)) := tp_R_keep hR (fun a k ha h10 => by rw [up2_row h10, up2_row (by omega), upr_ne (by omega)])
    have i89 : ∀ (u1 u2 u3 u4 u5 u6 : Int32) (k : Nat), (up2 (up2 (up2 (up2 (up2 (up2 (upr I G.1 (fun _ => 0)) G.1 0 u1) G.1 1 u2) G.1 2 u3) 9 2 u4) 9 4 u5) 3 10 u6) 89 k = I 89 k := fun u1 u2 u3 u4 u5 u6 k => by
      rw [up2_row (by decide), up2_row (by decide), up2_row (by decide), up2_row (by omega), up2_row (by omega), up2_row (by omega), upr_ne (by omega)]
    rw [m136 (d + 1) x f _ hS' hR' (by rw [i89]; exact s2.2.1) s2.2.2 (by rw [i89]; exact s3.2.1) s3.2.2 (by rw [i89]; exact s4.2) (fun h => by omega), if_pos h]
    obtain ⟨⟨h1, h2⟩, h3⟩ := h
    have q1 := q_of h1
    have q2 := q_of h3
    generalize tm_ix x = xr at q1
    generalize tm_ix f = fr at q2
    obtain ⟨rfl, l1⟩ := q1
    obtain ⟨rfl, l2⟩ := q2
    exact iv_same _ (deny_iv hp l1 l2 h2)
  · rw [if_neg h, m136 (d + 1) x f _ hS hR s2.2.1 s2.2.2 s3.2.1 s3.2.2 s4.2 (fun h => by omega), if_neg h]
    exact iv_same _ hi0
end BDN
