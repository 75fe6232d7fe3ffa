/-! Telling a text or a denial, on both: what holds behind it. -/
theorem p_dm_congr {D D' : p_D} {M M' : p_M} (hD : p_dm D M) (d1 : D'.2.1 = D.2.1) (d2 : D'.2.2.1 = D.2.2.1) (d3 : ∀ f, f < 5 → D'.2.2.2.1 f = D.2.2.2.1 f) (d4 : ∀ t, t < 3 → D'.2.2.2.2 t = D.2.2.2.2 t) (m1 : M'.1 = M.1) (m2 : M'.2.1 = M.2.1) (m3 : M'.2.2.1 = M.2.2.1) (m4 : ∀ f, f < 5 → M'.2.2.2.2.1 f = M.2.2.2.2.1 f) (m5 : ∀ k, k < 18 → M'.2.2.2.2.2.1 k = M.2.2.2.2.2.1 k) (m6 : ∀ t, t < 3 → M'.2.2.2.2.2.2 t = M.2.2.2.2.2.2 t) : p_dm D' M' := by
  obtain ⟨a1, a2, a3, a4, a5, a6⟩ := hD
  refine ⟨by rw [d1, m1]; exact a1, fun f hf h3 ht => ?_, fun ht => ?_, fun ht => ?_, fun ht => ?_, fun k h1 h2 => by rw [d1]; exact a6 k h1 h2⟩
  · rw [d1] at ht
    rw [d3 f hf, m4 f hf]
    exact a2 f hf h3 ht
  · rw [d1] at ht
    rw [d2, m3]
    exact a3 ht
  · rw [d1] at ht
    obtain ⟨c, c1, c2, c3, c4, c5⟩ := a4 ht
    refine ⟨c, c1, c2, by rw [d3 3 (by decide)]; exact c3, by rw [m2]; exact c4, fun t h => ?_⟩
    rw [d4 t (by omega), m6 t (by omega)]
    exact p_nr_congr (c5 t h) (fun s hs => m5 (6 * t + s) (by omega))
  · rw [d1] at ht
    rw [d3 3 (by decide), m2]
    exact a5 ht
theorem and31 {x : Int32} (h : ∀ k, 5 ≤ k → k < 32 → tb x k = false) : x &&& 31 = x := by
  apply tb_ext
  intro k hk
  rw [tb_and]
  have : tb (31 : Int32) k = decide (k < 5) := (by decide +kernel : ∀ k, k < 32 → tb (31 : Int32) k = decide (k < 5)) k hk
  rw [this]
  by_cases h5 : k < 5
  · simp [h5]
  · rw [h k (by omega) hk]
    simp
theorem iv_row_keep {I I2 : Nat → Nat → Int32} {T F j : Nat} (h : iv_row I T F j) (e1 : I2 T = I T) (e2 : I2 F = I F) (e3 : I2 (F + 1) = I (F + 1)) (e4 : I2 (F + 2) = I (F + 2)) (r : ∀ b, b = 94 ∨ b = 95 ∨ b = 96 ∨ b = 97 ∨ b = 99 ∨ b = 100 → I2 b j = I b j) (r98 : ∀ f, f < 5 → I2 98 (5 * j + f) = I 98 (5 * j + f)) (r101 : ∀ k, k < 18 → I2 101 (18 * j + k) = I 101 (18 * j + k)) (r102 : ∀ k, k < 3 → I2 102 (3 * j + k) = I 102 (3 * j + k)) : iv_row I2 T F j := by
  obtain ⟨h1, h2, h3⟩ := h
  unfold iv_row
  rw [e1, r 94 (by omega), r 95 (by omega), r 96 (by omega), r 97 (by omega)]
  refine ⟨h1, h2, h3.imp (fun z => ⟨z.1, z.2.1, ?_⟩) id⟩
  refine p_dm_congr z.2.2 ?_ ?_ (fun f hf => ?_) (fun t ht => ?_) ?_ ?_ ?_ r98 r101 r102
  · show I2 F 0 = I F 0; rw [e2]
  · show I2 F 1 = I F 1; rw [e2]
  · show I2 (F + 1) f = I (F + 1) f; rw [e3]
  · show I2 (F + 2) t = I (F + 2) t; rw [e4]
  · exact r 96 (by omega)
  · exact r 100 (by omega)
  · exact r 99 (by omega)
section PTS
variable {G G' : tm_G} {I I' X : Nat → Nat → Int32} {J J' : Nat → Nat → Int64} {R R' : Nat → Nat → Option Nat} {nw rp ch n oc pr : Nat} {tl fa ro dy rd : Nat → Nat}
theorem tell_iv (hp : iv_p G I J R nw rp ch n oc pr tl fa ro dy rd) {D : p_D} {M : p_M} (hD : p_dm D M) {c xr : Nat} (hc : c = rp + ch) (hc70 : c < 70) (ht : p_text G G' (tp_dr I D) I' J J' R R' (nI xr) (I 3 7) c)
    (x1 : ∀ b k, b < 112 → b ≠ 3 → b ≠ 4 → b ≠ 9 → b ≠ 89 → b ≠ 103 → ¬ scr b k → X b k = I b k) (x2 : ∀ b, 112 ≤ b → X b = I' b) (x0 : X 89 0 = nI nw) (x7 : X 89 7 = M.1) (x8 : X 89 8 = M.2.1) (x10 : X 89 10 = M.2.2.1) (x91 : X 91 = M.2.2.2.2.1) (x92 : X 92 = M.2.2.2.2.2.1) (x93 : X 93 = M.2.2.2.2.2.2)
    {rp' ch' : Nat} (hc' : rp' + ch' = c + 1) (hrp' : rp ≤ rp') {rd' : Nat → Nat} (hsc : iv_sc (p_tell X c (nI xr)) nw rp' ch' 0 oc pr) (h10 : X 3 10 = -1) (hxr : xr < rp') (hrd1 : ∀ r, r < rp → rd' r = rd r) (hrd2 : rd' xr ≤ nw) (hrd3 : ∀ r, rp ≤ r → r < rp' → r = xr ∧ rd' r = nw) (h103 : ∀ r, r < rp' → X 103 r = nI (rd' r)) : iv (G', p_tell X c (nI xr), J', R') := by
  obtain ⟨⟨b1, b2, b3, b4, b5, b6, b7, b8, b9, b10⟩, -⟩ := hp
  have hSR := p_text_S b1 b2 ht
  have hG := b1.1
  obtain ⟨t1, t2, t3, t4, t5, t6, t7, t8, t9, t10, t11, t12, t13, t14, t15, t16, t17, t18, t19, t20, t21, t22⟩ := ht
  have tn : ∀ b, ¬ (b = 89 ∨ (94 ≤ b ∧ b ≤ 102)) → p_tell X c (nI xr) b = X b := fun b hb => by
    funext k
    unfold p_tell
    rw [if_neg (by omega), if_neg (by omega), if_neg (by omega), if_neg (by omega), if_neg (by omega), if_neg (by omega), if_neg (by omega), if_neg (by omega), if_neg (by omega), if_neg (by omega)]
  have hn : ∀ b, (b < 3 ∨ (10 ≤ b ∧ b < 60) ∨ (71 ≤ b ∧ b ≤ 77) ∨ b = 88 ∨ b = 106) → p_tell X c (nI xr) b = I b := fun b hb => by
    rw [tn b (by omega)]
    funext k
    exact x1 b k (by omega) (by omega) (by omega) (by omega) (by omega) (by omega) (scr_no (by omega) k)
  have hold : ∀ b, 112 ≤ b → b < G.1 → p_tell X c (nI xr) b = I b := fun b h1 h2 => by
    rw [tn b (by omega), x2 b h1]
    funext k
    rw [t13 b k h2 (by omega), dr_o (by omega) (by omega)]
  have hnew : ∀ b, 112 ≤ b → p_tell X c (nI xr) b = I' b := fun b h1 => by rw [tn b (by omega), x2 b h1]
  have xr9 : ∀ b k, 94 ≤ b → b ≤ 102 → X b k = I b k := fun b k h1 h2 => x1 b k (by omega) (by omega) (by omega) (by omega) (by omega) (by omega) (scr_no (by omega) k)
  have f94 : ∀ k, p_tell X c (nI xr) 94 k = if k = c then nI xr else I 94 k := fun k => by simp [p_tell, xr9 94 k (by omega) (by omega)]
  have f95 : ∀ k, p_tell X c (nI xr) 95 k = if k = c then nI nw else I 95 k := fun k => by simp [p_tell, xr9 95 k (by omega) (by omega), x0]
  have f96 : ∀ k, p_tell X c (nI xr) 96 k = if k = c then M.1 else I 96 k := fun k => by simp [p_tell, xr9 96 k (by omega) (by omega), x7]
  have f97 : ∀ k, p_tell X c (nI xr) 97 k = if k = c then -1 else I 97 k := fun k => by simp [p_tell, xr9 97 k (by omega) (by omega)]
  have f99 : ∀ k, p_tell X c (nI xr) 99 k = if k = c then M.2.2.1 else I 99 k := fun k => by simp [p_tell, xr9 99 k (by omega) (by omega), x10]
  have f100 : ∀ k, p_tell X c (nI xr) 100 k = if k = c then M.2.1 else I 100 k := fun k => by simp [p_tell, xr9 100 k (by omega) (by omega), x8]
  have f98 : ∀ k, p_tell X c (nI xr) 98 k = p_cp (X 98) M.2.2.2.2.1 (5 * c) 5 k := fun k => by simp [p_tell, x91]
  have f101 : ∀ k, p_tell X c (nI xr) 101 k = p_cp (X 101) M.2.2.2.2.2.1 (18 * c) 18 k := fun k => by simp [p_tell, x92]
  have f102 : ∀ k, p_tell X c (nI xr) 102 k = p_cp (X 102) M.2.2.2.2.2.2 (3 * c) 3 k := fun k => by simp [p_tell, x93]
  subst hc
  refine ⟨nw, rp', ch', 0, oc, pr, (fun j => if j = rp + ch then G.1 + 3 else tl j), (fun j => if j = rp + ch then G.1 else fa j), (fun j => if j = rp + ch then xr else ro j), (fun j => if j = rp + ch then nw else dy j), rd', ⟨hSR.1, hSR.2, ?_, hsc, fun p hp => by omega, ?_, ?_, ?_, ?_, ?_⟩, Or.inl ?_⟩
  · show tp_C (p_tell X (rp + ch) (nI xr))
    unfold tp_C
    rw [hn 1 (by omega), hn 2 (by omega)]
    exact b3
  · show iv_hd (p_tell X (rp + ch) (nI xr)) rp'
    intro a b ha hb
    rw [hn (48 + 1 * a) (by omega), hn 106 (by omega)]
    obtain ⟨y1, y2, y3⟩ := b6 a b ha hb
    exact ⟨y1, y2, y3.imp id (fun z => ⟨z.1, by omega, by omega, z.2.2.2⟩)⟩
  · show iv_rows G' (p_tell X (rp + ch) (nI xr)) R' (rp' + ch') _ _
    rw [hc']
    obtain ⟨r1, r2, r3, r4, r5⟩ := b7
    refine ⟨fun j hj => ?_, fun j hj => ?_, fun j hj => ?_, by rw [hn 11 (by omega)]; exact r4, by rw [hn 12 (by omega)]; exact r5⟩
    · by_cases e : j = rp + ch
      · subst e
        simp only [if_true]
        refine ⟨t9, t7, by omega, t12, ⟨by omega, t4, t5, t6, t10, t11⟩, Or.inr (by omega)⟩
      · simp only [e, if_false]
        obtain ⟨u1, u2, u3, u4, u5, u6⟩ := r1 j (by omega)
        obtain ⟨v1, v2⟩ := r2 j (by omega)
        obtain ⟨w1, w2, w3, w4, w5, w6⟩ := u5
        refine ⟨by rw [t8 10 j (by omega) (fun _ => e)]; exact u1, by rw [t3 _ v1]; exact u2, u3, by rw [t8 _ _ v1 (by omega)]; exact u4, ⟨w1, by rw [t3 _ (by omega)]; exact w2, by rw [t3 _ (by omega)]; exact w3, by rw [t3 _ (by omega)]; exact w4, by rw [t8 _ _ (by omega) (by omega)]; exact w5, by rw [t8 _ _ (by omega) (by omega)]; exact w6⟩, u6⟩
    · by_cases e : j = rp + ch
      · subst e
        simp only [if_true]
        omega
      · simp only [e, if_false]
        have := r2 j (by omega)
        omega
    · by_cases e : j = rp + ch
      · subst e
        simp only [if_true]
        have hd31 : (tp_dr I D) 6 0 &&& 31 = D.2.1 := by rw [dr_h]; exact and31 hD.2.2.2.2.2
        refine ⟨?_, ?_, Or.inl ⟨?_, ?_, ?_⟩⟩
        · rw [hnew _ (by omega), t19, f94, if_pos rfl]
        · rw [hnew _ (by omega), t20, f95, if_pos rfl]
          exact b4.1.1
        · rw [f97, if_pos rfl]
        · rw [hnew _ (by omega), t21, f96, if_pos rfl, hd31]
          exact hD.1
        · refine p_dm_congr hD ?_ ?_ (fun f hf => ?_) (fun t hh => ?_) ?_ ?_ ?_ (fun f hf => ?_) (fun k hk => ?_) (fun k hk => ?_)
          · show p_tell X (rp + ch) (nI xr) G.1 0 = _
            rw [hnew _ (by omega), t15, hd31]
          · show p_tell X (rp + ch) (nI xr) G.1 1 = _
            rw [hnew _ (by omega), t16, dr_u]
          · show p_tell X (rp + ch) (nI xr) (G.1 + 1) f = _
            rw [hnew _ (by omega), t17 f hf, dr_7]
          · show p_tell X (rp + ch) (nI xr) (G.1 + 2) t = _
            rw [hnew _ (by omega), t18 t hh, dr_8]
          · show p_tell X (rp + ch) (nI xr) 96 (rp + ch) = _
            rw [f96, if_pos rfl]
          · show p_tell X (rp + ch) (nI xr) 100 (rp + ch) = _
            rw [f100, if_pos rfl]
          · show p_tell X (rp + ch) (nI xr) 99 (rp + ch) = _
            rw [f99, if_pos rfl]
          · show p_tell X (rp + ch) (nI xr) 98 (5 * (rp + ch) + f) = _
            rw [f98, p_cp_in hf]
          · show p_tell X (rp + ch) (nI xr) 101 (18 * (rp + ch) + k) = _
            rw [f101, p_cp_in hk]
          · show p_tell X (rp + ch) (nI xr) 102 (3 * (rp + ch) + k) = _
            rw [f102, p_cp_in hk]
      · simp only [e, if_false]
        obtain ⟨u1, u2, u3, u4, u5, u6⟩ := r1 j (by omega)
        obtain ⟨v1, v2⟩ := r2 j (by omega)
        have ff : ∀ i, i < 3 → p_tell X (rp + ch) (nI xr) (fa j + i) = I (fa j + i) := fun i hi => by
          rcases u6 with z | z
          · exact hn _ (by omega)
          · exact hold _ (by omega) (by omega)
        refine iv_row_keep (r3 j (by omega)) (hold _ u3 v1) (ff 0 (by omega)) (ff 1 (by omega)) (ff 2 (by omega)) (fun b hb => ?_) (fun f hf => ?_) (fun k hk => ?_) (fun k hk => ?_)
        · rcases hb with rfl | rfl | rfl | rfl | rfl | rfl
          · rw [f94, if_neg e]
          · rw [f95, if_neg e]
          · rw [f96, if_neg e]
          · rw [f97, if_neg e]
          · rw [f99, if_neg e]
          · rw [f100, if_neg e]
        · rw [f98, p_cp_out (by omega), xr9 98 _ (by omega) (by omega)]
        · rw [f101, p_cp_out (by omega), xr9 101 _ (by omega) (by omega)]
        · rw [f102, p_cp_out (by omega), xr9 102 _ (by omega) (by omega)]
  · show iv_days (p_tell X (rp + ch) (nI xr)) nw rp' (rp' + ch') _ _ rd'
    rw [hc']
    obtain ⟨d1, d2, d3⟩ := b8
    refine ⟨fun j hj => ?_, fun r hr => ?_, fun r s h1 h2 => ?_⟩
    · by_cases e : j = rp + ch
      · subst e
        simp only [if_true]
        refine ⟨by rw [f94, if_pos rfl], hxr, by rw [f95, if_pos rfl], hrd2, Nat.le_refl _⟩
      · simp only [e, if_false]
        obtain ⟨a1, a2, a3, a4, a5⟩ := d1 j (by omega)
        refine ⟨by rw [f94, if_neg e]; exact a1, by omega, by rw [f95, if_neg e]; exact a3, by rw [hrd1 _ a2]; exact a4, a5⟩
    · have e103 : p_tell X (rp + ch) (nI xr) 103 r = nI (rd' r) := by rw [tn 103 (by omega)]; exact h103 r hr
      by_cases hr2 : r < rp
      · obtain ⟨a1, a2, j, a3, a4, a5⟩ := d2 r hr2
        refine ⟨e103, by rw [hrd1 r hr2]; exact a2, j, by omega, ?_, ?_⟩
        · show (if j = rp + ch then xr else ro j) = r
          rw [if_neg (by omega)]; exact a4
        · show (if j = rp + ch then nw else dy j) = rd' r
          rw [if_neg (by omega), hrd1 r hr2]; exact a5
      · obtain ⟨y1, y2⟩ := hrd3 r (by omega) hr
        refine ⟨e103, by omega, rp + ch, by omega, ?_, ?_⟩
        · show (if rp + ch = rp + ch then xr else ro (rp + ch)) = r
          rw [if_pos rfl]; exact y1.symm
        · show (if rp + ch = rp + ch then nw else dy (rp + ch)) = rd' r
          rw [if_pos rfl]; exact y2.symm
    · by_cases hs : s < rp
      · rw [hrd1 r (by omega), hrd1 s hs]
        exact d3 r s h1 hs
      · obtain ⟨y1, y2⟩ := hrd3 s (by omega) h2
        by_cases hr2 : r < rp
        · rw [y2, hrd1 r hr2]
          exact (d2 r hr2).2.1
        · obtain ⟨z1, z2⟩ := hrd3 r (by omega) (by omega)
          omega
  · show iv_low (p_tell X (rp + ch) (nI xr))
    unfold iv_low
    rw [hn 74 (by omega)]
    exact b9
  · show iv_room G' (rp' + ch')
    unfold iv_room at b10 ⊢
    omega
  · show p_tell X (rp + ch) (nI xr) 3 10 = -1
    rw [tn 3 (by omega)]
    exact h10
end PTS
