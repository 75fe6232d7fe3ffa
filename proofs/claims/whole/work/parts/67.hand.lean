/-! Hands and counts, on both. -/
section HN2
variable {G : tm_G} {I I' : Nat → Nat → Int32} {J J' : Nat → Nat → Int64} {R : Nat → Nat → Option Nat} {nw rp ch n oc pr : Nat} {tl fa ro dy rd : Nat → Nat}
theorem iv_keep_h (hi : iv_p G I J R nw rp ch n oc pr tl fa ro dy rd) (e : ∀ b k, ¬ (48 ≤ b ∧ b ≤ 57) → b ≠ 106 → (b = 3 → k ≠ 11) → I' b k = I b k) (hhd : iv_hd I' rp) (h11 : I' 3 11 = 0) : iv_p G I' J R nw rp ch n oc pr tl fa ro dy rd := by
  have er : ∀ b, b ≠ 3 → ¬ (48 ≤ b ∧ b ≤ 57) → b ≠ 106 → I' b = I b := fun b h1 h2 h3 => by
    funext k
    exact e b k h2 h3 (fun z => absurd z h1)
  have e3 : ∀ k, k ≠ 11 → I' 3 k = I 3 k := fun k h => e 3 k (by omega) (by omega) (fun _ => h)
  obtain ⟨⟨b1, b2, b3, b4, b5, b6, b7, b8, b9, b10⟩, hc⟩ := hi
  have fe : ∀ j, j < rp + ch → I' (fa j) = I (fa j) ∧ I' (fa j + 1) = I (fa j + 1) ∧ I' (fa j + 2) = I (fa j + 2) := fun j hj => by
    obtain ⟨-, -, -, -, -, t6⟩ := b7.1 j hj
    exact ⟨er _ (by omega) (by omega) (by omega), er _ (by omega) (by omega) (by omega), er _ (by omega) (by omega) (by omega)⟩
  refine ⟨⟨b1, b2, ?_, ?_, ?_, hhd, ?_, ?_, ?_, b10⟩, ?_⟩
  · unfold tp_C
    rw [er 1 (by omega) (by omega) (by omega), er 2 (by omega) (by omega) (by omega)]
    exact b3
  · unfold iv_sc
    rw [e3 7 (by decide), e3 8 (by decide), e3 9 (by decide), er 9 (by omega) (by omega) (by omega), er 4 (by omega) (by omega) (by omega), er 89 (by omega) (by omega) (by omega)]
    exact b4
  · unfold iv_tp
    rw [er 5 (by omega) (by omega) (by omega), er 90 (by omega) (by omega) (by omega)]
    exact b5
  · exact iv_rows_congr (fun b h1 h2 => er b (by omega) (by omega) (by omega)) (er 11 (by omega) (by omega) (by omega)) (er 12 (by omega) (by omega) (by omega)) (er 13 (by omega) (by omega) (by omega)) (fun b h => er b (by omega) (by omega) (by omega)) b7
  · unfold iv_days
    rw [er 94 (by omega) (by omega) (by omega), er 95 (by omega) (by omega) (by omega), er 103 (by omega) (by omega) (by omega)]
    exact b8
  · unfold iv_low
    rw [er 74 (by omega) (by omega) (by omega)]
    exact b9
  · rw [e3 10 (by decide)]
    rcases hc with z | ⟨q, m, hq, z1, z2, z3, z4⟩
    · exact Or.inl z
    · have hm : m ≤ 10 := Nat.le_trans z2.1 b4.2.1.2.2
      refine Or.inr ⟨q, m, hq, by rw [e3 10 (by decide)]; exact z1, iv_kn_congr (fun b h1 h2 => er b (by omega) (by omega) (by omega)) (fun b h1 h2 => er b (by omega) (by omega) (by omega)) fe z2, Or.inl h11, ?_⟩
      rw [e3 12 (by decide)]
      exact z4.imp id (fun w => ⟨w.1, iv_fs_congr (fun b h1 h2 => er b (by omega) (by omega) (by omega)) (er 76 (by omega) (by omega) (by omega)) (er 88 (by omega) (by omega) (by omega)) hm w.2⟩)
theorem hand_hd (hh : iv_hd I rp) (hrp : rp ≤ 10) {x y : Nat} {w : Int32} (hx : x < rp) (hy : y < rp) (hxy : x ≠ y) (hw : w = 0 ∨ w = 1 ∨ w = 2) : iv_hd (up2 (up2 (up2 (up2 (up2 I (48 + 1 * x) y w) (48 + 1 * y) x w) 3 11 0) 106 (10 * x + y) w) 106 (10 * y + x) w) rp := by
  intro a b ha hb
  obtain ⟨h1, h2, h3⟩ := hh a b ha hb
  have h4 := (hh b a hb ha).2.2
  have e1 : up2 (up2 (up2 (up2 (up2 I (48 + 1 * x) y w) (48 + 1 * y) x w) 3 11 0) 106 (10 * x + y) w) 106 (10 * y + x) w (48 + 1 * a) b = if (a = x ∧ b = y) ∨ (a = y ∧ b = x) then w else I (48 + 1 * a) b := by
    rw [up2_row (by omega), up2_row (by omega), up2_row (by omega)]
    unfold up2
    by_cases c1 : a = y ∧ b = x
    · rw [if_pos (by omega), if_pos (Or.inr c1)]
    · rw [if_neg (by omega)]
      by_cases c2 : a = x ∧ b = y
      · rw [if_pos (by omega), if_pos (Or.inl c2)]
      · rw [if_neg (by omega), if_neg (fun z => z.elim c2 c1)]
  have e2 : ∀ a b, a < 10 → b < 10 → up2 (up2 (up2 (up2 (up2 I (48 + 1 * x) y w) (48 + 1 * y) x w) 3 11 0) 106 (10 * x + y) w) 106 (10 * y + x) w 106 (10 * a + b) = if (a = x ∧ b = y) ∨ (a = y ∧ b = x) then w else I 106 (10 * a + b) := by
    intro a b ha hb
    by_cases c1 : a = y ∧ b = x
    · obtain ⟨rfl, rfl⟩ := c1
      rw [up2_at, if_pos (Or.inr ⟨rfl, rfl⟩)]
    · rw [up2_ne (by omega)]
      by_cases c2 : a = x ∧ b = y
      · obtain ⟨rfl, rfl⟩ := c2
        rw [up2_at, if_pos (Or.inl ⟨rfl, rfl⟩)]
      · rw [up2_ne (by omega), up2_row (by omega), up2_row (by omega), up2_row (by omega), if_neg (fun z => z.elim c2 c1)]
  rw [e1, e2 a b ha hb, e2 b a hb ha]
  by_cases c : (a = x ∧ b = y) ∨ (a = y ∧ b = x)
  · have c' : (b = x ∧ a = y) ∨ (b = y ∧ a = x) := by omega
    rw [if_pos c, if_pos c, if_pos c']
    refine ⟨rfl, rfl, ?_⟩
    rcases hw with z | z
    · exact Or.inl z
    · exact Or.inr ⟨z, by omega, by omega, by omega⟩
  · have c' : ¬ ((b = x ∧ a = y) ∨ (b = y ∧ a = x)) := by omega
    rw [if_neg c, if_neg c, if_neg c']
    exact ⟨h1, h2, h3⟩
theorem q_w2 {w : Int32} (h : 0 ≤ w ∧ w ≤ 2) : w = 0 ∨ w = 1 ∨ w = 2 := by
  have h := q_of ((q_inI2 (x := w) (N := 2) (n := 2) rfl (by decide)).mp h)
  generalize tm_ix w = y at h
  obtain ⟨rfl, hy⟩ := h
  have : y = 0 ∨ y = 1 ∨ y = 2 := by omega
  rcases this with rfl | rfl | rfl
  · exact Or.inl rfl
  · exact Or.inr (Or.inl rfl)
  · exact Or.inr (Or.inr rfl)
theorem bo_hand (d : Nat) (x y w : Int32) (hi : iv (G, I, J, R)) : iv_both (d + 2) 93 146 [.int x, .int y, .int w] (G, I, J, R) := by
  have hi0 := hi
  obtain ⟨nw, rp, ch, n, oc, pr, tl, fa, ro, dy, rd, hp⟩ : ∃ (nw rp ch n oc pr : Nat) (tl fa ro dy rd : Nat → Nat), iv_p G I J R nw rp ch n oc pr tl fa ro dy rd := hi
  obtain ⟨s1, s2, s3, s4, s5, s6, s7⟩ := hp.1.2.2.2.1
  have hS := hp.1.1
  have hR := hp.1.2.1
  unfold iv_both
  rw [c93 d x y w _ hS hR s2.1 s2.2.2]
  by_cases h1 : tm_in x rp ∧ tm_in y rp ∧ x ≠ y ∧ 0 ≤ w ∧ w ≤ 2
  · rw [if_pos h1]
    have q1 := q_of h1.1
    have q2 := q_of h1.2.1
    have hne : tm_ix x ≠ tm_ix y := fun z => h1.2.2.1 (by rw [q1.1, q2.1, z])
    have hrp : up2 (up2 (up2 I (48 + 1 * tm_ix x) (tm_ix y) w) (48 + 1 * tm_ix y) (tm_ix x) w) 3 11 0 89 1 = nI rp := by
      rw [up2_row (by decide), up2_row (by omega), up2_row (by omega)]
      exact s2.2.1
    rw [m146 d x y w _ hS hR hrp s2.2.2, if_pos h1]
    refine iv_same _ ⟨nw, rp, ch, n, oc, pr, tl, fa, ro, dy, rd, iv_keep_h hp (fun b k h2 h3 h4 => ?_) (hand_hd hp.1.2.2.2.2.2.1 s2.2.2 q1.2 q2.2 hne (q_w2 h1.2.2.2)) ?_⟩
    · show up2 (up2 (up2 (up2 (up2 I (48 + 1 * tm_ix x) (tm_ix y) w) (48 + 1 * tm_ix y) (tm_ix x) w) 3 11 0) 106 (10 * tm_ix x + tm_ix y) w) 106 (10 * tm_ix y + tm_ix x) w b k = I b k
      rw [up2_row h3, up2_row h3]
      by_cases hb : b = 3
      · subst hb
        rw [up2_ne (h4 rfl), up2_row (by omega), up2_row (by omega)]
      · rw [up2_row hb, up2_row (by omega), up2_row (by omega)]
    · show up2 (up2 (up2 (up2 (up2 I (48 + 1 * tm_ix x) (tm_ix y) w) (48 + 1 * tm_ix y) (tm_ix x) w) 3 11 0) 106 (10 * tm_ix x + tm_ix y) w) 106 (10 * tm_ix y + tm_ix x) w 3 11 = 0
      rw [up2_row (by decide), up2_row (by decide), up2_at]
  · rw [if_neg h1, m146 d x y w _ hS hR s2.2.1 s2.2.2, if_neg h1]
    exact iv_same _ hi0
/-! Counting. -/
theorem p_cr_0 {f : Nat → Int32} {w : Int32} : ∀ n j, (∀ b, j ≤ b → b < j + n → f b ≠ w) → p_cr f w j n = 0
  | 0, _, _ => rfl
  | n + 1, j, h => by
    rw [p_cr, if_neg (h j (by omega) (by omega)), p_cr_0 n (j + 1) (fun b h1 h2 => h b (by omega) (by omega))]
theorem p_mt_x {f : Nat → Int32} {w : Int32} {rp : Nat} (h : ∀ a b, rp ≤ a → a < 10 → b < a → f (10 * a + b) ≠ w) : ∀ n a, rp ≤ a → a + n ≤ 10 → p_mt f w a n = 0
  | 0, _, _, _ => rfl
  | n + 1, a, h1, h2 => by
    rw [p_mt, p_mt_x h n (a + 1) (by omega) (by omega), p_cr_0 a 0 (fun b _ hb => h a b h1 (by omega) (by omega))]
theorem p_mt_10 {f : Nat → Int32} {w : Int32} {rp : Nat} (h : ∀ a b, rp ≤ a → a < 10 → b < a → f (10 * a + b) ≠ w) : ∀ n a, a + n = rp → rp ≤ 10 → p_mt f w a n = p_mt f w a (10 - a)
  | 0, a, h1, h2 => by
    rw [p_mt_x h (10 - a) a (by omega) (by omega)]
    rfl
  | n + 1, a, h1, h2 => by
    rw [show 10 - a = (10 - (a + 1)) + 1 by omega, p_mt, p_mt, p_mt_10 h n (a + 1) (by omega) h2]
theorem p_ct_mt (hh : iv_hd I rp) (hrp : rp ≤ 10) {w : Int32} (hw : w ≠ 0) : p_ct (fun i => I (48 + 1 * i)) w 0 10 = p_mt (I 106) w 0 rp := by
  have hs : ∀ i j, i < 10 → j < 10 → I (48 + 1 * i) j = I 106 (10 * j + i) := fun i j hi hj => by
    obtain ⟨a, b, -⟩ := hh i j hi hj
    rw [a, b]
  rw [p_mt_10 (rp := rp) (fun a b h1 h2 h3 z => ?_) rp 0 (by omega) hrp]
  · simp only [p_ct, p_cr, p_mt, Nat.zero_add, Nat.reduceAdd, Nat.reduceSub, Nat.add_zero]
    rw [hs 0 1 (by decide) (by decide), hs 0 2 (by decide) (by decide), hs 0 3 (by decide) (by decide), hs 0 4 (by decide) (by decide), hs 0 5 (by decide) (by decide), hs 0 6 (by decide) (by decide), hs 0 7 (by decide) (by decide), hs 0 8 (by decide) (by decide), hs 0 9 (by decide) (by decide),
      hs 1 2 (by decide) (by decide), hs 1 3 (by decide) (by decide), hs 1 4 (by decide) (by decide), hs 1 5 (by decide) (by decide), hs 1 6 (by decide) (by decide), hs 1 7 (by decide) (by decide), hs 1 8 (by decide) (by decide), hs 1 9 (by decide) (by decide),
      hs 2 3 (by decide) (by decide), hs 2 4 (by decide) (by decide), hs 2 5 (by decide) (by decide), hs 2 6 (by decide) (by decide), hs 2 7 (by decide) (by decide), hs 2 8 (by decide) (by decide), hs 2 9 (by decide) (by decide),
      hs 3 4 (by decide) (by decide), hs 3 5 (by decide) (by decide), hs 3 6 (by decide) (by decide), hs 3 7 (by decide) (by decide), hs 3 8 (by decide) (by decide), hs 3 9 (by decide) (by decide),
      hs 4 5 (by decide) (by decide), hs 4 6 (by decide) (by decide), hs 4 7 (by decide) (by decide), hs 4 8 (by decide) (by decide), hs 4 9 (by decide) (by decide),
      hs 5 6 (by decide) (by decide), hs 5 7 (by decide) (by decide), hs 5 8 (by decide) (by decide), hs 5 9 (by decide) (by decide),
      hs 6 7 (by decide) (by decide), hs 6 8 (by decide) (by decide), hs 6 9 (by decide) (by decide), hs 7 8 (by decide) (by decide), hs 7 9 (by decide) (by decide), hs 8 9 (by decide) (by decide)]
    ac_rfl
  · have := (hh a b h2 (by omega)).2.2
    rw [z] at this
    rcases this with y | ⟨-, y, -, -⟩
    · exact hw y
    · omega
end HN2
