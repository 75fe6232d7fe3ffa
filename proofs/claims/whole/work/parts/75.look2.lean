/-! Looking at a day: what holds then. -/
section LK2
variable {G : tm_G} {I I' I0 : Nat → Nat → Int32} {J J' : Nat → Nat → Int64} {R : Nat → Nat → Option Nat} {nw rp ch n oc pr c q : Nat} {tl fa ro dy rd : Nat → Nat}
theorem p_rt_all (hrw : iv_rows G I0 R c tl fa) (hd : iv_days I0 nw rp c ro dy rd) (hnw : nw ≤ 1000) (hrp : rp ≤ 10) (hq : q ≤ 1000) : ∀ (n i : Nat) (I : Nat → Nat → Int32), i + n = c → p_rti I0 I c fa ro dy q i → p_rti I0 (p_rt tl fa (nI q) i n I) c fa ro dy q c
  | 0, i, I, hi, h => by
    have : i = c := by omega
    subst this
    exact h
  | n + 1, i, I, hi, h => by
    rw [p_rt]
    exact p_rt_all hrw hd hnw hrp hq n (i + 1) _ (by omega) (p_rt_s hrw hd hnw hrp hq (by omega) h)
theorem p_rt_0 : p_rti I0 (up2 (p_kf I0 10) 14 1 0) c fa ro dy q 0 := by
  have ko : ∀ b, b < 14 ∨ 45 < b → up2 (p_kf I0 10) 14 1 0 b = I0 b := fun b hb => by
    rw [up2_row (by omega)]
    funext k
    unfold p_kf
    rw [if_neg (by omega)]
  have k0 : ∀ r, r < 10 → up2 (p_kf I0 10) 14 1 0 (16 + 3 * r) 0 = 0 := fun r hr => by
    rw [up2_row (by omega)]
    unfold p_kf
    rw [if_pos (by omega)]
  refine ⟨ko, up2_at, fun r f hr hf => Or.inl ⟨rfl, by rw [k0 r hr]; exact tb_0 f, fun _ => ?_⟩, fun r k hr _ _ => by rw [k0 r hr]; exact tb_0 k⟩
  rw [up2_row (by omega)]
  unfold p_kf
  rw [if_pos (by omega)]
theorem iv_b_keep (hb : iv_b G I R nw rp ch n oc pr tl fa ro dy rd) (e : ∀ b, b ≠ 3 → (b < 14 ∨ 45 < b) → (b < 71 ∨ b = 74 ∨ 88 < b) → I' b = I b) (e3 : ∀ k, k < 10 → I' 3 k = I 3 k) : iv_b G I' R nw rp ch n oc pr tl fa ro dy rd := by
  obtain ⟨b1, b2, b3, b4, b5, b6, b7, b8, b9, b10⟩ := hb
  refine ⟨b1, b2, ?_, ?_, ?_, ?_, ?_, ?_, ?_, b10⟩
  · unfold tp_C
    rw [e 1 (by omega) (by omega) (by omega), e 2 (by omega) (by omega) (by omega)]
    exact b3
  · unfold iv_sc
    rw [e3 7 (by omega), e3 8 (by omega), e3 9 (by omega), e 9 (by omega) (by omega) (by omega), e 89 (by omega) (by omega) (by omega), e 4 (by omega) (by omega) (by omega)]
    exact b4
  · unfold iv_tp
    rw [e 5 (by omega) (by omega) (by omega), e 90 (by omega) (by omega) (by omega)]
    exact b5
  · intro a b ha hb
    rw [e (48 + 1 * a) (by omega) (by omega) (by omega), e 106 (by omega) (by omega) (by omega)]
    exact b6 a b ha hb
  · exact iv_rows_congr (fun b h1 h2 => e b (by omega) (by omega) (by omega)) (e 11 (by omega) (by omega) (by omega)) (e 12 (by omega) (by omega) (by omega)) (e 13 (by omega) (by omega) (by omega)) (fun b h => e b (by omega) (by omega) (by omega)) b7
  · unfold iv_days
    rw [e 94 (by omega) (by omega) (by omega), e 95 (by omega) (by omega) (by omega), e 103 (by omega) (by omega) (by omega)]
    exact b8
  · unfold iv_low
    rw [e 74 (by omega) (by omega) (by omega)]
    exact b9
theorem look_iv (hp : iv_p G I J R nw rp ch n oc pr tl fa ro dy rd) (hq : q ≤ nw) : ∃ m, iv_b G (p_look tl fa (rp + ch) (nI q) I) R nw rp ch n oc pr tl fa ro dy rd ∧ iv_c (p_look tl fa (rp + ch) (nI q) I) J rp ch oc pr fa rd q m := by
  have hb := hp.1
  obtain ⟨b1, b2, b3, b4, b5, b6, b7, b8, b9, b10⟩ := hb
  have hnw := b4.1.2.2
  have hrp := b4.2.1.2.2
  by_cases h : nI q = I 3 10
  · have e : p_look tl fa (rp + ch) (nI q) I = I := by unfold p_look; rw [if_pos h]
    rw [e]
    rcases hp.2 with z | ⟨q', m, z1, z2⟩
    · rw [z] at h
      exact absurd h (nI_m1 (by omega))
    · have : q' = q := by
        have := z2.1
        rw [← h] at this
        exact ((nI_eq (by omega) (by omega)).mp this).symm
      subst this
      exact ⟨m, hp.1, z2⟩
  · have e : p_look tl fa (rp + ch) (nI q) I = up2 (up2 (up2 (p_rt tl fa (nI q) 0 (rp + ch) (up2 (p_kf I 10) 14 1 0)) 3 10 (nI q)) 3 11 0) 3 12 0 := by unfold p_look; rw [if_neg h]
    rw [e]
    have hr := p_rt_all b7 b8 hnw hrp (show q ≤ 1000 by omega) (rp + ch) 0 _ (by omega) (p_rt_0 (I0 := I) (c := rp + ch) (fa := fa) (ro := ro) (dy := dy) (q := q))
    generalize p_rt tl fa (nI q) 0 (rp + ch) (up2 (p_kf I 10) 14 1 0) = Z at hr ⊢
    obtain ⟨r1, r2, r3, r4⟩ := hr
    have eo : ∀ b, b ≠ 3 → up2 (up2 (up2 Z 3 10 (nI q)) 3 11 0) 3 12 0 b = Z b := fun b h3 => by rw [up2_row h3, up2_row h3, up2_row h3]
    have e3 : ∀ k, k < 10 → up2 (up2 (up2 Z 3 10 (nI q)) 3 11 0) 3 12 0 3 k = I 3 k := fun k hk => by
      rw [up2_ne (by omega), up2_ne (by omega), up2_ne (by omega), r1 3 (by omega)]
    refine ⟨p_mx ro dy q (rp + ch), iv_b_keep hp.1 (fun b h3 h1 _ => by rw [eo b h3]; exact r1 b h1) e3, ?_, ⟨?_, fun r hr => ?_, ?_, fun r f hr hf => ?_, fun r k hr h1 h2 => ?_⟩, Or.inl ?_, Or.inl ?_⟩
    · rw [up2_ne (by decide), up2_ne (by decide), up2_at]
    · rcases p_mx_b ro dy q (rp + ch) with z | ⟨j, z1, z2, z3⟩
      · omega
      · have := (b8.1 j z1).2.1
        omega
    · constructor
      · intro z
        obtain ⟨a1, a2, j, a3, a4, a5⟩ := b8.2.1 r hr
        have := p_mx_a ro dy q (rp + ch) j a3 (by omega)
        omega
      · intro z
        rcases p_mx_b ro dy q (rp + ch) with y | ⟨j, z1, z2, z3⟩
        · omega
        · obtain ⟨a1, a2, a3, a4, a5⟩ := b8.1 j z1
          have := b8.2.2 r (ro j) (by omega) a2
          omega
    · rw [eo 14 (by decide)]
      exact r2
    · have hf0 := r3 r f hr hf
      rw [p_rf_congr (I := I) (fun b h1 h2 => by rw [eo b (by omega)]; exact r1 b (by omega))]
      unfold iv_fact at hf0 ⊢
      rw [eo (16 + 3 * r) (by omega), eo (16 + 3 * r + 1) (by omega), eo (16 + 3 * r + 2) (by omega), eo 96 (by omega)]
      rcases hf0 with o | ⟨j, o1, o2, o3, o4, o5, o6, o7⟩
      · exact Or.inl o
      · obtain ⟨-, -, -, -, -, u6⟩ := b7.1 j o1
        exact Or.inr ⟨j, o1, o2, o3, o4, by rw [eo _ (by omega)]; exact o5, fun e => by rw [eo _ (by omega)]; exact o6 e, fun e => by rw [eo _ (by omega)]; exact o7 e⟩
    · rw [eo _ (by omega)]
      exact r4 r k hr h1 h2
    · rw [up2_ne (by decide), up2_at]
    · exact up2_at
/-- looking, for any day -/
theorem c109i (d : Nat) (x : Int32) (K : Option Value → tm_H → Prop) (hp : iv_p G I J R nw rp ch n oc pr tl fa ro dy rd) (h0 : ¬ tm_in x (nw + 1) → K (some (.int 0)) (G, I, J, R)) (h1 : ∀ q m I1, q ≤ nw → x = nI q → m ≤ 10 → iv_b G I1 R nw rp ch n oc pr tl fa ro dy rd → iv_c I1 J rp ch oc pr fa rd q m → K (some (.int 1)) (G, I1, J, R)) : tm_R (d + 4) 109 [.ref 3, .int x] (G, I, J, R) K := by
  obtain ⟨b1, b2, b3, b4, b5, b6, b7, b8, b9, b10⟩ := hp.1
  have hnw := b4.1.2.2
  have hrp := b4.2.1.2.2
  have hch := b4.2.2.1.2.2
  have hx : (0 ≤ x ∧ x ≤ I 3 7) ↔ tm_in x (nw + 1) := q_inI2 b4.1.1 (by omega)
  have hr : ∀ k, k < rp + ch → tm_in (I (tl k) 0) 10 := fun k hk => by
    rw [(b7.2.2.1 k hk).1, (b8.1 k hk).1]
    exact q_in (by have := (b8.1 k hk).2.1; omega) (by decide)
  rw [c109 d x K b1 b2 (by omega) b7.1 I b4.2.2.2.1.1 hr]
  by_cases h : tm_in x (nw + 1)
  · rw [if_pos (hx.mpr h)]
    have hq := q_of h
    generalize tm_ix x = q at hq
    obtain ⟨rfl, hq2⟩ := hq
    obtain ⟨m, z1, z2⟩ := look_iv (q := q) hp (by omega)
    exact h1 q m _ (by omega) rfl (by have := z2.2.1.1; omega) z1 z2
  · rw [if_neg (fun z => h (hx.mp z))]
    exact h0 h
theorem p_rf_in (r f q : Int32) : ∀ c, p_rf I r f q c = -1 ∨ ∃ j, j < c ∧ p_rf I r f q c = nI j
  | 0 => Or.inl rfl
  | c + 1 => by
    rw [p_rf]
    have ih := (p_rf_in r f q c).imp id (fun ⟨j, a, b⟩ => (⟨j, by omega, b⟩ : ∃ j, j < c + 1 ∧ p_rf I r f q c = nI j))
    split
    · split
      · exact Or.inr ⟨c, by omega, rfl⟩
      · split
        · exact Or.inl rfl
        · exact ih
    · exact ih
/-- what is known of a field, and the row that says it -/
theorem iv_get {m : Nat} (hb : iv_b G I R nw rp ch n oc pr tl fa ro dy rd) (hk : iv_kn I rp (rp + ch) fa rd q m) {r f : Nat} (hr : r < 10) (hf : f < 5) : (p_rf I (nI r) (nI f) (nI q) (rp + ch) = -1 ∧ tb (I (16 + 3 * r) 0) f = false ∧ (f = 3 → I (16 + 3 * r + 1) 3 = 0)) ∨ ∃ j, j < rp + ch ∧ p_rf I (nI r) (nI f) (nI q) (rp + ch) = nI j ∧ tb (I (16 + 3 * r) 0) f = true ∧ (f ≠ 3 → I (16 + 3 * r + 1) f = I 98 (5 * j + f) ∧ ∃ y, y ≤ 9999 ∧ I (16 + 3 * r + 1) f = nI y) ∧ (f = 2 → I (16 + 3 * r) 1 = I 99 j ∧ ∃ y, y ≤ 9999 ∧ I (16 + 3 * r) 1 = nI y) ∧ (f = 3 → ∃ cn, 1 ≤ cn ∧ cn ≤ 3 ∧ I (16 + 3 * r + 1) 3 = nI cn ∧ I 100 j = nI cn ∧ ∀ t, t < cn → p_nr (I (16 + 3 * r + 2) t) (I 102 (3 * j + t)) (fun s => I 101 (18 * j + (6 * t + s)))) := by
  obtain ⟨b1, b2, b3, b4, b5, b6, b7, b8, b9, b10⟩ := hb
  rcases hk.2.2.2.1 r f hr hf with z | ⟨j, o1, o2, o3, o4, o5, o6, o7⟩
  · exact Or.inl z
  · right
    have hrow := b7.2.2.1 j o1
    rcases hrow.2.2 with ⟨y1, y2, y3⟩ | ⟨y1, -⟩
    · obtain ⟨a1, a2, a3, a4, a5, a6⟩ := y3
      have ht : tb (I (fa j) 0) f = true := by
        have : I (fa j) 0 = I 96 j := a1
        rw [this]; exact o3
      refine ⟨j, o1, o2, o4, fun hne => ?_, fun e => ?_, fun e => ?_⟩
      · obtain ⟨z1, y, z2, z3⟩ := a2 f hf hne ht
        exact ⟨by rw [o5]; exact z1, y, z2, by rw [o5]; exact z3⟩
      · subst e
        obtain ⟨z1, y, z2, z3⟩ := a3 ht
        exact ⟨by rw [o6 rfl]; exact z1, y, z2, by rw [o6 rfl]; exact z3⟩
      · subst e
        obtain ⟨cn, z1, z2, z3, z4, z5⟩ := a4 ht
        refine ⟨cn, z1, z2, by rw [o5]; exact z3, z4, fun t ht => ?_⟩
        rw [o7 rfl t (by omega)]
        exact z5 t ht
    · rw [y1, tb_0] at o3
      exact absurd o3 (by decide)
theorem iv_known (hb : iv_b G I R nw rp ch n oc pr tl fa ro dy rd) {m : Nat} (hk : iv_kn I rp (rp + ch) fa rd q m) (hq : q ≤ nw) (x : Int32) : (tm_in x rp ∧ tm_in (nI q) (nw + 1) ∧ I 103 (tm_ix x) ≤ nI q) ↔ tm_in x m := by
  obtain ⟨b1, b2, b3, b4, b5, b6, b7, b8, b9, b10⟩ := hb
  have hnw := b4.1.2.2
  have hm := hk.1
  constructor
  · rintro ⟨h1, -, h3⟩
    have hx := q_of h1
    obtain ⟨a1, a2, -⟩ := b8.2.1 _ hx.2
    rw [a1] at h3
    have := (hk.2.1 _ hx.2).mp ((nI_leI (by omega) (by omega)).mp h3)
    refine ⟨h1.1, ?_⟩
    unfold tm_ix at this
    have := h1.1
    omega
  · intro h
    have h1 : tm_in x rp := ⟨h.1, by have := h.2; omega⟩
    have hx := q_of h
    obtain ⟨a1, a2, -⟩ := b8.2.1 (tm_ix x) (by omega)
    refine ⟨h1, q_in (by omega) (by omega), ?_⟩
    rw [a1]
    exact (nI_leI (by omega) (by omega)).mpr ((hk.2.1 _ (by omega)).mpr hx.2)
end LK2
