/-! Groupings, pure: the search through all of them, in the order of their digits. -/
abbrev gp_all (m : Nat) : Nat := 2 ^ m - 1
theorem gp_all_t (m r : Nat) : (gp_all m).testBit r = decide (r < m) := Nat.testBit_two_pow_sub_one m r
def gp_df (f : Nat → Nat) (n : Nat) : Int := gp_s (fun r => (f r : Int) * 16 ^ (9 - r)) n
theorem gp_df_e (m : Nat) (f : Nat → Nat) : gp_dig m (gp_all m) f = gp_df f m := gp_s_congr (fun r hr => by rw [gp_all_t]; simp [hr])
theorem gp_lex {m k : Nat} {f h : Nat → Nat} (hk : k < m) (he : ∀ j, j < k → f j = h j) (hlt : f k < h k) : ∀ n, k + n < m → m ≤ 10 → (∀ r, r < m → f r ≤ 15) → gp_df f (k + n + 1) + 16 ^ (9 - (k + n)) ≤ gp_df h (k + n + 1)
  | 0, _, hm, hf => by
    have e : gp_df f k = gp_df h k := gp_s_congr (fun r hr => by rw [he r hr])
    have p := gp_pp (9 - k)
    have e1 : gp_df f (k + 0 + 1) = gp_df f k + (f k : Int) * 16 ^ (9 - k) := rfl
    have e2 : gp_df h (k + 0 + 1) = gp_df h k + (h k : Int) * 16 ^ (9 - k) := rfl
    rw [e1, e2, e, Nat.add_zero]
    have : ((f k : Int) + 1) * 16 ^ (9 - k) ≤ (h k : Int) * 16 ^ (9 - k) := Int.mul_le_mul_of_nonneg_right (by omega) (by omega)
    rw [Int.add_mul] at this
    omega
  | n + 1, hn, hm, hf => by
    have ih := gp_lex hk he hlt n (by omega) hm hf
    have e1 : gp_df f (k + (n + 1) + 1) = gp_df f (k + n + 1) + (f (k + (n + 1)) : Int) * 16 ^ (9 - (k + (n + 1))) := rfl
    have e2 : gp_df h (k + (n + 1) + 1) = gp_df h (k + n + 1) + (h (k + (n + 1)) : Int) * 16 ^ (9 - (k + (n + 1))) := rfl
    have p := gp_pp (9 - (k + (n + 1)))
    have b := gp_mb p (hf (k + (n + 1)) hn)
    have b2 : 0 ≤ (h (k + (n + 1)) : Int) * 16 ^ (9 - (k + (n + 1))) := Int.mul_nonneg (by omega) (by omega)
    have e3 : (16 : Int) ^ (9 - (k + n)) = 16 * 16 ^ (9 - (k + (n + 1))) := by
      rw [show 9 - (k + n) = (9 - (k + (n + 1))) + 1 by omega, Int.pow_succ]
      omega
    rw [e1, e2]
    omega
theorem gp_lex2 {m k : Nat} {f h : Nat → Nat} (hm : m ≤ 10) (hk : k < m) (he : ∀ j, j < k → f j = h j) (hlt : f k < h k) (hf : ∀ r, r < m → f r ≤ 15) : gp_df f m < gp_df h m := by
  have := gp_lex hk he hlt (m - k - 1) (by omega) hm hf
  rw [show k + (m - k - 1) + 1 = m by omega] at this
  have p := gp_pp (9 - (k + (m - k - 1)))
  omega
/-! Digits read back. -/
theorem gp_df_q (f : Nat → Nat) : ∀ n, n ≤ 10 → ∃ q : Int, gp_df f n = 16 ^ (10 - n) * q
  | 0, _ => ⟨0, by simp [gp_df, gp_s]⟩
  | n + 1, hn => by
    obtain ⟨q, h⟩ := gp_df_q f n (by omega)
    refine ⟨16 * q + f n, ?_⟩
    have e1 : gp_df f (n + 1) = gp_df f n + (f n : Int) * 16 ^ (9 - n) := rfl
    rw [e1, h, gp_pw (by omega), show 10 - (n + 1) = 9 - n by omega, Int.mul_add, Int.mul_comm (f n : Int), Int.mul_assoc 16, Int.mul_left_comm 16]
theorem gp_df_r (f : Nat → Nat) (r : Nat) : ∀ n, r + n ≤ 10 → (∀ j, j < r + n → f j ≤ 15) → ∃ B : Int, gp_df f (r + n) = gp_df f r + B ∧ 0 ≤ B ∧ B + 16 ^ (10 - (r + n)) ≤ 16 ^ (10 - r)
  | 0, _, _ => ⟨0, by simp, by omega, by simp⟩
  | n + 1, hn, hf => by
    obtain ⟨B, h1, h2, h3⟩ := gp_df_r f r n (by omega) (fun j hj => hf j (by omega))
    refine ⟨B + (f (r + n) : Int) * 16 ^ (9 - (r + n)), ?_, ?_, ?_⟩
    · have e1 : gp_df f (r + (n + 1)) = gp_df f (r + n) + (f (r + n) : Int) * 16 ^ (9 - (r + n)) := rfl
      rw [e1, h1]
      omega
    · have := gp_mb (gp_pp (9 - (r + n))) (hf (r + n) (by omega))
      omega
    · have := gp_mb (gp_pp (9 - (r + n))) (hf (r + n) (by omega))
      have e := gp_pw (n := r + n) (by omega)
      rw [show 10 - (r + (n + 1)) = 9 - (r + n) by omega]
      omega
theorem gp_dec {m r : Nat} {f : Nat → Nat} (hm : m ≤ 10) (hr : r < m) (hf : ∀ j, j < m → f j ≤ 15) (c : Int) : (c * 1099511627776 + gp_df f m) / 16 ^ (9 - r) % 16 = f r := by
  obtain ⟨q, hq⟩ := gp_df_q f r (by omega)
  obtain ⟨B, h1, h2, h3⟩ := gp_df_r f (r + 1) (m - (r + 1)) (by omega) (fun j hj => hf j (by omega))
  rw [show r + 1 + (m - (r + 1)) = m by omega] at h1 h3
  have e1 : gp_df f (r + 1) = gp_df f r + (f r : Int) * 16 ^ (9 - r) := rfl
  have p := gp_pp (9 - r)
  have p2 := gp_pp (10 - m)
  rw [show 10 - (r + 1) = 9 - r by omega] at h3
  have e2 : (1099511627776 : Int) = 16 ^ (9 - r) * (16 * 16 ^ r) := by
    have : (1099511627776 : Int) = 16 ^ (9 - r + (1 + r)) := by
      rw [show 9 - r + (1 + r) = 10 by omega]
      decide
    rw [this, Int.pow_add, Int.pow_add, Int.pow_one]
  have e3 : c * 1099511627776 + gp_df f m = 16 ^ (9 - r) * (16 * (c * 16 ^ r + q) + f r) + B := by
    rw [h1, e1, hq, gp_pw (by omega), e2]
    grind
  rw [e3, Int.mul_add_ediv_left _ _ (by omega), Int.ediv_eq_zero_of_lt h2 (by omega)]
  have := hf r hr
  omega
theorem gp_dec40 {m : Nat} {f : Nat → Nat} (hm : m ≤ 10) (hf : ∀ j, j < m → f j ≤ 15) (c : Int) : (c * 1099511627776 + gp_df f m) / 1099511627776 = c := by
  have h := gp_dig_bd (S := gp_all m) (f := f) m hm (fun r hr _ => hf r hr)
  rw [gp_df_e] at h
  have p := gp_pp (10 - m)
  omega
/-! Ways and firsts. -/
def gp_up (f : Nat → Nat) (k v : Nat) : Nat → Nat := fun j => if j = k then v else f j
theorem gp_up_at {f : Nat → Nat} {k v : Nat} : gp_up f k v k = v := if_pos rfl
theorem gp_up_ne {f : Nat → Nat} {k v j : Nat} (h : j ≠ k) : gp_up f k v j = f j := if_neg h
def gp_rel (k gs : Nat) (w f : Nat → Nat) : Prop :=
  (∀ j, j < k → w j < gs ∧ f j ≤ j ∧ w (f j) = w j) ∧ (∀ i j, i < k → j < k → w i = w j → f i = f j) ∧ (∀ i j, i < k → j < k → w i < w j → f i < f j) ∧ (∀ g, g < gs → ∃ j, j < k ∧ w j = g) ∧ (∀ φ : Nat → Nat, gp_n φ gs = gp_n (fun j => if f j = j then φ (w j) else 0) k)
theorem gp_rel_0 (w f : Nat → Nat) : gp_rel 0 0 w f := ⟨fun j h => by omega, fun i j h => by omega, fun i j h => by omega, fun g h => by omega, fun _ => rfl⟩
theorem gp_rel_old {k gs : Nat} {w f : Nat → Nat} (h : gp_rel k gs w f) {j0 : Nat} (hj0 : j0 < k) : gp_rel (k + 1) gs (gp_up w k (w j0)) (gp_up f k (f j0)) := by
  obtain ⟨h1, h2, h3, h4, h5⟩ := h
  have u : ∀ {j}, j < k → gp_up w k (w j0) j = w j := fun h => gp_up_ne (by omega)
  have v : ∀ {j}, j < k → gp_up f k (f j0) j = f j := fun h => gp_up_ne (by omega)
  have a0 := h1 j0 hj0
  refine ⟨fun j hj => ?_, fun i j hi hj e => ?_, fun i j hi hj e => ?_, fun g hg => ?_, fun φ => ?_⟩
  · by_cases hk : j = k
    · subst hk
      rw [gp_up_at, gp_up_at, u (show f j0 < j by omega)]
      exact ⟨a0.1, by omega, a0.2.2⟩
    · have hj' : j < k := by omega
      have a := h1 j hj'
      rw [u hj', v hj', u (show f j < k by omega)]
      exact a
  · by_cases hi' : i < k
    · by_cases hj' : j < k
      · rw [u hi', u hj'] at e
        rw [v hi', v hj']
        exact h2 i j hi' hj' e
      · have : j = k := by omega
        subst this
        rw [u hi', gp_up_at] at e
        rw [v hi', gp_up_at]
        exact h2 i j0 hi' hj0 e
    · have : i = k := by omega
      subst this
      by_cases hj' : j < i
      · rw [gp_up_at, u hj'] at e
        rw [gp_up_at, v hj']
        exact h2 j0 j hj0 hj' e
      · have : j = i := by omega
        subst this
        rfl
  · by_cases hi' : i < k
    · by_cases hj' : j < k
      · rw [u hi', u hj'] at e
        rw [v hi', v hj']
        exact h3 i j hi' hj' e
      · have : j = k := by omega
        subst this
        rw [u hi', gp_up_at] at e
        rw [v hi', gp_up_at]
        exact h3 i j0 hi' hj0 e
    · have : i = k := by omega
      subst this
      by_cases hj' : j < i
      · rw [gp_up_at, u hj'] at e
        rw [gp_up_at, v hj']
        exact h3 j0 j hj0 hj' e
      · have : j = i := by omega
        subst this
        omega
  · obtain ⟨j, a, b⟩ := h4 g hg
    exact ⟨j, by omega, by rw [u a]; exact b⟩
  · have n : ¬ gp_up f k (f j0) k = k := by rw [gp_up_at]; omega
    rw [h5 φ, gp_n, if_neg n, Nat.add_zero]
    exact gp_n_congr (fun j hj => by rw [u hj, v hj])
theorem gp_rel_new {k gs : Nat} {w f : Nat → Nat} (h : gp_rel k gs w f) : gp_rel (k + 1) (gs + 1) (gp_up w k gs) (gp_up f k k) := by
  obtain ⟨h1, h2, h3, h4, h5⟩ := h
  have u : ∀ {j}, j < k → gp_up w k gs j = w j := fun h => gp_up_ne (by omega)
  have v : ∀ {j}, j < k → gp_up f k k j = f j := fun h => gp_up_ne (by omega)
  refine ⟨fun j hj => ?_, fun i j hi hj e => ?_, fun i j hi hj e => ?_, fun g hg => ?_, fun φ => ?_⟩
  · by_cases hk : j = k
    · subst hk
      rw [gp_up_at, gp_up_at, gp_up_at]
      exact ⟨by omega, by omega, rfl⟩
    · have hj' : j < k := by omega
      have a := h1 j hj'
      rw [u hj', v hj', u (show f j < k by omega)]
      exact ⟨by omega, a.2⟩
  · by_cases hi' : i < k
    · by_cases hj' : j < k
      · rw [u hi', u hj'] at e
        rw [v hi', v hj']
        exact h2 i j hi' hj' e
      · have : j = k := by omega
        subst this
        rw [u hi', gp_up_at] at e
        have := (h1 i hi').1
        omega
    · have : i = k := by omega
      subst this
      by_cases hj' : j < i
      · rw [gp_up_at, u hj'] at e
        have := (h1 j hj').1
        omega
      · have : j = i := by omega
        subst this
        rfl
  · by_cases hi' : i < k
    · by_cases hj' : j < k
      · rw [u hi', u hj'] at e
        rw [v hi', v hj']
        exact h3 i j hi' hj' e
      · have : j = k := by omega
        subst this
        rw [v hi', gp_up_at]
        have := (h1 i hi').2.1
        omega
    · have : i = k := by omega
      subst this
      by_cases hj' : j < i
      · rw [gp_up_at, u hj'] at e
        have := (h1 j hj').1
        omega
      · have : j = i := by omega
        subst this
        omega
  · by_cases hg' : g < gs
    · obtain ⟨j, a, b⟩ := h4 g hg'
      exact ⟨j, by omega, by rw [u a]; exact b⟩
    · exact ⟨k, by omega, by rw [gp_up_at]; omega⟩
  · rw [gp_n, h5 φ, gp_n]
    simp only [gp_up_at, if_true]
    congr 1
    exact gp_n_congr (fun j hj => by rw [u hj, v hj])
