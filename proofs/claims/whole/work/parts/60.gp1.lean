/-! Groupings, pure: sums, what one costs, its digits, its key. -/
def gp_s (g : Nat → Int) : Nat → Int
  | 0 => 0
  | n + 1 => gp_s g n + g n
def gp_n (g : Nat → Nat) : Nat → Nat
  | 0 => 0
  | n + 1 => gp_n g n + g n
theorem gp_s_congr {g h : Nat → Int} : ∀ {n : Nat}, (∀ r, r < n → g r = h r) → gp_s g n = gp_s h n
  | 0, _ => rfl
  | n + 1, e => by rw [gp_s, gp_s, gp_s_congr (fun r hr => e r (by omega)), e n (by omega)]
theorem gp_n_congr {g h : Nat → Nat} : ∀ {n : Nat}, (∀ r, r < n → g r = h r) → gp_n g n = gp_n h n
  | 0, _ => rfl
  | n + 1, e => by rw [gp_n, gp_n, gp_n_congr (fun r hr => e r (by omega)), e n (by omega)]
theorem gp_s_add (g h : Nat → Int) : ∀ n, gp_s (fun r => g r + h r) n = gp_s g n + gp_s h n
  | 0 => rfl
  | n + 1 => by
    have := gp_s_add g h n
    simp only [gp_s]
    omega
theorem gp_s_zero : ∀ n, gp_s (fun _ => 0) n = 0
  | 0 => rfl
  | n + 1 => by rw [gp_s, gp_s_zero n]; rfl
theorem gp_s_bd {g : Nat → Int} {B : Nat} : ∀ n, (∀ r, r < n → -(B : Int) ≤ g r ∧ g r ≤ B) → -((n * B : Nat) : Int) ≤ gp_s g n ∧ gp_s g n ≤ ((n * B : Nat) : Int)
  | 0, _ => by simp [gp_s]
  | n + 1, h => by
    have h1 := gp_s_bd n (fun r hr => h r (by omega))
    have h2 := h n (by omega)
    have e : (n + 1) * B = n * B + B := Nat.succ_mul n B
    rw [e, gp_s]
    omega
def gp_in (C : Nat → Nat → Int) (S : Nat) (f : Nat → Nat) (r : Nat) : Int := gp_s (fun j => if S.testBit j = true ∧ f j = f r then C j r else 0) r
def gp_cost (C : Nat → Nat → Int) (o : Int) (m S : Nat) (f : Nat → Nat) : Int := gp_s (fun r => if S.testBit r = true then (if f r = r then o else 0) + gp_in C S f r else 0) m
def gp_dig (m S : Nat) (f : Nat → Nat) : Int := gp_s (fun r => if S.testBit r = true then (f r : Int) * 16 ^ (9 - r) else 0) m
def gp_key (C : Nat → Nat → Int) (o : Int) (m S : Nat) (f : Nat → Nat) : Int := gp_cost C o m S f * 1099511627776 + gp_dig m S f
theorem gp_cost_congr {C : Nat → Nat → Int} {o : Int} {m S : Nat} {f h : Nat → Nat} (e : ∀ r, r < m → S.testBit r = true → f r = h r) : gp_cost C o m S f = gp_cost C o m S h := by
  apply gp_s_congr
  intro r hr
  by_cases hS : S.testBit r = true
  · rw [if_pos hS, if_pos hS, e r hr hS]
    congr 1
    apply gp_s_congr
    intro j hj
    by_cases hj2 : S.testBit j = true
    · rw [e j (by omega) hj2, e r hr hS]
    · rw [if_neg (fun z => hj2 z.1), if_neg (fun z => hj2 z.1)]
  · rw [if_neg hS, if_neg hS]
theorem gp_dig_congr {m S : Nat} {f h : Nat → Nat} (e : ∀ r, r < m → S.testBit r = true → f r = h r) : gp_dig m S f = gp_dig m S h := by
  apply gp_s_congr
  intro r hr
  by_cases hS : S.testBit r = true
  · rw [if_pos hS, if_pos hS, e r hr hS]
  · rw [if_neg hS, if_neg hS]
theorem gp_key_congr {C : Nat → Nat → Int} {o : Int} {m S : Nat} {f h : Nat → Nat} (e : ∀ r, r < m → S.testBit r = true → f r = h r) : gp_key C o m S f = gp_key C o m S h := by
  unfold gp_key
  rw [gp_cost_congr e, gp_dig_congr e]
theorem gp_key_add {C : Nat → Nat → Int} {o : Int} {m S g U : Nat} {f : Nat → Nat} (hg : ∀ r, g.testBit r = true → S.testBit r = true) (hU : ∀ r, U.testBit r = (S.testBit r && !g.testBit r)) (hx : ∀ r s, r < m → s < m → g.testBit r = true → U.testBit s = true → f r ≠ f s) : gp_key C o m S f = gp_key C o m g f + gp_key C o m U f := by
  have h1 : gp_cost C o m S f = gp_cost C o m g f + gp_cost C o m U f := by
    unfold gp_cost
    rw [← gp_s_add]
    apply gp_s_congr
    intro r hr
    by_cases hS : S.testBit r = true
    · by_cases h : g.testBit r = true
      · have u : ¬ U.testBit r = true := by rw [hU, h]; simp
        rw [if_pos hS, if_pos h, if_neg u, Int.add_zero]
        congr 1
        apply gp_s_congr
        intro j hj
        have : (S.testBit j = true ∧ f j = f r) ↔ (g.testBit j = true ∧ f j = f r) := by
          constructor
          · rintro ⟨a, b⟩
            refine ⟨?_, b⟩
            by_cases c : g.testBit j = true
            · exact c
            · exact absurd b.symm (hx r j hr (by omega) h (by rw [hU, a]; simp [c]))
          · rintro ⟨a, b⟩
            exact ⟨hg j a, b⟩
        simp only [this]
      · have u : U.testBit r = true := by rw [hU, hS]; simp [h]
        rw [if_pos hS, if_neg h, if_pos u, Int.zero_add]
        congr 1
        apply gp_s_congr
        intro j hj
        have : (S.testBit j = true ∧ f j = f r) ↔ (U.testBit j = true ∧ f j = f r) := by
          constructor
          · rintro ⟨a, b⟩
            refine ⟨?_, b⟩
            by_cases c : g.testBit j = true
            · exact absurd b (hx j r (by omega) hr c u)
            · rw [hU, a]; simp [c]
          · rintro ⟨a, b⟩
            rw [hU] at a
            exact ⟨by simp at a; exact a.1, b⟩
        simp only [this]
    · have h : ¬ g.testBit r = true := fun z => hS (hg r z)
      have u : ¬ U.testBit r = true := by rw [hU]; simp [hS]
      rw [if_neg hS, if_neg h, if_neg u]
      rfl
  have h2 : gp_dig m S f = gp_dig m g f + gp_dig m U f := by
    unfold gp_dig
    rw [← gp_s_add]
    apply gp_s_congr
    intro r hr
    by_cases hS : S.testBit r = true
    · by_cases h : g.testBit r = true
      · have u : ¬ U.testBit r = true := by rw [hU, h]; simp
        rw [if_pos hS, if_pos h, if_neg u, Int.add_zero]
      · have u : U.testBit r = true := by rw [hU, hS]; simp [h]
        rw [if_pos hS, if_neg h, if_pos u, Int.zero_add]
    · have h : ¬ g.testBit r = true := fun z => hS (hg r z)
      have u : ¬ U.testBit r = true := by rw [hU]; simp [hS]
      rw [if_neg hS, if_neg h, if_neg u]
      rfl
  unfold gp_key
  rw [h1, h2]
  omega
theorem gp_pw {n : Nat} (h : n < 10) : (16 : Int) ^ (10 - n) = 16 * 16 ^ (9 - n) := by
  rw [show 10 - n = (9 - n) + 1 by omega, Int.pow_succ]
  omega
theorem gp_pp (n : Nat) : (0 : Int) < 16 ^ n := Int.pow_pos (by decide)
theorem gp_mb {P : Int} {a : Nat} (hP : 0 < P) (ha : a ≤ 15) : 0 ≤ (a : Int) * P ∧ (a : Int) * P ≤ 15 * P := ⟨Int.mul_nonneg (by omega) (by omega), Int.mul_le_mul_of_nonneg_right (by omega) (by omega)⟩
theorem gp_dig_bd {S : Nat} {f : Nat → Nat} : ∀ n, n ≤ 10 → (∀ r, r < n → S.testBit r = true → f r ≤ 15) → 0 ≤ gp_dig n S f ∧ gp_dig n S f + 16 ^ (10 - n) ≤ 1099511627776
  | 0, _, _ => by
    have e : gp_dig 0 S f = 0 := rfl
    rw [e]
    decide
  | n + 1, hn, hf => by
    have h1 := gp_dig_bd n (by omega) (fun r hr => hf r (by omega))
    have e := gp_pw (n := n) (by omega)
    have p := gp_pp (9 - n)
    have e2 : 10 - (n + 1) = 9 - n := by omega
    rw [e2]
    unfold gp_dig at h1 ⊢
    rw [gp_s]
    by_cases h : S.testBit n = true
    · have := gp_mb p (hf n (by omega) h)
      rw [if_pos h]
      omega
    · rw [if_neg h]
      omega
theorem gp_cost_bd {C : Nat → Nat → Int} {o : Int} {m S : Nat} {f : Nat → Nat} (hm : m ≤ 10) (hC : ∀ j r, -1000 ≤ C j r ∧ C j r ≤ 1000) (ho : 0 ≤ o ∧ o ≤ 100) : -101000 ≤ gp_cost C o m S f ∧ gp_cost C o m S f ≤ 101000 := by
  have h := gp_s_bd (g := fun r => if S.testBit r = true then (if f r = r then o else 0) + gp_in C S f r else 0) (B := 10100) m (fun r hr => by
    have h1 := gp_s_bd (g := fun j => if S.testBit j = true ∧ f j = f r then C j r else 0) (B := 1000) r (fun j hj => by
      have := hC j r
      by_cases h : S.testBit j = true ∧ f j = f r
      · simp only [if_pos h]; omega
      · simp only [if_neg h]; omega)
    have h2 : gp_in C S f r = gp_s (fun j => if S.testBit j = true ∧ f j = f r then C j r else 0) r := rfl
    rw [← h2] at h1
    have h3 : r * 1000 ≤ 10000 := by omega
    by_cases hS : S.testBit r = true
    · simp only [if_pos hS]
      by_cases hf : f r = r
      · simp only [if_pos hf]; omega
      · simp only [if_neg hf]; omega
    · simp only [if_neg hS]; omega)
  have e : gp_cost C o m S f = gp_s (fun r => if S.testBit r = true then (if f r = r then o else 0) + gp_in C S f r else 0) m := rfl
  rw [← e] at h
  have : m * 10100 ≤ 101000 := by omega
  omega
theorem gp_key_bd {C : Nat → Nat → Int} {o : Int} {m S : Nat} {f : Nat → Nat} (hm : m ≤ 10) (hC : ∀ j r, -1000 ≤ C j r ∧ C j r ≤ 1000) (ho : 0 ≤ o ∧ o ≤ 100) (hf : ∀ r, r < m → S.testBit r = true → f r ≤ 15) : -288230376151711744 < gp_key C o m S f ∧ gp_key C o m S f < 288230376151711744 := by
  have h1 := gp_cost_bd (S := S) (f := f) hm hC ho
  have h2 := gp_dig_bd (S := S) (f := f) m hm hf
  have p := gp_pp (10 - m)
  unfold gp_key
  omega
/-- a set with just these members -/
theorem gp_mk (p : Nat → Bool) : ∀ m, ∃ g, g < 2 ^ m ∧ ∀ r, g.testBit r = (decide (r < m) && p r)
  | 0 => ⟨0, by decide, fun r => by simp⟩
  | m + 1 => by
    obtain ⟨g, h1, h2⟩ := gp_mk p m
    by_cases hp : p m = true
    · refine ⟨2 ^ m + g, by rw [Nat.pow_succ]; omega, fun r => ?_⟩
      by_cases hr : r = m
      · subst hr
        rw [Nat.testBit_two_pow_add_eq, h2]
        simp [hp]
      · by_cases hr2 : r < m
        · rw [Nat.testBit_two_pow_add_gt hr2, h2]
          have : r < m + 1 := by omega
          simp [hr2, this]
        · have : ¬ r < m + 1 := by omega
          rw [Nat.testBit_lt_two_pow (Nat.lt_of_lt_of_le (show 2 ^ m + g < 2 ^ (m + 1) by rw [Nat.pow_succ]; omega) (Nat.pow_le_pow_right (by decide) (by omega)))]
          simp [this]
    · refine ⟨g, by rw [Nat.pow_succ]; omega, fun r => ?_⟩
      rw [h2]
      by_cases hr : r = m
      · subst hr
        simp [hp]
      · have : (r < m + 1) ↔ r < m := by omega
        simp [this]
