/-! Keys of groups: how they grow. -/
theorem gp_s_one {f g : Nat → Int} {t : Nat} : ∀ n, t < n → (∀ r, r < n → r ≠ t → f r = g r) → gp_s f n = gp_s g n + (f t - g t)
  | 0, h, _ => by omega
  | n + 1, h, e => by
    rw [gp_s, gp_s]
    by_cases hn : t = n
    · subst hn
      rw [gp_s_congr (fun r hr => e r (by omega) (by omega))]
      omega
    · rw [gp_s_one n (by omega) (fun r hr hne => e r (by omega) hne), e n (by omega) (fun z => hn z.symm)]
      omega
section KEY
variable {C : Nat → Nat → Int} {o : Int} {m : Nat}
/-- one more member, above all others -/
theorem gp_key_up {t rest l : Nat} (ht : t < m) (hr : rest < 2 ^ t) (hl : l ≠ t) : gp_key C o m (2 ^ t + rest) (fun _ => l) = gp_key C o m rest (fun _ => l) + gp_s (fun j => if rest.testBit j = true then C j t else 0) t * 1099511627776 + (l : Int) * 16 ^ (9 - t) := by
  have b := bit_pow hr
  have bt : rest.testBit t = false := bit_lt hr (Nat.le_refl t)
  have hc : gp_cost C o m (2 ^ t + rest) (fun _ => l) = gp_cost C o m rest (fun _ => l) + gp_s (fun j => if rest.testBit j = true then C j t else 0) t := by
    unfold gp_cost
    rw [gp_s_one (f := fun r => if (2 ^ t + rest).testBit r = true then (if l = r then o else 0) + gp_in C (2 ^ t + rest) (fun _ => l) r else 0) (g := fun r => if rest.testBit r = true then (if l = r then o else 0) + gp_in C rest (fun _ => l) r else 0) m ht (fun r hr2 hne => ?_)]
    · congr 1
      have e1 : (2 ^ t + rest).testBit t = true := by rw [b]; simp
      simp only [e1, bt, if_true, Bool.false_eq_true, if_false, hl]
      have : gp_in C (2 ^ t + rest) (fun _ => l) t = gp_s (fun j => if rest.testBit j = true then C j t else 0) t := by
        apply gp_s_congr
        intro j hj
        have e2 : (2 ^ t + rest).testBit j = rest.testBit j := by
          rw [b]
          have : ¬ j = t := by omega
          simp [this]
        rw [e2]
        simp
      rw [this]
      omega
    · have e1 : (2 ^ t + rest).testBit r = rest.testBit r := by rw [b]; simp [hne]
      show (if (2 ^ t + rest).testBit r = true then (if l = r then o else 0) + gp_in C (2 ^ t + rest) (fun _ => l) r else 0) = (if rest.testBit r = true then (if l = r then o else 0) + gp_in C rest (fun _ => l) r else 0)
      rw [e1]
      by_cases hb : rest.testBit r = true
      · rw [if_pos hb, if_pos hb]
        congr 1
        apply gp_s_congr
        intro j hj
        have hrt : r < t := by
          apply Nat.lt_of_not_le
          intro z
          rw [bit_lt hr z] at hb
          exact absurd hb (by decide)
        have e2 : (2 ^ t + rest).testBit j = rest.testBit j := by
          rw [b]
          have : ¬ j = t := by omega
          simp [this]
        rw [e2]
      · rw [if_neg hb, if_neg hb]
  have hd : gp_dig m (2 ^ t + rest) (fun _ => l) = gp_dig m rest (fun _ => l) + (l : Int) * 16 ^ (9 - t) := by
    unfold gp_dig
    rw [gp_s_one (f := fun r => if (2 ^ t + rest).testBit r = true then ((l : Nat) : Int) * 16 ^ (9 - r) else 0) (g := fun r => if rest.testBit r = true then ((l : Nat) : Int) * 16 ^ (9 - r) else 0) m ht (fun r hr2 hne => ?_)]
    · congr 1
      have e1 : (2 ^ t + rest).testBit t = true := by rw [b]; simp
      simp only [e1, bt, if_true, Bool.false_eq_true, if_false]
      omega
    · have e1 : (2 ^ t + rest).testBit r = rest.testBit r := by rw [b]; simp [hne]
      show (if (2 ^ t + rest).testBit r = true then ((l : Nat) : Int) * 16 ^ (9 - r) else 0) = _
      rw [e1]
  unfold gp_key
  rw [hc, hd]
  omega
theorem gp_key_1 {t : Nat} (ht : t < m) : gp_key C o m (2 ^ t) (fun _ => t) = o * 1099511627776 + (t : Int) * 16 ^ (9 - t) := by
  have z0 : ∀ f, gp_key C o m 0 f = 0 := fun f => by
    have h1 : gp_cost C o m 0 f = 0 := by
      rw [← gp_s_zero m]
      exact gp_s_congr (fun r _ => by simp)
    have h2 : gp_dig m 0 f = 0 := by
      rw [← gp_s_zero m]
      exact gp_s_congr (fun r _ => by simp)
    unfold gp_key
    rw [h1, h2]
    rfl
  have hc : gp_cost C o m (2 ^ t) (fun _ => t) = o := by
    have e0 : gp_cost C o m 0 (fun _ => t) = 0 := by
      rw [← gp_s_zero m]
      exact gp_s_congr (fun r _ => by simp)
    have : gp_cost C o m (2 ^ t) (fun _ => t) = gp_cost C o m 0 (fun _ => t) + o := by
      unfold gp_cost
      rw [gp_s_one (f := fun r => if (2 ^ t : Nat).testBit r = true then (if t = r then o else 0) + gp_in C (2 ^ t) (fun _ => t) r else 0) (g := fun r => if (0 : Nat).testBit r = true then (if t = r then o else 0) + gp_in C 0 (fun _ => t) r else 0) m ht (fun r hr2 hne => ?_)]
      · congr 1
        have e1 : (2 ^ t : Nat).testBit t = true := Nat.testBit_two_pow_self
        have e2 : gp_in C (2 ^ t) (fun _ => t) t = 0 := by
          rw [← gp_s_zero t]
          apply gp_s_congr
          intro j hj
          have : (2 ^ t : Nat).testBit j = false := Nat.testBit_two_pow_of_ne (by omega)
          rw [this]
          simp
        simp only [e1, e2, Nat.zero_testBit, if_true, Bool.false_eq_true, if_false]
        omega
      · have : (2 ^ t : Nat).testBit r = false := Nat.testBit_two_pow_of_ne (fun z => hne z.symm)
        show (if (2 ^ t : Nat).testBit r = true then _ else _) = (if (0 : Nat).testBit r = true then _ else _)
        rw [this, Nat.zero_testBit]
        simp
    rw [this, e0]
    omega
  have hd : gp_dig m (2 ^ t) (fun _ => t) = (t : Int) * 16 ^ (9 - t) := by
    have e0 : gp_dig m 0 (fun _ => t) = 0 := by
      rw [← gp_s_zero m]
      exact gp_s_congr (fun r _ => by simp)
    have : gp_dig m (2 ^ t) (fun _ => t) = gp_dig m 0 (fun _ => t) + (t : Int) * 16 ^ (9 - t) := by
      unfold gp_dig
      rw [gp_s_one (f := fun r => if (2 ^ t : Nat).testBit r = true then ((t : Nat) : Int) * 16 ^ (9 - r) else 0) (g := fun r => if (0 : Nat).testBit r = true then ((t : Nat) : Int) * 16 ^ (9 - r) else 0) m ht (fun r hr2 hne => ?_)]
      · congr 1
        have e1 : (2 ^ t : Nat).testBit t = true := Nat.testBit_two_pow_self
        simp only [e1, Nat.zero_testBit, if_true, Bool.false_eq_true, if_false]
        omega
      · have : (2 ^ t : Nat).testBit r = false := Nat.testBit_two_pow_of_ne (fun z => hne z.symm)
        show (if (2 ^ t : Nat).testBit r = true then _ else _) = (if (0 : Nat).testBit r = true then _ else _)
        rw [this, Nat.zero_testBit]
    rw [this, e0]
    omega
  unfold gp_key
  rw [hc, hd]
/-- no two in it that must not be one -/
def gp_nb (C : Nat → Nat → Int) (m g : Nat) : Prop := ∀ j r, j < r → r < m → g.testBit j = true → g.testBit r = true → C j r ≠ 1000
theorem gp_nb_up {t rest : Nat} (ht : t < m) (hr : rest < 2 ^ t) : gp_nb C m (2 ^ t + rest) ↔ gp_nb C m rest ∧ ∀ j, j < t → rest.testBit j = true → C j t ≠ 1000 := by
  have b := bit_pow hr
  have bi : ∀ k, rest.testBit k = true → k < t := fun k hk => by
    apply Nat.lt_of_not_le
    intro z
    rw [bit_lt hr z] at hk
    exact absurd hk (by decide)
  constructor
  · intro h
    refine ⟨fun j r h1 h2 h3 h4 => h j r h1 h2 (by rw [b, h3]; simp) (by rw [b, h4]; simp), fun j h1 h2 => h j t h1 ht (by rw [b, h2]; simp) (by rw [b]; simp)⟩
  · rintro ⟨h, h'⟩ j r h1 h2 h3 h4
    rw [b] at h3 h4
    by_cases e : r = t
    · subst e
      have hne : ¬ j = r := by omega
      have : rest.testBit j = true := by simpa [hne] using h3
      exact h' j h1 this
    · have hr4 : rest.testBit r = true := by simpa [e] using h4
      have := bi r hr4
      have hne : ¬ j = t := by omega
      have hj3 : rest.testBit j = true := by simpa [hne] using h3
      exact h j r h1 h2 hj3 hr4
end KEY
