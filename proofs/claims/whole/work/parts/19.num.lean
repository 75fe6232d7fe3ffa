/-! Numbers. -/
theorem q_le {x y : Int32} {a b : Nat} (hx : x = nI a) (hy : y = nI b) (ha : a < 2147483648) (hb : b < 2147483648) : x ≤ y ↔ a ≤ b := by
  subst hx; subst hy
  exact nI_leI ha hb
theorem q_lt {x y : Int32} {a b : Nat} (hx : x = nI a) (hy : y = nI b) (ha : a < 2147483648) (hb : b < 2147483648) : x < y ↔ a < b := by
  subst hx; subst hy
  exact nI_ltI ha hb
theorem q_eq {x y : Int32} {a b : Nat} (hx : x = nI a) (hy : y = nI b) (ha : a < 2147483648) (hb : b < 2147483648) : x = y ↔ a = b := by
  subst hx; subst hy
  exact nI_eq ha hb
theorem q_ix {a : Nat} (ha : a < 2147483648) : tm_ix (nI a) = a := by
  unfold tm_ix
  rw [nI_toInt ha]
  rfl
theorem q_in {a n : Nat} (h : a < n) (hn : n < 2147483648) : tm_in (nI a) n := by
  unfold tm_in
  rw [nI_toInt (by omega)]
  omega
/-- a number within bounds is one of the naturals -/
theorem q_of {x : Int32} {n : Nat} (h : tm_in x n) : x = nI (tm_ix x) ∧ tm_ix x < n := by
  obtain ⟨h1, h2⟩ := h
  unfold tm_ix
  have hlt := Int32.toInt_lt x
  have e : x.toInt.toNat < 2147483648 := by omega
  refine ⟨Int32.toInt_inj.mp ?_, by omega⟩
  rw [nI_toInt e]
  omega
theorem q_inI {x N : Int32} {n : Nat} (hN : N = nI n) (hn : n < 2147483648) : (0 ≤ x ∧ x < N) ↔ tm_in x n := by
  subst hN
  unfold tm_in
  rw [Int32.le_iff_toInt_le, Int32.lt_iff_toInt_lt, nI_toInt hn]
  rfl
theorem q_inI2 {x N : Int32} {n : Nat} (hN : N = nI n) (hn : n < 2147483647) : (0 ≤ x ∧ x ≤ N) ↔ tm_in x (n + 1) := by
  subst hN
  unfold tm_in
  rw [Int32.le_iff_toInt_le, Int32.le_iff_toInt_le, nI_toInt (by omega)]
  constructor
  · rintro ⟨h1, h2⟩
    have h1' : (0 : Int) ≤ x.toInt := h1
    exact ⟨h1', by omega⟩
  · rintro ⟨h1, h2⟩
    exact ⟨h1, by omega⟩
