/-! Names as numbers. -/
theorem q_rng {x : Int32} {lo hi : Nat} (hlo : lo < 1000) (hhi : hi < 1000) (h1 : nI lo ≤ x) (h2 : x ≤ nI hi) : ∃ t, x = nI (lo + t) ∧ lo + t ≤ hi := by
  have h0 : ¬ x < 0 := fun z => by
    have a1 : (nI lo).toInt = lo := nI_toInt (by omega)
    rw [Int32.le_iff_toInt_le, a1] at h1
    rw [Int32.lt_iff_toInt_lt] at z
    have z' : x.toInt < 0 := z
    omega
  obtain ⟨j, hj, rfl⟩ := nI_of2 (M := nI hi) (n := hi) (nI_toInt (by omega)) h0 h2
  have := (nI_leI (a := lo) (b := j) (by omega) (by omega)).mp h1
  exact ⟨j - lo, by rw [Nat.add_sub_cancel' this], by omega⟩
def pk32 (a : Nat → Nat) : Nat → Nat
  | 0 => 0
  | n + 1 => pk32 a n + a n * 32 ^ n
theorem pk32_lt {a : Nat → Nat} : ∀ n, (∀ t, t < n → a t < 32) → pk32 a n < 32 ^ n
  | 0, _ => by simp [pk32]
  | n + 1, h => by
    have h1 := pk32_lt n (fun t ht => h t (by omega))
    have h2 := h n (by omega)
    rw [pk32, Nat.pow_succ]
    have : a n * 32 ^ n ≤ 31 * 32 ^ n := Nat.mul_le_mul_right _ (by omega)
    omega
theorem pk32_dg {a : Nat → Nat} : ∀ n t, (∀ t, t < n → a t < 32) → pk32 a n / 32 ^ t % 32 = if t < n then a t else 0
  | 0, t, _ => by simp [pk32]
  | n + 1, t, h => by
    have h1 := pk32_dg n t (fun t ht => h t (by omega))
    have h2 := pk32_lt n (fun t ht => h t (by omega))
    have h3 := h n (by omega)
    rw [pk32]
    by_cases ht : t < n
    · rw [if_pos ht] at h1
      rw [if_pos (by omega)]
      have e : a n * 32 ^ n = 32 ^ t * (32 * (a n * 32 ^ (n - t - 1))) := by
        have : (32 : Nat) ^ n = 32 ^ t * (32 * 32 ^ (n - t - 1)) := by
          rw [← Nat.pow_succ', ← Nat.pow_add]
          congr 1
          omega
        rw [this]
        simp only [Nat.mul_left_comm, Nat.mul_comm, Nat.mul_assoc]
      rw [e, Nat.add_mul_div_left _ _ (Nat.pow_pos (by decide)), Nat.add_mul_mod_self_left]
      exact h1
    · by_cases h4 : t = n
      · subst h4
        rw [if_pos (by omega), Nat.add_mul_div_right _ _ (Nat.pow_pos (by decide)), Nat.div_eq_of_lt h2, Nat.zero_add, Nat.mod_eq_of_lt h3]
      · rw [if_neg (by omega)]
        have h5 := pk32_lt (n + 1) h
        rw [pk32] at h5
        rw [Nat.div_eq_of_lt (Nat.lt_of_lt_of_le h5 (Nat.pow_le_pow_right (by decide) (by omega)))]
theorem pk32_inj {a a' : Nat → Nat} {n n' : Nat} (h : ∀ t, t < n → 1 ≤ a t ∧ a t < 32) (h' : ∀ t, t < n' → 1 ≤ a' t ∧ a' t < 32) : pk32 a n = pk32 a' n' ↔ n = n' ∧ ∀ t, t < n → a t = a' t := by
  constructor
  · intro e
    have k : ∀ t, (if t < n then a t else 0) = if t < n' then a' t else 0 := fun t => by
      rw [← pk32_dg n t (fun t ht => (h t ht).2), ← pk32_dg n' t (fun t ht => (h' t ht).2), e]
    have hn : n = n' := by
      rcases Nat.lt_trichotomy n n' with z | z | z
      · have := k n
        rw [if_neg (by omega), if_pos z] at this
        have := h' n z
        omega
      · exact z
      · have := k n'
        rw [if_pos z, if_neg (by omega)] at this
        have := h n' z
        omega
    refine ⟨hn, fun t ht => ?_⟩
    have := k t
    rw [if_pos ht, if_pos (by omega)] at this
    exact this
  · rintro ⟨rfl, e⟩
    clear h h'
    induction n with
    | zero => rfl
    | succ n ih => rw [pk32, pk32, ih (fun t ht => e t (by omega)), e n (by omega)]
theorem nI_orsh {x y s : Nat} (hx : x < 2 ^ s) (hs : s ≤ 25) : nI x ||| (nI y <<< (nI s &&& 31)) = nI (x + y * 2 ^ s) := by
  apply tb_ext
  intro k hk
  rw [tb_or, tb_nI _ _ hk, tb_shl (by omega) hk, tb_nI _ _ hk]
  have : x + y * 2 ^ s = y <<< s ||| x := by
    rw [← Nat.shiftLeft_add_eq_or_of_lt hx, Nat.shiftLeft_eq, Nat.add_comm]
  rw [this, Nat.testBit_or, Nat.testBit_shiftLeft]
  by_cases h : s ≤ k
  · rw [tb_nI _ _ (by omega)]
    simp [h, Bool.or_comm]
  · simp [h]
/-- a name: its number, its length, its letters -/
def p_nr (w l : Int32) (f : Nat → Int32) : Prop := ∃ (a : Nat → Nat) (n : Nat), 1 ≤ n ∧ n ≤ 6 ∧ l = nI n ∧ w = nI (pk32 a n) ∧ ∀ t, t < n → 1 ≤ a t ∧ a t ≤ 26 ∧ f t = nI (96 + a t)
theorem p_nr_lt {a : Nat → Nat} {n : Nat} (hn : n ≤ 6) (h : ∀ t, t < n → 1 ≤ a t ∧ a t ≤ 26) : pk32 a n < 1073741824 := by
  have := pk32_lt n (fun t ht => show a t < 32 by have := h t ht; omega)
  have h2 : (32 : Nat) ^ n ≤ 32 ^ 6 := Nat.pow_le_pow_right (by decide) hn
  omega
theorem p_nr_eq {w w' l l' : Int32} {f f' : Nat → Int32} (h : p_nr w l f) (h' : p_nr w' l' f') : w = w' ↔ l = l' ∧ ∀ t, nI t < l → t < 6 → f t = f' t := by
  obtain ⟨a, n, h1, h2, rfl, rfl, h3⟩ := h
  obtain ⟨a', n', h1', h2', rfl, rfl, h3'⟩ := h'
  have b := p_nr_lt h2 (fun t ht => ⟨(h3 t ht).1, (h3 t ht).2.1⟩)
  have b' := p_nr_lt h2' (fun t ht => ⟨(h3' t ht).1, (h3' t ht).2.1⟩)
  rw [nI_eq (by omega) (by omega), nI_eq (by omega) (by omega), pk32_inj (fun t ht => ⟨(h3 t ht).1, by have := (h3 t ht).2.1; omega⟩) (fun t ht => ⟨(h3' t ht).1, by have := (h3' t ht).2.1; omega⟩)]
  constructor
  · rintro ⟨rfl, e⟩
    refine ⟨rfl, fun t ht h6 => ?_⟩
    have ht' : t < n := (nI_ltI (by omega) (by omega)).mp ht
    rw [(h3 t ht').2.2, (h3' t ht').2.2, e t ht']
  · rintro ⟨rfl, e⟩
    refine ⟨rfl, fun t ht => ?_⟩
    have := e t ((nI_ltI (by omega) (by omega)).mpr ht) (by omega)
    have q := h3 t ht
    have q' := h3' t ht
    rw [q.2.2, q'.2.2, nI_eq (by omega) (by omega)] at this
    omega
theorem p_nr_m1 {w l : Int32} {f : Nat → Int32} (h : p_nr w l f) : w ≠ -1 := by
  obtain ⟨a, n, h1, h2, rfl, rfl, h3⟩ := h
  have b := p_nr_lt h2 (fun t ht => ⟨(h3 t ht).1, (h3 t ht).2.1⟩)
  intro z
  have := congrArg Int32.toInt z
  rw [nI_toInt (by omega)] at this
  have e : (-1 : Int32).toInt = -1 := by decide
  rw [e] at this
  omega
/-- the letters written down by the reference -/
def p_lt (c : Nat → Int32) (m : Nat) : Nat → (Nat → Int32) → Nat → Nat → (Nat → Int32)
  | 0, N, _, _ => N
  | k + 1, N, q, p => if 97 ≤ c p ∧ c p ≤ 122 then p_lt c m k (if q < 6 ∧ m < 3 then p_upf N (6 * m + q) (c p) else N) (q + 1) (p + 1) else N
/-- both readings of a name belong together -/
theorem p_rn_lt (c : Nat → Int32) (m : Nat) (hm : m < 3) (p0 : Nat) (a : Nat → Nat) : ∀ (k q : Nat) (v : Int32) (N : Nat → Int32), (q ≤ 6 → v = nI (pk32 a q) ∧ ∀ t, t < q → 1 ≤ a t ∧ a t ≤ 26 ∧ N (6 * m + t) = nI (96 + a t)) → (∀ t, a t = tm_ix (c (p0 + t) - 96)) → (p_rn c k v q (p0 + q)).2.1 ≤ 6 → (p_rn c k v q (p0 + q)).1 = nI (pk32 a (p_rn c k v q (p0 + q)).2.1) ∧ ∀ t, t < (p_rn c k v q (p0 + q)).2.1 → 1 ≤ a t ∧ a t ≤ 26 ∧ p_lt c m k N q (p0 + q) (6 * m + t) = nI (96 + a t) := by
  intro k
  induction k with
  | zero => intro q v N h _ h6; exact h h6
  | succ k ih =>
    intro q v N h ha h6
    rw [p_rn] at h6 ⊢
    rw [p_lt]
    by_cases hc : 97 ≤ c (p0 + q) ∧ c (p0 + q) ≤ 122
    · rw [if_pos hc] at h6 ⊢
      rw [if_pos hc]
      refine ih (q + 1) _ _ (fun hq => ?_) ha h6
      obtain ⟨hv, hl⟩ := h (by omega)
      obtain ⟨t, et, ht⟩ := q_rng (lo := 97) (hi := 122) (by decide) (by decide) hc.1 hc.2
      have ec : c (p0 + q) - 96 = nI (1 + t) := by
        rw [et]
        show nI (97 + t) - nI 96 = _
        rw [pk_sub (by omega)]
        congr 1
        omega
      have ea : a q = 1 + t := by
        rw [ha q, ec, q_ix (by omega)]
      have es : (5 : Int32) * nI q = nI (5 * q) := pk_mul 5 q
      have ep : (2 : Nat) ^ (5 * q) = 32 ^ q := by rw [Nat.pow_mul]
      have hx := pk32_lt q (fun t ht => show a t < 32 by have := hl t ht; omega)
      constructor
      · rw [if_pos (by omega), hv, ec, es, nI_orsh (by rw [ep]; exact hx) (by omega), pk32, ep, ea]
      · intro t' ht'
        rw [if_pos ⟨by omega, hm⟩]
        unfold p_upf
        by_cases e : t' = q
        · subst e
          rw [if_pos rfl, ea, et]
          refine ⟨by omega, by omega, ?_⟩
          congr 1
          omega
        · rw [if_neg (by omega)]
          exact hl t' (by omega)
    · rw [if_neg hc] at h6 ⊢
      rw [if_neg hc]
      exact h h6
theorem p_lt_o (c : Nat → Int32) (m : Nat) : ∀ (k q p : Nat) (N : Nat → Int32) (j : Nat), j < 6 * m ∨ 6 * m + 5 < j → p_lt c m k N q p j = N j := by
  intro k
  induction k with
  | zero => intro q p N j hj; rfl
  | succ k ih =>
    intro q p N j hj
    rw [p_lt]
    split
    · rw [ih _ _ _ _ hj]
      split
      · unfold p_upf
        rw [if_neg (by omega)]
      · rfl
    · rfl
def p_eqn (N N' : Nat → Int32) : Nat → Nat → Bool
  | 0, _ => true
  | n + 1, k => if N k = N' k then p_eqn N N' n (k + 1) else false
theorem p_eqn_iff (N N' : Nat → Int32) : ∀ n k, p_eqn N N' n k = true ↔ ∀ t, k ≤ t → t < k + n → N t = N' t := by
  intro n
  induction n with
  | zero => intro k; simp [p_eqn]; intro t h1 h2; omega
  | succ n ih =>
    intro k
    rw [p_eqn]
    by_cases h : N k = N' k
    · rw [if_pos h, ih]
      constructor
      · intro z t h1 h2
        by_cases e : t = k
        · subst e; exact h
        · exact z t (by omega) (by omega)
      · intro z t h1 h2
        exact z t (by omega) (by omega)
    · rw [if_neg h]
      constructor
      · intro z; exact absurd z (by simp)
      · intro z; exact absurd (z k (by omega) (by omega)) h
theorem p_hn_iff (f : Nat → Int32) (nm : Int32) : ∀ n i, p_hn f nm i n = true ↔ ∃ t, i ≤ t ∧ t < i + n ∧ f t = nm := by
  intro n
  induction n with
  | zero => intro i; simp [p_hn]; intro t h1 h2; omega
  | succ n ih =>
    intro i
    rw [p_hn]
    by_cases h : f i = nm
    · simp only [h, if_true]
      exact ⟨fun _ => ⟨i, by omega, by omega, h⟩, fun _ => by simp⟩
    · simp only [h, if_false]
      constructor
      · intro z
        obtain ⟨t, h1, h2, h3⟩ := (ih (i + 1)).mp (by simpa [h] using z)
        exact ⟨t, by omega, by omega, h3⟩
      · rintro ⟨t, h1, h2, h3⟩
        have : t ≠ i := fun e => h (by rw [← e]; exact h3)
        simpa [h] using (ih (i + 1)).mpr ⟨t, by omega, by omega, h3⟩
