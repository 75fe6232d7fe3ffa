/-! Long numbers; sets as numbers. -/
def lI (z : Int) : Int64 := Int64.ofInt z
theorem lI_add (a b : Int) : lI a + lI b = lI (a + b) := (Int64.ofInt_add a b).symm
theorem lI_toInt {z : Int} (h1 : -4000000000000000000 ≤ z) (h2 : z ≤ 4000000000000000000) : (lI z).toInt = z := Int64.toInt_ofInt_of_le (by omega) (by omega)
theorem lI_eq {a b : Int} (ha : -4000000000000000000 ≤ a ∧ a ≤ 4000000000000000000) (hb : -4000000000000000000 ≤ b ∧ b ≤ 4000000000000000000) : lI a = lI b ↔ a = b := by
  constructor
  · intro h
    have := congrArg Int64.toInt h
    rw [lI_toInt ha.1 ha.2, lI_toInt hb.1 hb.2] at this
    exact this
  · intro h; rw [h]
theorem lI_lt {a b : Int} (ha : -4000000000000000000 ≤ a ∧ a ≤ 4000000000000000000) (hb : -4000000000000000000 ≤ b ∧ b ≤ 4000000000000000000) : lI a < lI b ↔ a < b := by
  rw [Int64.lt_iff_toInt_lt, lI_toInt ha.1 ha.2, lI_toInt hb.1 hb.2]
theorem lI_i {z : Int} (h1 : -1000000000 ≤ z) (h2 : z ≤ 1000000000) : (iI z).toInt64 = lI z := by
  apply Int64.toInt_inj.mp
  rw [Int32.toInt_toInt64, iI_toInt h1 h2, lI_toInt (by omega) (by omega)]
theorem lI_nv : (1152921504606846976 : Int64) = lI gp_NV := by decide
theorem lI_0 : (0 : Int64) = lI 0 := by decide
theorem lsh_s : ∀ k, k < 64 → (((nI k).toInt64 &&& 63).toBitVec.smod 64).toNat = k := by decide +kernel
theorem lI_shl (c : Int) {s : Nat} (hs : s < 63) : lI c <<< ((nI s).toInt64 &&& 63) = lI (c * 2 ^ s) := by
  apply Int64.toBitVec_inj.mp
  show (lI c).toBitVec <<< ((((nI s).toInt64 &&& 63).toBitVec.smod 64).toNat) = _
  rw [lsh_s s (by omega), BitVec.shiftLeft_eq_mul_twoPow]
  have e : lI (c * 2 ^ s) = lI c * lI (2 ^ s) := Int64.ofInt_mul c (2 ^ s)
  rw [e]
  show _ = (lI c).toBitVec * (lI (2 ^ s)).toBitVec
  congr 1
  show BitVec.twoPow 64 s = BitVec.ofInt 64 (2 ^ s)
  have h2 : ((2 : Int) ^ s) = (((2 ^ s : Nat)) : Int) := by simp
  rw [h2, BitVec.ofInt_natCast]
  apply BitVec.eq_of_toNat_eq
  rw [BitVec.toNat_twoPow, BitVec.toNat_ofNat]
theorem lI_shr {z : Int} (h1 : -4000000000000000000 ≤ z) (h2 : z ≤ 4000000000000000000) {s : Nat} (hs : s < 63) : lI z >>> ((nI s).toInt64 &&& 63) = lI (z / 2 ^ s) := by
  apply Int64.toInt_inj.mp
  show ((lI z).toBitVec.sshiftRight ((((nI s).toInt64 &&& 63).toBitVec.smod 64).toNat)).toInt = _
  rw [lsh_s s (by omega), BitVec.toInt_sshiftRight]
  have e : (lI z).toBitVec.toInt = z := lI_toInt h1 h2
  rw [e, Int.shiftRight_eq_div_pow]
  have h2' : (((2 ^ s : Nat)) : Int) = (2 : Int) ^ s := by simp
  rw [h2']
  have hp : (0 : Int) < 2 ^ s := Int.pow_pos (by decide)
  have hb1 : -4000000000000000000 ≤ z / 2 ^ s := by
    apply Int.le_ediv_of_mul_le hp
    have : (1 : Int) ≤ 2 ^ s := by omega
    have h3 : (-4000000000000000000 : Int) * 2 ^ s ≤ -4000000000000000000 * 1 := Int.mul_le_mul_of_nonpos_left (by decide) this
    omega
  have hb2 : z / 2 ^ s ≤ 4000000000000000000 := by
    by_cases hz : 0 ≤ z
    · have := Int.ediv_le_self (2 ^ s) hz
      omega
    · have : z / 2 ^ s < 0 := Int.ediv_neg_of_neg_of_pos (by omega) hp
      omega
  rw [lI_toInt hb1 hb2]
theorem lI_32 (z : Int) : (lI z).toInt32 = iI z := Int64.toInt32_ofInt
theorem iI_15 {z : Int} {v : Nat} (h : z % 16 = v) : iI z &&& 15 = nI v := by
  rw [pk_and (iI z) (m := 15) 4 (by decide)]
  congr 1
  have e : (iI z).toBitVec.toNat = (z % (2 ^ 32 : Nat)).toNat := BitVec.toNat_ofInt z
  rw [e]
  have hp : (2 : Nat) ^ 32 = 4294967296 := rfl
  have hp4 : (2 : Nat) ^ 4 = 16 := rfl
  rw [hp, hp4]
  omega
theorem lg_cmp_0 (x y : Int64) : lg_cmp x y = 0 ↔ x = y := by
  unfold lg_cmp
  by_cases h1 : x > y
  · rw [if_pos h1]
    constructor
    · intro z; exact absurd z (by decide)
    · intro z
      subst z
      exact absurd h1 (Int64.lt_irrefl)
  · rw [if_neg h1]
    by_cases h2 : x = y
    · rw [if_pos h2]; exact ⟨fun _ => h2, fun _ => rfl⟩
    · rw [if_neg h2]
      exact ⟨fun z => absurd z (by decide), fun z => absurd z h2⟩
/-! Sets. -/
theorem nI_or (a b : Nat) : nI a ||| nI b = nI (a ||| b) := by
  apply tb_ext
  intro k hk
  rw [tb_or, tb_nI _ _ hk, tb_nI _ _ hk, tb_nI _ _ hk, Nat.testBit_or]
theorem nI_and (a b : Nat) : nI a &&& nI b = nI (a &&& b) := by
  apply tb_ext
  intro k hk
  rw [tb_and, tb_nI _ _ hk, tb_nI _ _ hk, tb_nI _ _ hk, Nat.testBit_and]
/-- without the members of another -/
def sdf (a b : Nat) : Nat := a ^^^ (a &&& b)
theorem sdf_t (a b k : Nat) : (sdf a b).testBit k = (a.testBit k && !b.testBit k) := by
  unfold sdf
  rw [Nat.testBit_xor, Nat.testBit_and]
  cases a.testBit k <;> cases b.testBit k <;> rfl
theorem nI_sdf (a b : Nat) : nI a &&& (nI b ^^^ -1) = nI (sdf a b) := by
  apply tb_ext
  intro k hk
  rw [tb_and, tb_nI _ _ hk, tb_not hk, tb_nI _ _ hk, tb_nI _ _ hk, sdf_t]
theorem nI_1s {t : Nat} (ht : t < 31) : (1 : Int32) <<< (nI t &&& 31) = nI (2 ^ t) := by
  apply tb_ext
  intro k hk
  rw [tb_one (by omega) hk, tb_nI _ _ hk, Nat.testBit_two_pow]
  by_cases h : k = t
  · subst h; simp
  · have : ¬ t = k := fun z => h z.symm
    simp [h, this]
theorem or_pow {t r : Nat} (h : r < 2 ^ t) : 2 ^ t ||| r = 2 ^ t + r := by
  have := Nat.two_pow_add_eq_or_of_lt h 1
  rw [Nat.mul_one] at this
  exact this.symm
theorem bit_pow {t r : Nat} (h : r < 2 ^ t) (k : Nat) : (2 ^ t + r).testBit k = (decide (k = t) || r.testBit k) := by
  rw [← or_pow h, Nat.testBit_or, Nat.testBit_two_pow]
  by_cases e : k = t
  · subst e; simp
  · have : ¬ t = k := fun z => e z.symm
    simp [e, this]
theorem bit_lt {g t : Nat} (h : g < 2 ^ t) {k : Nat} (hk : t ≤ k) : g.testBit k = false := Nat.testBit_lt_two_pow (Nat.lt_of_lt_of_le h (Nat.pow_le_pow_right (by decide) hk))
theorem lt_of_bits {g t : Nat} (h : ∀ k, t ≤ k → g.testBit k = false) : g < 2 ^ t := Nat.lt_pow_two_of_testBit g h
theorem low_ok : ∀ s, s < 1024 → 1 ≤ s → s.testBit (p_low 10 s) = true ∧ ∀ r, r < p_low 10 s → s.testBit r = false := by decide +kernel
theorem low_lt : ∀ s, s < 1024 → 1 ≤ s → p_low 10 s < 10 := by decide +kernel
theorem low_gp {s : Nat} (h1 : 1 ≤ s) (h2 : s < 1024) : gp_low s (p_low 10 s) := ⟨(low_ok s h2 h1).1, fun r hr => by rw [(low_ok s h2 h1).2 r hr]; decide⟩
theorem gp_low_u {s l l' : Nat} (h : gp_low s l) (h' : gp_low s l') : l = l' := by
  rcases Nat.lt_trichotomy l l' with z | z | z
  · exact absurd h.1 (h'.2 l z)
  · exact z
  · exact absurd h'.1 (h.2 l' z)
/-! Submasks, one behind the other. -/
def sbm : Nat → Nat → Nat → Nat
  | 0, _, _ => 0
  | n + 1, a, t => if a % 2 = 1 then 2 * sbm n (a / 2) (t / 2) + t % 2 else 2 * sbm n (a / 2) t
def sbc : Nat → Nat → Nat
  | 0, _ => 0
  | n + 1, a => a % 2 + sbc n (a / 2)
theorem sbc_bc : ∀ x, x < 1024 → p_bc (nI x) = nI (sbc 10 x) ∧ sbc 10 x ≤ 10 := by decide +kernel
theorem and2 (x y : Nat) {p q : Nat} (hp : p < 2) (hq : q < 2) : (2 * x + p) &&& (2 * y + q) = 2 * (x &&& y) + (if p = 1 ∧ q = 1 then 1 else 0) := by
  apply Nat.eq_of_testBit_eq
  intro k
  cases k with
  | zero =>
    rw [Nat.testBit_and, Nat.testBit_zero, Nat.testBit_zero, Nat.testBit_zero]
    have e1 : (2 * x + p) % 2 = p := by omega
    have e2 : (2 * y + q) % 2 = q := by omega
    rw [e1, e2]
    by_cases h : p = 1 ∧ q = 1
    · rw [if_pos h]
      have e3 : (2 * (x &&& y) + 1) % 2 = 1 := by omega
      rw [e3]
      simp [h.1, h.2]
    · rw [if_neg h]
      have e3 : (2 * (x &&& y) + 0) % 2 = 0 := by omega
      rw [e3]
      have : p = 0 ∨ q = 0 := by omega
      rcases this with z | z
      · simp [z]
      · simp [z]
  | succ k =>
    rw [Nat.testBit_and, Nat.testBit_succ, Nat.testBit_succ, Nat.testBit_succ]
    have e1 : (2 * x + p) / 2 = x := by omega
    have e2 : (2 * y + q) / 2 = y := by omega
    have e3 : (2 * (x &&& y) + (if p = 1 ∧ q = 1 then 1 else 0)) / 2 = (x &&& y) := by split <;> omega
    rw [e1, e2, e3, Nat.testBit_and]
theorem sbm_lt : ∀ n a t, sbm n a t < 2 ^ n
  | 0, _, _ => Nat.zero_lt_one
  | n + 1, a, t => by
    rw [sbm, Nat.pow_succ]
    split
    · have := sbm_lt n (a / 2) (t / 2)
      omega
    · have := sbm_lt n (a / 2) t
      omega
theorem sbm_sub : ∀ n a t, sbm n a t &&& a = sbm n a t
  | 0, a, _ => by rw [sbm, Nat.zero_and]
  | n + 1, a, t => by
    rw [sbm]
    by_cases h : a % 2 = 1
    · rw [if_pos h]
      have ea : a = 2 * (a / 2) + 1 := by omega
      have := and2 (sbm n (a / 2) (t / 2)) (a / 2) (p := t % 2) (q := 1) (by omega) (by omega)
      rw [← ea, sbm_sub n] at this
      rw [this]
      congr 1
      split <;> omega
    · rw [if_neg h]
      have ea : a = 2 * (a / 2) + 0 := by omega
      have := and2 (sbm n (a / 2) t) (a / 2) (p := 0) (q := 0) (by omega) (by omega)
      rw [← ea, sbm_sub n] at this
      simpa using this
theorem sbm_0 : ∀ n a, sbm n a 0 = 0
  | 0, _ => rfl
  | n + 1, a => by
    rw [sbm]
    have := sbm_0 n (a / 2)
    split
    · rw [Nat.zero_div, this]
    · rw [this]
theorem sbm_pos : ∀ n a t, 0 < t → t < 2 ^ sbc n a → 0 < sbm n a t
  | 0, _, t, h1, h2 => by
    have : (2 : Nat) ^ sbc 0 0 = 1 := rfl
    simp [sbc] at h2
    omega
  | n + 1, a, t, h1, h2 => by
    rw [sbm]
    rw [sbc] at h2
    by_cases h : a % 2 = 1
    · rw [if_pos h]
      rw [h, Nat.add_comm 1, Nat.pow_succ] at h2
      by_cases ht : t % 2 = 1
      · omega
      · have := sbm_pos n (a / 2) (t / 2) (by omega) (by omega)
        omega
    · rw [if_neg h]
      rw [show a % 2 = 0 by omega, Nat.zero_add] at h2
      have := sbm_pos n (a / 2) t h1 h2
      omega
theorem sbm_step : ∀ n a t, t + 1 < 2 ^ sbc n a → (sbm n a (t + 1) - 1) &&& a = sbm n a t
  | 0, _, t, h => by
    simp [sbc] at h
  | n + 1, a, t, h => by
    rw [sbc] at h
    rw [sbm, sbm]
    by_cases ha : a % 2 = 1
    · rw [if_pos ha, if_pos ha]
      rw [ha, Nat.add_comm 1, Nat.pow_succ] at h
      have ea : a = 2 * (a / 2) + 1 := by omega
      by_cases ht : t % 2 = 0
      · have e1 : (t + 1) / 2 = t / 2 := by omega
        have e2 : (t + 1) % 2 = 1 := by omega
        rw [e1, e2, ht, Nat.add_sub_cancel]
        have := and2 (sbm n (a / 2) (t / 2)) (a / 2) (p := 0) (q := 1) (by omega) (by omega)
        rw [← ea, sbm_sub n] at this
        simpa using this
      · have e1 : (t + 1) / 2 = t / 2 + 1 := by omega
        have e2 : (t + 1) % 2 = 0 := by omega
        have e3 : t % 2 = 1 := by omega
        have hlt : t / 2 + 1 < 2 ^ sbc n (a / 2) := by omega
        have hp := sbm_pos n (a / 2) (t / 2 + 1) (by omega) hlt
        have ih := sbm_step n (a / 2) (t / 2) hlt
        rw [e1, e2, e3, Nat.add_zero]
        have e4 : 2 * sbm n (a / 2) (t / 2 + 1) - 1 = 2 * (sbm n (a / 2) (t / 2 + 1) - 1) + 1 := by omega
        have := and2 (sbm n (a / 2) (t / 2 + 1) - 1) (a / 2) (p := 1) (q := 1) (by omega) (by omega)
        rw [← ea, ih] at this
        rw [e4, this]
        rfl
    · rw [if_neg ha, if_neg ha]
      rw [show a % 2 = 0 by omega, Nat.zero_add] at h
      have ea : a = 2 * (a / 2) + 0 := by omega
      have hp := sbm_pos n (a / 2) (t + 1) (by omega) h
      have ih := sbm_step n (a / 2) t h
      have e4 : 2 * sbm n (a / 2) (t + 1) - 1 = 2 * (sbm n (a / 2) (t + 1) - 1) + 1 := by omega
      have := and2 (sbm n (a / 2) (t + 1) - 1) (a / 2) (p := 1) (q := 0) (by omega) (by omega)
      rw [← ea, ih] at this
      rw [e4, this]
      rfl
theorem sbm_top : ∀ n a, a < 2 ^ n → sbm n a (2 ^ sbc n a - 1) = a
  | 0, a, h => by
    have : a = 0 := by
      have : (2 : Nat) ^ 0 = 1 := rfl
      omega
    rw [this]
    rfl
  | n + 1, a, h => by
    rw [Nat.pow_succ] at h
    have ih := sbm_top n (a / 2) (by omega)
    have hp : 0 < 2 ^ sbc n (a / 2) := Nat.pow_pos (by decide)
    rw [sbm, sbc]
    by_cases ha : a % 2 = 1
    · rw [if_pos ha, ha, Nat.add_comm 1, Nat.pow_succ]
      have e1 : (2 ^ sbc n (a / 2) * 2 - 1) / 2 = 2 ^ sbc n (a / 2) - 1 := by omega
      have e2 : (2 ^ sbc n (a / 2) * 2 - 1) % 2 = 1 := by omega
      rw [e1, e2, ih]
      omega
    · rw [if_neg ha, show a % 2 = 0 by omega, Nat.zero_add, ih]
      omega
theorem sbm_onto : ∀ n a j, a < 2 ^ n → (∀ k, j.testBit k = true → a.testBit k = true) → ∃ t, t < 2 ^ sbc n a ∧ sbm n a t = j
  | 0, a, j, h, hs => by
    have ea : a = 0 := by
      have : (2 : Nat) ^ 0 = 1 := rfl
      omega
    subst ea
    have : j = 0 := Nat.eq_of_testBit_eq (fun k => by
      by_cases z : j.testBit k = true
      · have := hs k z
        rw [Nat.zero_testBit] at this
        exact absurd this (by decide)
      · rw [Nat.zero_testBit]
        simpa using z)
    exact ⟨0, by decide, by rw [this]; rfl⟩
  | n + 1, a, j, h, hs => by
    rw [Nat.pow_succ] at h
    obtain ⟨u, hu, eu⟩ := sbm_onto n (a / 2) (j / 2) (by omega) (fun k hk => by
      have := hs (k + 1) (by rw [Nat.testBit_succ]; exact hk)
      rw [Nat.testBit_succ] at this
      exact this)
    rw [sbc]
    by_cases ha : a % 2 = 1
    · refine ⟨2 * u + j % 2, ?_, ?_⟩
      · rw [ha, Nat.add_comm 1, Nat.pow_succ]
        omega
      · rw [sbm, if_pos ha]
        have e1 : (2 * u + j % 2) / 2 = u := by omega
        have e2 : (2 * u + j % 2) % 2 = j % 2 := by omega
        rw [e1, e2, eu]
        omega
    · have hj : j % 2 = 0 := by
        have h0 : ¬ j.testBit 0 = true := fun z => by
          have := hs 0 z
          rw [Nat.testBit_zero] at this
          exact ha (by simpa using this)
        rw [Nat.testBit_zero] at h0
        have : ¬ j % 2 = 1 := by simpa using h0
        omega
      refine ⟨u, by rw [show a % 2 = 0 by omega, Nat.zero_add]; exact hu, ?_⟩
      rw [sbm, if_neg ha, eu]
      omega
