/-! Bits. -/
def tb (x : Int32) (k : Nat) : Bool := x.toBitVec.getLsbD k
theorem tb_or (x y : Int32) (k : Nat) : tb (x ||| y) k = (tb x k || tb y k) := by simp [tb]
theorem tb_and (x y : Int32) (k : Nat) : tb (x &&& y) k = (tb x k && tb y k) := by simp [tb]
theorem tb_xor (x y : Int32) (k : Nat) : tb (x ^^^ y) k = (tb x k ^^ tb y k) := by simp [tb]
theorem tb_0 (k : Nat) : tb 0 k = false := by simp [tb]
theorem tb_m1 : ∀ k, k < 32 → tb (-1) k = true := by decide +kernel
theorem tb_not {x : Int32} {k : Nat} (h : k < 32) : tb (x ^^^ -1) k = !tb x k := by rw [tb_xor, tb_m1 k h]; simp
theorem tb_ext {x y : Int32} (h : ∀ k, k < 32 → tb x k = tb y k) : x = y := Int32.toBitVec_inj.mp (BitVec.eq_of_getLsbD_eq h)
theorem tb_sm : ∀ n, n < 32 → ((nI n &&& 31).toBitVec.smod 32).toNat = n := by decide +kernel
theorem tb_shr {x : Int32} {n k : Nat} (hn : n < 32) (hk : n + k < 32) : tb (x >>> (nI n &&& 31)) k = tb x (n + k) := by
  unfold tb
  rw [Int32.toBitVec_shiftRight, BitVec.sshiftRight_eq', BitVec.getLsbD_sshiftRight, tb_sm n hn, if_pos hk]
  simp
  omega
theorem tb_shl {x : Int32} {n k : Nat} (hn : n < 32) (hk : k < 32) : tb (x <<< (nI n &&& 31)) k = (decide (n ≤ k) && tb x (k - n)) := by
  unfold tb
  rw [Int32.toBitVec_shiftLeft, BitVec.shiftLeft_eq', BitVec.getLsbD_shiftLeft, tb_sm n hn]
  by_cases h : n ≤ k
  · simp [hk, h, Nat.not_lt.mpr h]
  · simp [h, Nat.lt_of_not_le h]
theorem tb_1 (k : Nat) : tb 1 k = decide (k = 0) := by
  by_cases h : k < 32
  · exact (by decide +kernel : ∀ k, k < 32 → tb 1 k = decide (k = 0)) k h
  · unfold tb
    rw [BitVec.getLsbD_of_ge _ _ (by omega)]
    simp
    omega
theorem tb_bit {x : Int32} {n : Nat} (hn : n < 32) : ((x >>> (nI n &&& 31)) &&& 1 = 1) ↔ tb x n = true := by
  constructor
  · intro h
    have : tb ((x >>> (nI n &&& 31)) &&& 1) 0 = true := by rw [h]; decide
    rw [tb_and, tb_shr hn (by omega)] at this
    simp at this
    exact this.1
  · intro h
    apply tb_ext
    intro k hk
    rw [tb_and, tb_1]
    by_cases h0 : k = 0
    · subst h0
      rw [tb_shr hn (by omega)]
      simp [h]
    · simp [h0]
theorem tb_one {n k : Nat} (hn : n < 32) (hk : k < 32) : tb ((1 : Int32) <<< (nI n &&& 31)) k = decide (k = n) := by
  rw [tb_shl hn hk, tb_1]
  by_cases h : k = n
  · subst h; simp
  · simp [h]
    omega
theorem tb_nI (n k : Nat) (hk : k < 32) : tb (nI n) k = n.testBit k := by
  unfold tb
  show (BitVec.ofNat 32 n).getLsbD k = _
  rw [BitVec.getLsbD_ofNat]
  simp [hk]
theorem tb_has {x : Int32} {k : Nat} (hk : k < 5) : p_has x (nI k) ↔ tb x k = true := by
  have h1 : (0 : Int32) ≤ nI k ∧ nI k < 5 := (q_inI (N := 5) (n := 5) rfl (by decide)).mpr (q_in hk (by decide))
  constructor
  · intro h
    exact (tb_bit (by omega)).mp h.2.2
  · intro h
    exact ⟨h1.1, h1.2, (tb_bit (by omega)).mpr h⟩
theorem tb_bitB {x : Int32} {k : Nat} (hk : k < 32) : p_bitB x k = tb x k := by
  unfold p_bitB
  by_cases h : tb x k = true
  · rw [h]
    exact decide_eq_true ((tb_bit hk).mpr h)
  · rw [Bool.not_eq_true] at h
    rw [h]
    exact decide_eq_false (fun z => by rw [(tb_bit hk).mp z] at h; exact absurd h (by decide))
