/-! The reference: one item; both readings of it belong together. -/
theorem p_rd_b (c : Nat → Int32) : ∀ (k : Nat) (v : Int32) (q p x : Nat), v = nI x → x < 10 ^ (min q 4) → ∃ y, (p_rd c k v q p).1 = nI y ∧ y < 10 ^ (min (p_rd c k v q p).2.1 4) := by
  intro k
  induction k with
  | zero => intro v q p x h1 h2; exact ⟨x, h1, h2⟩
  | succ k ih =>
    intro v q p x h1 h2
    rw [p_rd]
    split
    · rename_i hc
      obtain ⟨t, et, ht⟩ := q_rng (lo := 48) (hi := 57) (by decide) (by decide) hc.1 hc.2
      by_cases h4 : q < 4
      · rw [if_pos h4]
        refine ih _ (q + 1) (p + 1) (x * 10 + t) ?_ ?_
        · rw [h1, et]
          show nI x * nI 10 + (nI (48 + t) - nI 48) = _
          rw [pk_mul, pk_sub (by omega), nI_add, Nat.add_sub_cancel_left]
        · rw [show min (q + 1) 4 = min q 4 + 1 by omega, Nat.pow_succ]
          omega
      · rw [if_neg h4]
        refine ih _ (q + 1) (p + 1) x h1 ?_
        rw [show min (q + 1) 4 = min q 4 by omega]
        exact h2
    · exact ⟨x, h1, h2⟩
theorem p_dg_mv (c : Nat → Int32) (p : Nat) : ((p_dg c p).1 = -1 ∧ p_mv (p_rd c 100 0 0 p) = 10000) ∨ ∃ x, x ≤ 9999 ∧ (p_dg c p).1 = nI x ∧ p_mv (p_rd c 100 0 0 p) = nI x := by
  unfold p_dg p_mv
  by_cases h : (p_rd c 100 0 0 p).2.1 = 0 ∨ 4 < (p_rd c 100 0 0 p).2.1
  · rw [if_pos h, if_pos h]
    exact Or.inl ⟨rfl, rfl⟩
  · rw [if_neg h, if_neg h]
    obtain ⟨y, e, l⟩ := p_rd_b c 100 0 0 p 0 rfl (by decide)
    refine Or.inr ⟨y, ?_, e, e⟩
    have : 10 ^ (min (p_rd c 100 0 0 p).2.1 4) ≤ 10 ^ 4 := Nat.pow_le_pow_right (by decide) (by omega)
    omega
/-- what the class has read and what the reference has read belong together -/
def p_dm (D : p_D) (M : p_M) : Prop :=
  D.2.1 = M.1 ∧ (∀ f, f < 5 → f ≠ 3 → tb D.2.1 f = true → D.2.2.2.1 f = M.2.2.2.2.1 f ∧ ∃ x, x ≤ 9999 ∧ D.2.2.2.1 f = nI x) ∧ (tb D.2.1 2 = true → D.2.2.1 = M.2.2.1 ∧ ∃ x, x ≤ 9999 ∧ D.2.2.1 = nI x) ∧ (tb D.2.1 3 = true → ∃ c, 1 ≤ c ∧ c ≤ 3 ∧ D.2.2.2.1 3 = nI c ∧ M.2.1 = nI c ∧ ∀ t, t < c → p_nr (D.2.2.2.2 t) (M.2.2.2.2.2.2 t) (fun s => M.2.2.2.2.2.1 (6 * t + s))) ∧ (¬ tb D.2.1 3 = true → D.2.2.2.1 3 = 0 ∧ M.2.1 = 0) ∧ (∀ k, 5 ≤ k → k < 32 → tb D.2.1 k = false)
theorem or_or (a b : Int32) : (a ||| b) ||| b = a ||| b := by
  rw [Int32.or_assoc, Int32.or_self]
theorem p_nms_o {c : Nat → Int32} : ∀ (k i : Nat) (D : p_D), (p_nms c k i D).1 = true → (p_nms c k i D).2.2.1 = D.2.1 ||| (1 <<< ((3 : Int32) &&& 31)) ∧ (p_nms c k i D).2.2.2.1 = D.2.2.1 ∧ ∀ f, f ≠ 3 → (p_nms c k i D).2.2.2.2.1 f = D.2.2.2.1 f := by
  intro k
  induction k with
  | zero => intro i D h; exact absurd h (by simp [p_nms])
  | succ k ih =>
    intro i D h
    rw [p_nms] at h ⊢
    split at h
    · exact absurd h (by simp)
    · rename_i h1
      rw [if_neg h1]
      split at h
      · rename_i h2
        rw [if_pos h2]
        obtain ⟨a, b, e⟩ := ih _ _ h
        refine ⟨by rw [a, or_or], b, fun f hf => ?_⟩
        rw [e f hf]
        show p_upf _ _ _ f = _
        unfold p_upf
        rw [if_neg hf]
      · rename_i h2
        rw [if_neg h2]
        refine ⟨rfl, rfl, fun f hf => ?_⟩
        show p_upf _ _ _ f = _
        unfold p_upf
        rw [if_neg hf]
section MIT
variable {G : tm_G} {I : Nat → Nat → Int32} {J : Nat → Nat → Int64} {R : Nat → Nat → Option Nat}
theorem m125r (d : Nat) (K : Option Value → tm_H → Prop) (hS : tp_S G) (hR : tp_R R) {n p : Nat} (hn : I 89 6 = nI n) (hn100 : n ≤ 100) (hp : p ≤ n) {h m u x : Int32} {F N L : Nat → Int32} : tm_R (d + 1) 125 [.ref 89, .int (nI p)] (G, tp_mr I (h, m, u, x, F, N, L), J, R) K ↔ K (some (.int (nI (p_dg (p_pk (I 90) n) p).2))) (G, tp_mr I (h, m, u, p_mv (p_rd (p_pk (I 90) n) 100 0 0 p), F, N, L), J, R) := by
  have := m125 (I := tp_mr I (h, m, u, x, F, N, L)) (J := J) d K hS hR (n := n) (f := p) (by rw [mr_6]; exact hn) hn100 hp
  rw [mr_90, mr_u13] at this
  exact this
theorem m127_f (d : Nat) (K : Option Value → tm_H → Prop) (hS : tp_S G) (hR : tp_R R) {p : Nat} (hp : p < 100) {M : p_M} : tm_A d 127 0 [some (.ref 89), some (.int (nI p)), none, none, none] [] (G, tp_mr I M, J, R) K ↔ tm_A d 127 59 [some (.ref 89), some (.int (nI p)), some (.int (I 90 p)), some (.int (p_mfr (I 90 p) 0 5)), none] [] (G, tp_mr I M, J, R) K := by
  have i2 : tm_in (nI p) 100 := q_in hp (by decide)
  simp only [r127_0, r127_1, r127_4, r127_5, r127_6, r127_7, r127_8, r127_10, r127_13, r127_14, r127_17, r127_18, r127_20, r127_23, r127_24, r127_27, r127_28, r127_30, r127_33, r127_34, r127_37, r127_38, r127_40, r127_43, r127_44, r127_47, r127_48, r127_50, r127_53, r127_54, r127_57, r127_58, sh_89 hS, sh_90 hS, rf_89_5 hR, mr_90, i2, q_ix (show p < 2147483648 by omega), tm_in, or_true, true_or, tm_cs0, tm_cs1, tm_cs2, tm_cs3, tm_cs4, true_and, and_true, and_self, Option.toList_some, Option.toList_none, List.cons_append, List.nil_append, tm_rf_some, tm_rf_none]
  generalize I 90 p = x
  simp only [p_mfr, show tp_mk 0 = 112 from rfl, show tp_mk (0 + 1) = 100 from rfl, show tp_mk (0 + 1 + 1) = 110 from rfl, show tp_mk (0 + 1 + 1 + 1) = 119 from rfl, show tp_mk (0 + 1 + 1 + 1 + 1) = 107 from rfl]
  by_cases h1 : x = 112
  · simp only [h1, not_true, if_false, if_true]; rfl
  · by_cases h2 : x = 100
    · simp only [h1, h2, not_true, not_false_eq_true, if_false, if_true]; rfl
    · by_cases h3 : x = 110
      · simp only [h1, h2, h3, not_true, not_false_eq_true, if_false, if_true]; rfl
      · by_cases h4 : x = 119
        · simp only [h1, h2, h3, h4, not_true, not_false_eq_true, if_false, if_true]; rfl
        · by_cases h5 : x = 107
          · simp only [h1, h2, h3, h4, h5, not_true, not_false_eq_true, if_false, if_true]; rfl
          · simp only [h1, h2, h3, h4, h5, not_false_eq_true, if_false, if_true]
/-- what an item with a number leaves of both -/
theorem p_dm_val {D : p_D} {M : p_M} (hD : p_dm D M) {f : Nat} (hf : f < 5) (h3 : f ≠ 3) (h2 : f ≠ 2) {x : Nat} (hx : x ≤ 9999) {p : Nat} {vl : Int32} : p_dm (p, D.2.1 ||| (1 <<< (nI f &&& 31)), D.2.2.1, p_upf D.2.2.2.1 f (nI x), D.2.2.2.2) (M.1 ||| (1 <<< (nI f &&& 31)), M.2.1, M.2.2.1, vl, p_upf M.2.2.2.2.1 f (nI x), M.2.2.2.2.2) := by
  obtain ⟨a1, a2, a3, a4, a5, a6⟩ := hD
  have tbb : ∀ g, g < 32 → g ≠ f → tb (D.2.1 ||| (1 <<< (nI f &&& 31))) g = tb D.2.1 g := fun g hg hne => by
    rw [tb_or, tb_one (by omega) (by omega)]
    simp [hne]
  refine ⟨by show D.2.1 ||| _ = M.1 ||| _; rw [a1], fun g hg hg3 ht => ?_, fun ht => ?_, fun ht => ?_, fun ht => ?_, fun k h5 h32 => by show tb (D.2.1 ||| (1 <<< (nI f &&& 31))) k = false; rw [tbb k h32 (by omega)]; exact a6 k h5 h32⟩
  · show p_upf D.2.2.2.1 f (nI x) g = p_upf M.2.2.2.2.1 f (nI x) g ∧ ∃ y, y ≤ 9999 ∧ p_upf D.2.2.2.1 f (nI x) g = nI y
    unfold p_upf
    by_cases e : g = f
    · rw [if_pos e, if_pos e]
      exact ⟨rfl, x, hx, rfl⟩
    · rw [if_neg e, if_neg e]
      have ht' : tb (D.2.1 ||| (1 <<< (nI f &&& 31))) g = true := ht
      rw [tbb g (by omega) e] at ht'
      exact a2 g hg hg3 ht'
  · have ht' : tb (D.2.1 ||| (1 <<< (nI f &&& 31))) 2 = true := ht
    rw [tbb 2 (by decide) (by omega)] at ht'
    exact a3 ht'
  · have ht' : tb (D.2.1 ||| (1 <<< (nI f &&& 31))) 3 = true := ht
    rw [tbb 3 (by decide) (by omega)] at ht'
    obtain ⟨c, c1, c2, c3, c4, c5⟩ := a4 ht'
    refine ⟨c, c1, c2, ?_, c4, c5⟩
    show p_upf D.2.2.2.1 f (nI x) 3 = nI c
    unfold p_upf
    rw [if_neg (by omega)]
    exact c3
  · have ht' : ¬ tb (D.2.1 ||| (1 <<< (nI f &&& 31))) 3 = true := ht
    rw [tbb 3 (by decide) (by omega)] at ht'
    obtain ⟨b1, b2⟩ := a5 ht'
    refine ⟨?_, b2⟩
    show p_upf D.2.2.2.1 f (nI x) 3 = 0
    unfold p_upf
    rw [if_neg (by omega)]
    exact b1
theorem p_dm_spn {D : p_D} {M : p_M} (hD : p_dm D M) {x y : Nat} (hx : x ≤ 9999) (hy : y ≤ 9999) {p : Nat} {vl : Int32} : p_dm (p, D.2.1 ||| (1 <<< ((2 : Int32) &&& 31)), nI y, p_upf D.2.2.2.1 2 (nI x), D.2.2.2.2) (M.1 ||| (1 <<< ((2 : Int32) &&& 31)), M.2.1, nI y, vl, p_upf M.2.2.2.2.1 2 (nI x), M.2.2.2.2.2) := by
  obtain ⟨a1, a2, a3, a4, a5, a6⟩ := hD
  have tbb : ∀ g, g < 32 → g ≠ 2 → tb (D.2.1 ||| (1 <<< ((2 : Int32) &&& 31))) g = tb D.2.1 g := fun g hg hne => by
    rw [tb_or, show (2 : Int32) = nI 2 from rfl, tb_one (by omega) (by omega)]
    simp [hne]
  refine ⟨by show D.2.1 ||| _ = M.1 ||| _; rw [a1], fun g hg hg3 ht => ?_, fun ht => ⟨rfl, y, hy, rfl⟩, fun ht => ?_, fun ht => ?_, fun k h5 h32 => by show tb (D.2.1 ||| (1 <<< ((2 : Int32) &&& 31))) k = false; rw [tbb k h32 (by omega)]; exact a6 k h5 h32⟩
  · show p_upf D.2.2.2.1 2 (nI x) g = p_upf M.2.2.2.2.1 2 (nI x) g ∧ ∃ y, y ≤ 9999 ∧ p_upf D.2.2.2.1 2 (nI x) g = nI y
    unfold p_upf
    by_cases e : g = 2
    · rw [if_pos e, if_pos e]
      exact ⟨rfl, x, hx, rfl⟩
    · rw [if_neg e, if_neg e]
      have ht' : tb (D.2.1 ||| (1 <<< ((2 : Int32) &&& 31))) g = true := ht
      rw [tbb g (by omega) e] at ht'
      exact a2 g hg hg3 ht'
  · have ht' : tb (D.2.1 ||| (1 <<< ((2 : Int32) &&& 31))) 3 = true := ht
    rw [tbb 3 (by decide) (by omega)] at ht'
    obtain ⟨c, c1, c2, c3, c4, c5⟩ := a4 ht'
    refine ⟨c, c1, c2, ?_, c4, c5⟩
    show p_upf D.2.2.2.1 2 (nI x) 3 = nI c
    unfold p_upf
    rw [if_neg (by omega)]
    exact c3
  · have ht' : ¬ tb (D.2.1 ||| (1 <<< ((2 : Int32) &&& 31))) 3 = true := ht
    rw [tbb 3 (by decide) (by omega)] at ht'
    obtain ⟨b1, b2⟩ := a5 ht'
    refine ⟨?_, b2⟩
    show p_upf D.2.2.2.1 2 (nI x) 3 = 0
    unfold p_upf
    rw [if_neg (by omega)]
    exact b1
theorem p_dm_nms {c : Nat → Int32} {D : p_D} {M : p_M} (hD : p_dm D M) {q : Nat} (ht : (p_nms c 3 0 (q, D.2)).1 = true) {N' L' : Nat → Int32} {i' : Nat} {vl : Int32} (h1 : 1 ≤ i') (h2 : i' ≤ 3) (h3 : (p_nms c 3 0 (q, D.2)).2.2.2.2.1 3 = nI i') (h4 : ∀ t, t < i' → p_nr ((p_nms c 3 0 (q, D.2)).2.2.2.2.2 t) (L' t) (fun s => N' (6 * t + s))) : p_dm (p_nms c 3 0 (q, D.2)).2 (M.1 ||| (1 <<< ((3 : Int32) &&& 31)), nI i', M.2.2.1, vl, M.2.2.2.2.1, N', L') := by
  obtain ⟨o1, o2, o3⟩ := p_nms_o 3 0 _ ht
  obtain ⟨a1, a2, a3, a4, a5, a6⟩ := hD
  have tbb : ∀ g, g < 32 → g ≠ 3 → tb (p_nms c 3 0 (q, D.2)).2.2.1 g = tb D.2.1 g := fun g hg hne => by
    rw [o1, tb_or, show (3 : Int32) = nI 3 from rfl, tb_one (by omega) (by omega)]
    simp [hne]
  have tb3 : tb (p_nms c 3 0 (q, D.2)).2.2.1 3 = true := by
    rw [o1, tb_or, show (3 : Int32) = nI 3 from rfl, tb_one (by omega) (by omega)]
    simp
  refine ⟨by rw [o1]; show D.2.1 ||| _ = M.1 ||| _; rw [a1], fun g hg hg3 ht => ?_, fun ht => ?_, fun ht => ⟨i', h1, h2, h3, rfl, h4⟩, fun ht => absurd tb3 ht, fun k h5 h32 => by rw [tbb k h32 (by omega)]; exact a6 k h5 h32⟩
  · rw [tbb g (by omega) hg3] at ht
    rw [o3 g hg3]
    exact a2 g hg hg3 ht
  · rw [tbb 2 (by decide) (by decide)] at ht
    rw [o2]
    exact a3 ht
end MIT
