/-! The reference: bytes, digits, blanks. -/
section MRD
variable {G : tm_G} {I : Nat → Nat → Int32} {J : Nat → Nat → Int64} {R : Nat → Nat → Option Nat}
theorem m122 (d : Nat) (K : Option Value → tm_H → Prop) (hS : tp_S G) (hR : tp_R R) {n p : Nat} (hn : I 89 6 = nI n) (hn100 : n ≤ 100) (hp : p ≤ 1000) : tm_R d 122 [.ref 89, .int (nI p)] (G, I, J, R) K ↔ K (some (.int (if p < n then I 90 p else -1))) (G, I, J, R) := by
  rw [e122]
  by_cases h : p < n
  · have z : ¬ nI n ≤ nI p := fun z => by
      have := (q_le (a := n) (b := p) rfl rfl (by omega) (by omega)).mp z
      omega
    have hin : tm_in (nI p) 100 := q_in (by omega) (by decide)
    simp only [r122_0, r122_1, r122_2, r122_5, r122_8, r122_9, r122_12, r122_13, r122_14, r122_17, r122_18, sh_89 hS, sh_90 hS, rf_89_5 hR, hn, z, hin, h, if_true, if_false, q_ix (show p < 2147483648 by omega), tm_in, or_true, true_or, tm_cs0, tm_cs1, tm_cs2, tm_cs3, tm_cs4, true_and, and_true, and_self, Option.toList_some, Option.toList_none, List.cons_append, List.nil_append, tm_rf_some, tm_rf_none]
  · have z : nI n ≤ nI p := (q_le (a := n) (b := p) rfl rfl (by omega) (by omega)).mpr (by omega)
    simp only [r122_0, r122_1, r122_2, r122_5, r122_8, r122_9, r122_12, r122_13, r122_14, r122_17, r122_18, sh_89 hS, hn, z, h, if_true, if_false, tm_in, or_true, true_or, tm_cs0, tm_cs1, tm_cs2, tm_cs3, tm_cs4, true_and, and_true, and_self, Option.toList_some, Option.toList_none, List.cons_append, List.nil_append, tm_rf_some, tm_rf_none]
theorem m123 (d : Nat) (x : Int32) (h : tm_H) (K : Option Value → tm_H → Prop) : tm_R d 123 [.int x] h K ↔ K (some (.int (if 48 ≤ x ∧ x ≤ 57 then 1 else 0))) h := by
  rw [e123]
  simp only [r123_0, r123_1, r123_3, r123_6, r123_7, r123_9, r123_12, r123_13, r123_16, r123_17, tm_z0, tm_z1, tm_in, or_true, true_or, tm_cs0, tm_cs1, tm_cs2, tm_cs3, tm_cs4, true_and, and_true, and_self, Option.toList_some, Option.toList_none, List.cons_append, List.nil_append, tm_rf_some, tm_rf_none]
  grind
theorem m124 (d : Nat) (x : Int32) (h : tm_H) (K : Option Value → tm_H → Prop) : tm_R d 124 [.int x] h K ↔ K (some (.int (if 97 ≤ x ∧ x ≤ 122 then 1 else 0))) h := by
  rw [e124]
  simp only [r124_0, r124_1, r124_3, r124_6, r124_7, r124_9, r124_12, r124_13, r124_16, r124_17, tm_z0, tm_z1, tm_in, or_true, true_or, tm_cs0, tm_cs1, tm_cs2, tm_cs3, tm_cs4, true_and, and_true, and_self, Option.toList_some, Option.toList_none, List.cons_append, List.nil_append, tm_rf_some, tm_rf_none]
  grind
theorem p_bk {b : Nat → Int32} {n p : Nat} (P : Int32 → Prop) (h0 : ¬ P 0) (h1 : ¬ P (-1)) : P (if p < n then b p else -1) ↔ P (p_pk b n p) := by
  unfold p_pk
  by_cases h : p < n
  · rw [if_pos h, if_pos h]
  · rw [if_neg h, if_neg h]
    exact ⟨fun z => absurd z h1, fun z => absurd z h0⟩
theorem m130_l (d : Nat) (x : Int32) (K : Option Value → tm_H → Prop) (hS : tp_S G) (hR : tp_R R) {n : Nat} (hn : I 89 6 = nI n) (hn100 : n ≤ 100) : ∀ (k p : Nat), n ≤ p + k → p ≤ n → (tm_A (d + 1) 130 2 [some (.ref 89), some (.int x), some (.int (nI p))] [] (G, I, J, R) K ↔ K (some (.int (nI (p_wh (fun p => decide (p_pk (I 90) n p = 32)) k p)))) (G, I, J, R)) := by
  have st : ∀ p, p ≤ n → (tm_A (d + 1) 130 2 [some (.ref 89), some (.int x), some (.int (nI p))] [] (G, I, J, R) K ↔ if p_pk (I 90) n p = 32 then tm_A (d + 1) 130 2 [some (.ref 89), some (.int x), some (.int (nI (p + 1)))] [] (G, I, J, R) K else K (some (.int (nI p))) (G, I, J, R)) := by
    intro p hp
    have := p_bk (b := I 90) (n := n) (p := p) (fun x => x = 32) (by decide) (by decide)
    rw [r130_2]
    simp only [r130_0, r130_1, r130_3, r130_4, r130_7, r130_9, r130_12, r130_15, r130_18, r130_19, sh_89 hS, m122 _ _ hS hR hn hn100 (show p ≤ 1000 by omega), this, nI_1, tm_in, or_true, true_or, tm_cs0, tm_cs1, tm_cs2, tm_cs3, tm_cs4, true_and, and_true, and_self, Option.toList_some, Option.toList_none, List.cons_append, List.nil_append, tm_rf_some, tm_rf_none]
    by_cases h : p_pk (I 90) n p = 32
    · simp only [h, not_true, if_true, if_false]
    · simp only [h, not_false_eq_true, if_true, if_false]
  intro k
  induction k with
  | zero =>
    intro p h1 h2
    rw [st p h2, if_neg (by rw [p_pk0 p (by omega)]; decide), p_wh]
  | succ k ih =>
    intro p h1 h2
    rw [st p h2, p_wh]
    by_cases h : p_pk (I 90) n p = 32
    · have hl : p < n := p_pk_lt (by rw [h]; decide)
      simp only [h, decide_true, if_true]
      exact ih (p + 1) (by omega) (by omega)
    · simp only [h, decide_false, if_false, Bool.false_eq_true]
theorem m130 (d : Nat) (K : Option Value → tm_H → Prop) (hS : tp_S G) (hR : tp_R R) {n : Nat} (hn : I 89 6 = nI n) (hn100 : n ≤ 100) {p : Nat} (hp : p ≤ n) : tm_R (d + 1) 130 [.ref 89, .int (nI p)] (G, I, J, R) K ↔ K (some (.int (nI (p_wh (fun p => decide (p_pk (I 90) n p = 32)) 100 p)))) (G, I, J, R) := by
  rw [e130]
  simp only [r130_0, r130_1]
  exact m130_l d _ K hS hR hn hn100 100 p (by omega) hp
/-- the reference's value of what p_rd read -/
def p_mv (r : Int32 × Nat × Nat) : Int32 := if r.2.1 = 0 ∨ 4 < r.2.1 then 10000 else r.1
theorem p_rd_q (c : Nat → Int32) : ∀ (k : Nat) (v : Int32) (q p : Nat), (p_rd c k v q p).2.2 = p + ((p_rd c k v q p).2.1 - q) ∧ q ≤ (p_rd c k v q p).2.1 := by
  intro k
  induction k with
  | zero => intro v q p; simp [p_rd]
  | succ k ih =>
    intro v q p
    rw [p_rd]
    split
    · have := ih (if q < 4 then v * 10 + (c p - 48) else v) (q + 1) (p + 1)
      omega
    · simp
theorem m125_l (d : Nat) (K : Option Value → tm_H → Prop) (hS : tp_S G) (hR : tp_R R) {n : Nat} (hn : I 89 6 = nI n) (hn100 : n ≤ 100) (f : Nat) : ∀ (k q : Nat) (v x : Int32), n ≤ f + q + k → f + q ≤ n → x = (if 4 < q then 10000 else v) → (q = 0 → v = 0) → (tm_A (d + 1) 125 4 [some (.ref 89), some (.int (nI f)), some (.int (nI (f + q))), some (.int x)] [] (G, I, J, R) K ↔ K (some (.int (nI (p_rd (p_pk (I 90) n) k v q (f + q)).2.2))) (G, up2 I 89 13 (p_mv (p_rd (p_pk (I 90) n) k v q (f + q))), J, R)) := by
  have st : ∀ (q : Nat) (x : Int32), f + q ≤ n → (tm_A (d + 1) 125 4 [some (.ref 89), some (.int (nI f)), some (.int (nI (f + q))), some (.int x)] [] (G, I, J, R) K ↔ if 48 ≤ p_pk (I 90) n (f + q) ∧ p_pk (I 90) n (f + q) ≤ 57 then tm_A (d + 1) 125 4 [some (.ref 89), some (.int (nI f)), some (.int (nI (f + (q + 1)))), some (.int (if q < 4 then x * 10 + (p_pk (I 90) n (f + q) - 48) else 10000))] [] (G, I, J, R) K else K (some (.int (nI (f + q)))) (G, up2 I 89 13 (if q = 0 then 10000 else x), J, R)) := by
    intro q x hq
    have := p_bk (b := I 90) (n := n) (p := f + q) (fun x => 48 ≤ x ∧ x ≤ 57) (by decide) (by decide)
    rw [r125_4]
    simp only [r125_5, r125_6, r125_9, r125_12, sh_89 hS, m122 _ _ hS hR hn hn100 (show f + q ≤ 1000 by omega), m123, this, tm_in, or_true, true_or, tm_cs0, tm_cs1, tm_cs2, tm_cs3, tm_cs4, true_and, and_true, and_self, Option.toList_some, Option.toList_none, List.cons_append, List.nil_append, tm_rf_some, tm_rf_none]
    by_cases h : 48 ≤ p_pk (I 90) n (f + q) ∧ p_pk (I 90) n (f + q) ≤ 57
    · have hl : f + q < n := p_pk_lt (fun z => by rw [z] at h; exact absurd h (by decide))
      have hin : tm_in (nI (f + q)) 100 := q_in (by omega) (by decide)
      have es : nI (f + q) - nI f = nI q := by
        rw [pk_sub (by omega)]
        congr 1
        omega
      have e9 : I 90 (f + q) = p_pk (I 90) n (f + q) := by unfold p_pk; rw [if_pos hl]
      rw [if_pos h, if_pos h]
      simp only [show ¬ (1 : Int32) = 0 by decide, if_false, r125_15, r125_16, r125_17, r125_18, r125_19, es]
      by_cases h4 : q < 4
      · have z4 : ¬ (4 : Int32) ≤ nI q := fun w => by
          have := (q_le (a := 4) (b := q) rfl rfl (by decide) (by omega)).mp w
          omega
        have er : (10 : Int32) * x + p_pk (I 90) n (f + q) - 48 = x * 10 + (p_pk (I 90) n (f + q) - 48) := by grind
        simp only [z4, h4, if_false, if_true, r125_22, r125_24, r125_25, r125_26, r125_27, r125_30, r125_31, r125_32, r125_33, r125_35, r125_36, r125_39, r125_42, r125_43, r125_46, sh_89 hS, sh_90 hS, rf_89_5 hR, hin, q_ix (show f + q < 2147483648 by omega), e9, er, nI_1, tm_in, or_true, true_or, tm_cs0, tm_cs1, tm_cs2, tm_cs3, tm_cs4, true_and, and_true, and_self, Option.toList_some, Option.toList_none, List.cons_append, List.nil_append, tm_rf_some, tm_rf_none]
        rw [Nat.add_assoc]
      · have z4 : (4 : Int32) ≤ nI q := (q_le (a := 4) (b := q) rfl rfl (by decide) (by omega)).mpr (by omega)
        simp only [z4, h4, if_false, if_true, r125_39, r125_42, r125_43, r125_46, nI_1]
        rw [Nat.add_assoc]
    · rw [if_neg h, if_neg h]
      simp only [if_true, r125_49, r125_50, r125_51, r125_52, r125_55, r125_58, r125_61, r125_62, r125_65, r125_66, sh_89 hS, tm_in, or_true, true_or, tm_cs0, tm_cs1, tm_cs2, tm_cs3, tm_cs4, true_and, and_true, and_self, Option.toList_some, Option.toList_none, List.cons_append, List.nil_append, tm_rf_some, tm_rf_none]
      by_cases h0 : q = 0
      · subst h0
        simp only [Nat.add_zero, not_true, if_false, if_true]
      · have z0 : ¬ nI (f + q) = nI f := fun z => by
          have := (nI_eq (by omega) (by omega)).mp z
          omega
        simp only [z0, h0, not_false_eq_true, if_false, if_true]
  intro k
  induction k with
  | zero =>
    intro q v x h1 h2 hx hv
    rw [st q x h2, if_neg (by rw [p_pk0 _ (by omega)]; decide), p_rd, p_mv]
    subst hx
    by_cases h0 : q = 0
    · simp [h0]
    · simp [h0]
  | succ k ih =>
    intro q v x h1 h2 hx hv
    rw [st q x h2, p_rd]
    by_cases h : 48 ≤ p_pk (I 90) n (f + q) ∧ p_pk (I 90) n (f + q) ≤ 57
    · have hl : f + q < n := p_pk_lt (fun z => by rw [z] at h; exact absurd h (by decide))
      rw [if_pos h, if_pos h]
      refine ih (q + 1) _ _ (by omega) (by omega) ?_ (by omega)
      subst hx
      by_cases h4 : q < 4
      · simp only [h4, if_true, show ¬ 4 < q + 1 by omega, show ¬ 4 < q by omega, if_false]
      · simp only [h4, if_false, show 4 < q + 1 by omega, if_true]
    · rw [if_neg h, if_neg h, p_mv]
      subst hx
      by_cases h0 : q = 0
      · simp [h0]
      · simp [h0]
theorem m125 (d : Nat) (K : Option Value → tm_H → Prop) (hS : tp_S G) (hR : tp_R R) {n : Nat} (hn : I 89 6 = nI n) (hn100 : n ≤ 100) {f : Nat} (hf : f ≤ n) : tm_R (d + 1) 125 [.ref 89, .int (nI f)] (G, I, J, R) K ↔ K (some (.int (nI (p_rd (p_pk (I 90) n) 100 0 0 f).2.2))) (G, up2 I 89 13 (p_mv (p_rd (p_pk (I 90) n) 100 0 0 f)), J, R) := by
  rw [e125]
  simp only [r125_0, r125_1, r125_2, r125_3]
  exact m125_l d K hS hR hn hn100 f 100 0 0 0 (by omega) hf rfl (fun _ => rfl)
theorem m126 (d : Nat) (x : Int32) (h : tm_H) (K : Option Value → tm_H → Prop) : tm_R d 126 [.int x] h K ↔ K (some (.int (if x = 0 then 99 else if x = 1 then 999 else if x = 2 then 9999 else 2))) h := by
  rw [e126]
  simp only [r126_0, r126_1, r126_4, r126_6, r126_9, r126_10, r126_11, r126_14, r126_17, r126_20, r126_21, r126_22, r126_25, r126_28, r126_31, r126_32, tm_in, or_true, true_or, tm_cs0, tm_cs1, tm_cs2, tm_cs3, tm_cs4, true_and, and_true, and_self, Option.toList_some, Option.toList_none, List.cons_append, List.nil_append, tm_rf_some, tm_rf_none]
  grind
end MRD
