/-! The class's reading of the tape. -/
def p_val (c : Nat → Int32) (f : Nat) (D : p_D) : Bool × p_D := if (p_dg c D.1).1 = -1 ∨ tp_hi f < (p_dg c D.1).1 then (false, (p_dg c D.1).2, D.2) else (true, (p_dg c D.1).2, D.2.1 ||| (1 <<< (nI f &&& 31)), D.2.2.1, p_upf D.2.2.2.1 f (p_dg c D.1).1, D.2.2.2.2)
/-- the span's high end and where it ends -/
def p_sp (c : Nat → Int32) (p : Nat) : Int32 × Nat := if (p_dg c p).1 ≠ -1 ∧ c (p_dg c p).2 = 45 then p_dg c ((p_dg c p).2 + 1) else p_dg c p
def p_spn (c : Nat → Int32) (D : p_D) : Bool × p_D := if (p_dg c D.1).1 = -1 ∨ (p_sp c D.1).1 < (p_dg c D.1).1 ∨ tp_hi 2 < (p_sp c D.1).1 then (false, (p_sp c D.1).2, D.2) else (true, (p_sp c D.1).2, D.2.1 ||| (1 <<< ((2 : Int32) &&& 31)), (p_sp c D.1).1, p_upf D.2.2.2.1 2 (p_dg c D.1).1, D.2.2.2.2)
def p_nms (c : Nat → Int32) : Nat → Nat → p_D → Bool × p_D
  | 0, _, D => (false, D)
  | k + 1, i, D => if (p_nm c D.1).1 = -1 ∨ p_hn D.2.2.2.2 (p_nm c D.1).1 0 i = true then (false, (p_nm c D.1).2, D.2) else if c (p_nm c D.1).2 = 44 then p_nms c k (i + 1) ((p_nm c D.1).2 + 1, D.2.1 ||| (1 <<< ((3 : Int32) &&& 31)), D.2.2.1, p_upf D.2.2.2.1 3 (nI (i + 1)), p_upf D.2.2.2.2 i (p_nm c D.1).1) else (true, (p_nm c D.1).2, D.2.1 ||| (1 <<< ((3 : Int32) &&& 31)), D.2.2.1, p_upf D.2.2.2.1 3 (nI (i + 1)), p_upf D.2.2.2.2 i (p_nm c D.1).1)
theorem p_dg_le {b : Nat → Int32} {n p : Nat} (hp : p ≤ n) : (p_dg (p_pk b n) p).2 ≤ n := p_rd_le p_pk0 _ _ _ _ hp
theorem p_nm_le {b : Nat → Int32} {n p : Nat} (hp : p ≤ n) : (p_nm (p_pk b n) p).2 ≤ n := p_rn_le p_pk0 _ _ _ _ hp
theorem p_pk_lt {b : Nat → Int32} {n p : Nat} (h : p_pk b n p ≠ 0) : p < n := Nat.lt_of_not_le (fun z => h (p_pk0 p z))
theorem p_sp_le {b : Nat → Int32} {n p : Nat} (hp : p ≤ n) : (p_sp (p_pk b n) p).2 ≤ n := by
  unfold p_sp
  split
  · rename_i h
    exact p_dg_le (p_pk_lt (by rw [h.2]; decide))
  · exact p_dg_le hp
theorem p_val_le {b : Nat → Int32} {n f : Nat} {D : p_D} (hp : D.1 ≤ n) : (p_val (p_pk b n) f D).2.1 ≤ n := by
  unfold p_val
  split <;> exact p_dg_le hp
theorem p_spn_le {b : Nat → Int32} {n : Nat} {D : p_D} (hp : D.1 ≤ n) : (p_spn (p_pk b n) D).2.1 ≤ n := by
  unfold p_spn
  split <;> exact p_sp_le hp
theorem p_nms_le {b : Nat → Int32} {n : Nat} : ∀ (k i : Nat) (D : p_D), D.1 ≤ n → (p_nms (p_pk b n) k i D).2.1 ≤ n := by
  intro k
  induction k with
  | zero => intro i D hp; exact hp
  | succ k ih =>
    intro i D hp
    simp only [p_nms]
    split
    · exact p_nm_le hp
    · split
      · rename_i h
        exact ih _ _ (p_pk_lt (by rw [h]; decide))
      · exact p_nm_le hp
section RDG
variable {G : tm_G} {I : Nat → Nat → Int32} {J : Nat → Nat → Int64} {R : Nat → Nat → Option Nat}
theorem c9d (d : Nat) (K : Option Value → tm_H → Prop) (hS : tp_S G) (hR : tp_R R) {p f : Nat} {h u x : Int32} {v w : Nat → Int32} (hf : f < 5) : tm_R d 9 [.ref 6, .int (nI f), .int x] (G, tp_dr I (p, h, u, v, w), J, R) K ↔ K none (G, tp_dr I (p, h ||| (1 <<< (nI f &&& 31)), u, p_upf v f x, w), J, R) := by
  rw [c9 d (nI f) x K (tp_F6 hS hR) (q_in hf (by decide)), q_ix (show f < 2147483648 by omega), dr_uv, dr_h, dr_uh]
theorem c79 (d : Nat) (K : Option Value → tm_H → Prop) (hS : tp_S G) (hR : tp_R R) (hC : tp_C I) {n : Nat} (hn : I 4 1 = nI n) (hn100 : n ≤ 100) {p f : Nat} {h u : Int32} {v w : Nat → Int32} (hp : p ≤ n) (hf : f < 5) : tm_R (d + 2) 79 [.ref 4, .int (nI f)] (G, tp_dr I (p, h, u, v, w), J, R) K ↔ K (some (.int (if (p_val (p_pk (I 5) n) f (p, h, u, v, w)).1 = true then 1 else 0))) (G, tp_dr I (p_val (p_pk (I 5) n) f (p, h, u, v, w)).2, J, R) := by
  have hin : tm_in (nI f) 5 := q_in hf (by decide)
  have e2 := hC.2 f hf
  rw [e79]
  simp only [r79_0, r79_1, r79_4, r79_5, r79_6, r79_7, r79_10, r79_11, r79_14, r79_15, r79_16, r79_19, r79_20, r79_21, r79_22, r79_25, r79_26, r79_27, r79_30, r79_31, c81 _ _ hS hR hn hn100 hp, c9d _ _ hS hR hf, sh_4 hS, sh_6 hS, sh_2 hS, rf_4_3 hR, dr_2, hin, q_ix (show f < 2147483648 by omega), e2, tm_in, or_true, true_or, tm_cs0, tm_cs1, tm_cs2, tm_cs3, tm_cs4, true_and, and_true, and_self, Option.toList_some, Option.toList_none, List.cons_append, List.nil_append, tm_rf_some, tm_rf_none]
  unfold p_val
  by_cases h1 : (p_dg (p_pk (I 5) n) p).1 = -1
  · simp only [h1, if_true, true_or, Bool.false_eq_true, if_false]
  · by_cases h2 : (p_dg (p_pk (I 5) n) p).1 ≤ tp_hi f
    · have h2' : ¬ tp_hi f < (p_dg (p_pk (I 5) n) p).1 := Int32.not_lt.mpr h2
      simp only [h1, h2, h2', if_true, or_self, if_false]
    · have h2' : tp_hi f < (p_dg (p_pk (I 5) n) p).1 := Int32.not_le.mp h2
      simp only [h1, h2, h2', if_true, or_true, Bool.false_eq_true, if_false]
theorem c10d (d : Nat) (K : Option Value → tm_H → Prop) (hS : tp_S G) (hR : tp_R R) {p : Nat} {h u x y : Int32} {v w : Nat → Int32} : tm_R (d + 1) 10 [.ref 6, .int x, .int y] (G, tp_dr I (p, h, u, v, w), J, R) K ↔ K none (G, tp_dr I (p, h ||| (1 <<< ((2 : Int32) &&& 31)), y, p_upf v 2 x, w), J, R) := by
  rw [c10 d x y K (tp_F6 hS hR), dr_uv, dr_h, dr_uh, dr_uu]
theorem c80 (d : Nat) (K : Option Value → tm_H → Prop) (hS : tp_S G) (hR : tp_R R) (hC : tp_C I) {n : Nat} (hn : I 4 1 = nI n) (hn100 : n ≤ 100) {p : Nat} {h u : Int32} {v w : Nat → Int32} (hp : p ≤ n) : tm_R (d + 2) 80 [.ref 4] (G, tp_dr I (p, h, u, v, w), J, R) K ↔ K (some (.int (if (p_spn (p_pk (I 5) n) (p, h, u, v, w)).1 = true then 1 else 0))) (G, tp_dr I (p_spn (p_pk (I 5) n) (p, h, u, v, w)).2, J, R) := by
  have hin : tm_in 2 5 := by decide
  have e2 := hC.2 2 (by decide)
  have l1 := p_dg_le (b := I 5) hp
  have fin : ∀ (a b : Int32) (q : Nat), tm_A (d + 2) 80 36 [some (.ref 4), some (.int a), some (.int b)] [] (G, tp_dr I (q, h, u, v, w), J, R) K ↔ if a = -1 ∨ b < a ∨ tp_hi 2 < b then K (some (.int 0)) (G, tp_dr I (q, h, u, v, w), J, R) else K (some (.int 1)) (G, tp_dr I (q, h ||| (1 <<< ((2 : Int32) &&& 31)), b, p_upf v 2 a, w), J, R) := by
    intro a b q
    simp only [r80_36, r80_37, r80_38, r80_41, r80_42, r80_43, r80_46, r80_47, r80_50, r80_51, r80_52, r80_55, r80_56, r80_57, r80_58, r80_61, r80_62, r80_63, r80_66, r80_67, c10d _ _ hS hR, sh_4 hS, sh_6 hS, sh_2 hS, rf_4_3 hR, dr_2, hin, ix2, e2, tm_in, or_true, true_or, tm_cs0, tm_cs1, tm_cs2, tm_cs3, tm_cs4, true_and, and_true, and_self, Option.toList_some, Option.toList_none, List.cons_append, List.nil_append, tm_rf_some, tm_rf_none]
    grind
  rw [e80]
  simp only [r80_0, r80_1, r80_4, r80_5, r80_6, r80_7, r80_8, r80_9, c81 _ _ hS hR hn hn100 hp, sh_4 hS, sh_6 hS, tm_in, or_true, true_or, tm_cs0, tm_cs1, tm_cs2, tm_cs3, tm_cs4, true_and, and_true, and_self, Option.toList_some, Option.toList_none, List.cons_append, List.nil_append, tm_rf_some, tm_rf_none]
  unfold p_spn p_sp
  by_cases h1 : (p_dg (p_pk (I 5) n) p).1 = -1
  · simp only [h1, if_true, fin, true_or, ne_eq, not_true, false_and, if_false, Bool.false_eq_true]
  · simp only [h1, if_false, r80_12, r80_13, r80_16, r80_18, c75d _ _ hS hR hn hn100 l1, sh_4 hS, sh_6 hS, tm_in, or_true, true_or, tm_cs0, tm_cs1, tm_cs2, tm_cs3, tm_cs4, true_and, and_true, and_self, Option.toList_some, Option.toList_none, List.cons_append, List.nil_append, tm_rf_some, tm_rf_none]
    by_cases h2 : p_pk (I 5) n (p_dg (p_pk (I 5) n) p).2 = 45
    · have l2 : (p_dg (p_pk (I 5) n) p).2 + 1 ≤ n := p_pk_lt (by rw [h2]; decide)
      simp only [h2, not_true, if_false, r80_21, r80_22, r80_22i, r80_23, r80_26, r80_27, r80_28, r80_31, r80_32, r80_35, c81 _ _ hS hR hn hn100 l2, sh_4 hS, sh_6 hS, dr_p, nI_1, dr_up, tm_in, or_true, true_or, tm_cs0, tm_cs1, tm_cs2, tm_cs3, tm_cs4, true_and, and_true, and_self, Option.toList_some, Option.toList_none, List.cons_append, List.nil_append, tm_rf_some, tm_rf_none]
      rw [fin]
      simp only [h1, ne_eq, not_false_eq_true, and_self, if_true, false_or]
      grind
    · simp only [h2, not_false_eq_true, if_true]
      rw [fin]
      simp only [h1, h2, ne_eq, not_false_eq_true, and_false, if_false, false_or]
      grind
theorem c8d (d : Nat) (K : Option Value → tm_H → Prop) (hS : tp_S G) (hR : tp_R R) {p i : Nat} {h u x : Int32} {v w : Nat → Int32} (hv : v 3 = nI i) (hi : i ≤ 3) : tm_R d 8 [.ref 6, .int x] (G, tp_dr I (p, h, u, v, w), J, R) K ↔ K (some (.int (if p_hn w x 0 i = true then 1 else 0))) (G, tp_dr I (p, h, u, v, w), J, R) := by
  have := c8 (I := tp_dr I (p, h, u, v, w)) (J := J) d x K (tp_F6 hS hR) (c := i) (by rw [dr_7]; exact hv) hi
  rw [dr_8] at this
  exact this
theorem c11d (d : Nat) (K : Option Value → tm_H → Prop) (hS : tp_S G) (hR : tp_R R) {p i : Nat} {h u x : Int32} {v w : Nat → Int32} (hv : v 3 = nI i) (hi : i < 3) : tm_R (d + 1) 11 [.ref 6, .int x] (G, tp_dr I (p, h, u, v, w), J, R) K ↔ K none (G, tp_dr I (p, h ||| (1 <<< ((3 : Int32) &&& 31)), u, p_upf v 3 (nI (i + 1)), p_upf w i x), J, R) := by
  rw [c11 d x K (tp_F6 hS hR) (c := i) (by rw [dr_7]; exact hv) hi, dr_uw, dr_uv, dr_h, dr_uh]
theorem c82_l (d : Nat) (K : Option Value → tm_H → Prop) (hS : tp_S G) (hR : tp_R R) {n : Nat} (hn : I 4 1 = nI n) (hn100 : n ≤ 100) : ∀ (k i p : Nat) (h u : Int32) (v w : Nat → Int32) (o : Option Value), i + k = 3 → p ≤ n → v 3 = nI i → (tm_A (d + 2) 82 2 [some (.ref 4), some (.int (nI i)), o] [] (G, tp_dr I (p, h, u, v, w), J, R) K ↔ K (some (.int (if (p_nms (p_pk (I 5) n) k i (p, h, u, v, w)).1 = true then 1 else 0))) (G, tp_dr I (p_nms (p_pk (I 5) n) k i (p, h, u, v, w)).2, J, R)) := by
  intro k
  induction k with
  | zero =>
    intro i p h u v w o hi hp hv
    have hi : i = 3 := by omega
    subst hi
    have hc : (3 : Int32) ≤ nI 3 := by decide
    rw [r82_2]
    simp only [r82_0, r82_1, r82_3, r82_4, r82_7, r82_8, r82_11, r82_12, r82_13, r82_14, r82_17, r82_18, r82_21, r82_22, r82_25, r82_28, r82_29, r82_30, r82_31, r82_34, r82_35, r82_38, r82_39, r82_42, r82_44, r82_47, r82_48, r82_49, r82_50, r82_50i, r82_51, r82_54, r82_55, r82_56, r82_59, r82_62, r82_65, r82_66, hc, if_true, p_nms, Bool.false_eq_true, if_false, tm_in, or_true, true_or, tm_cs0, tm_cs1, tm_cs2, tm_cs3, tm_cs4, true_and, and_true, and_self, Option.toList_some, Option.toList_none, List.cons_append, List.nil_append, tm_rf_some, tm_rf_none]
  | succ k ih =>
    intro i p h u v w o hi hp hv
    have hc : ¬ (3 : Int32) ≤ nI i := fun z => by
      have := (q_le (a := 3) (b := i) rfl rfl (by decide) (by omega)).mp z
      omega
    have l1 := p_nm_le (b := I 5) hp
    rw [r82_2]
    simp only [r82_3, r82_4, r82_7, r82_8, r82_11, r82_12, r82_13, r82_14, r82_17, r82_18, r82_21, r82_22, r82_25, hc, if_false, sh_4 hS, sh_6 hS, rf_4_3 hR, c83 _ _ hS hR hn hn100 hp, c8d _ _ hS hR hv (show i ≤ 3 by omega), tm_in, or_true, true_or, tm_cs0, tm_cs1, tm_cs2, tm_cs3, tm_cs4, true_and, and_true, and_self, Option.toList_some, Option.toList_none, List.cons_append, List.nil_append, tm_rf_some, tm_rf_none]
    by_cases h1 : (p_nm (p_pk (I 5) n) p).1 = -1
    · rw [show p_nms (p_pk (I 5) n) (k + 1) i (p, h, u, v, w) = (false, (p_nm (p_pk (I 5) n) p).2, h, u, v, w) from by rw [p_nms, if_pos (Or.inl h1)]]
      simp only [h1, if_true, r82_28, r82_29, Bool.false_eq_true, if_false, tm_in, or_true, true_or, tm_cs0, tm_cs1, tm_cs2, tm_cs3, tm_cs4, true_and, and_true, and_self, Option.toList_some, Option.toList_none, List.cons_append, List.nil_append, tm_rf_some, tm_rf_none]
    · by_cases h2 : p_hn w (p_nm (p_pk (I 5) n) p).1 0 i = true
      · rw [show p_nms (p_pk (I 5) n) (k + 1) i (p, h, u, v, w) = (false, (p_nm (p_pk (I 5) n) p).2, h, u, v, w) from by rw [p_nms, if_pos (Or.inr h2)]]
        simp only [h1, h2, sh_6 hS, if_true, if_false, r82_28, r82_29, Bool.false_eq_true, show ¬ (1 : Int32) = 0 by decide, tm_in, or_true, true_or, tm_cs0, tm_cs1, tm_cs2, tm_cs3, tm_cs4, true_and, and_true, and_self, Option.toList_some, Option.toList_none, List.cons_append, List.nil_append, tm_rf_some, tm_rf_none]
      · by_cases h3 : p_pk (I 5) n (p_nm (p_pk (I 5) n) p).2 = 44
        · rw [show p_nms (p_pk (I 5) n) (k + 1) i (p, h, u, v, w) = p_nms (p_pk (I 5) n) k (i + 1) ((p_nm (p_pk (I 5) n) p).2 + 1, h ||| (1 <<< ((3 : Int32) &&& 31)), u, p_upf v 3 (nI (i + 1)), p_upf w i (p_nm (p_pk (I 5) n) p).1) from by rw [p_nms, if_neg (fun z => z.elim h1 h2), if_pos h3]]
          simp only [h1, h2, if_true, if_false, r82_30, r82_31, r82_34, r82_35, r82_38, r82_39, r82_42, r82_44, sh_4 hS, sh_6 hS, rf_4_3 hR, c11d _ _ hS hR hv (show i < 3 by omega), c75d _ _ hS hR hn hn100 l1, h3, r82_49, r82_50, r82_50i, r82_51, r82_54, r82_55, r82_56, r82_59, r82_62, dr_p, nI_1, dr_up, Bool.false_eq_true, tm_in, or_true, true_or, tm_cs0, tm_cs1, tm_cs2, tm_cs3, tm_cs4, true_and, and_true, and_self, Option.toList_some, Option.toList_none, List.cons_append, List.nil_append, tm_rf_some, tm_rf_none]
          exact ih (i + 1) _ _ _ _ _ _ (by omega) (p_pk_lt (by rw [h3]; decide)) (by simp [p_upf])
        · rw [show p_nms (p_pk (I 5) n) (k + 1) i (p, h, u, v, w) = (true, (p_nm (p_pk (I 5) n) p).2, h ||| (1 <<< ((3 : Int32) &&& 31)), u, p_upf v 3 (nI (i + 1)), p_upf w i (p_nm (p_pk (I 5) n) p).1) from by rw [p_nms, if_neg (fun z => z.elim h1 h2), if_neg h3]]
          simp only [h1, h2, if_true, if_false, r82_30, r82_31, r82_34, r82_35, r82_38, r82_39, r82_42, r82_44, sh_4 hS, sh_6 hS, rf_4_3 hR, c11d _ _ hS hR hv (show i < 3 by omega), c75d _ _ hS hR hn hn100 l1, h3, r82_47, r82_48, Bool.false_eq_true, tm_in, or_true, true_or, tm_cs0, tm_cs1, tm_cs2, tm_cs3, tm_cs4, true_and, and_true, and_self, Option.toList_some, Option.toList_none, List.cons_append, List.nil_append, tm_rf_some, tm_rf_none]
theorem c82 (d : Nat) (K : Option Value → tm_H → Prop) (hS : tp_S G) (hR : tp_R R) {n : Nat} (hn : I 4 1 = nI n) (hn100 : n ≤ 100) {p : Nat} {h u : Int32} {v w : Nat → Int32} (hp : p ≤ n) (hv : v 3 = 0) : tm_R (d + 2) 82 [.ref 4] (G, tp_dr I (p, h, u, v, w), J, R) K ↔ K (some (.int (if (p_nms (p_pk (I 5) n) 3 0 (p, h, u, v, w)).1 = true then 1 else 0))) (G, tp_dr I (p_nms (p_pk (I 5) n) 3 0 (p, h, u, v, w)).2, J, R) := by
  rw [e82]
  simp only [r82_0, r82_1]
  exact c82_l d K hS hR hn hn100 3 0 p h u v w _ rfl hp hv
/-- one item -/
def p_item (c : Nat → Int32) (D : p_D) : Bool × p_D :=
  if p_mfr (c D.1) 0 5 = -1 ∨ p_has D.2.1 (p_mfr (c D.1) 0 5) then (false, D)
  else if p_mfr (c D.1) 0 5 = 3 then p_nms c 3 0 (D.1 + 1, D.2)
  else if p_mfr (c D.1) 0 5 = 2 then p_spn c (D.1 + 1, D.2)
  else p_val c (tm_ix (p_mfr (c D.1) 0 5)) (D.1 + 1, D.2)
theorem p_mfr_in (c : Int32) : p_mfr c 0 5 = -1 ∨ tm_in (p_mfr c 0 5) 5 := by
  simp only [p_mfr]
  split
  · exact Or.inr (by decide)
  · split
    · exact Or.inr (by decide)
    · split
      · exact Or.inr (by decide)
      · split
        · exact Or.inr (by decide)
        · split
          · exact Or.inr (by decide)
          · exact Or.inl rfl
theorem p_item_le {b : Nat → Int32} {n : Nat} {D : p_D} (hp : D.1 < n) : (p_item (p_pk b n) D).2.1 ≤ n := by
  unfold p_item
  split
  · exact Nat.le_of_lt hp
  · split
    · exact p_nms_le _ _ _ hp
    · split
      · exact p_spn_le hp
      · exact p_val_le hp
theorem c3d (d : Nat) (K : Option Value → tm_H → Prop) (hS : tp_S G) (hR : tp_R R) {p : Nat} {h u x : Int32} {v w : Nat → Int32} : tm_R d 3 [.ref 6, .int x] (G, tp_dr I (p, h, u, v, w), J, R) K ↔ K (some (.int (if p_has h x then 1 else 0))) (G, tp_dr I (p, h, u, v, w), J, R) := by
  have := c3 (I := tp_dr I (p, h, u, v, w)) (J := J) d x K (tp_F6 hS hR)
  rw [dr_h] at this
  exact this
theorem c77 (d : Nat) (K : Option Value → tm_H → Prop) (hS : tp_S G) (hR : tp_R R) (hC : tp_C I) {n : Nat} (hn : I 4 1 = nI n) (hn100 : n ≤ 100) {p : Nat} {h u : Int32} {v w : Nat → Int32} (hp : p < n) (hv : ¬ p_has h 3 → v 3 = 0) : tm_R (d + 3) 77 [.ref 4] (G, tp_dr I (p, h, u, v, w), J, R) K ↔ K (some (.int (if (p_item (p_pk (I 5) n) (p, h, u, v, w)).1 = true then 1 else 0))) (G, tp_dr I (p_item (p_pk (I 5) n) (p, h, u, v, w)).2, J, R) := by
  rw [e77]
  simp only [r77_0, r77_1, r77_4, r77_5, r77_6, r77_7, r77_10, r77_11, r77_14, r77_15, r77_18, c78d _ _ hS hR hC hn hn100 (show p ≤ n by omega), c3d _ _ hS hR, sh_4 hS, sh_6 hS, rf_4_3 hR, tm_in, or_true, true_or, tm_cs0, tm_cs1, tm_cs2, tm_cs3, tm_cs4, true_and, and_true, and_self, Option.toList_some, Option.toList_none, List.cons_append, List.nil_append, tm_rf_some, tm_rf_none]
  by_cases h1 : p_mfr (p_pk (I 5) n p) 0 5 = -1
  · rw [show p_item (p_pk (I 5) n) (p, h, u, v, w) = (false, p, h, u, v, w) from by unfold p_item; rw [if_pos (Or.inl h1)]]
    simp only [h1, if_true, r77_21, r77_22, Bool.false_eq_true, if_false, tm_in, or_true, true_or, tm_cs0, tm_cs1, tm_cs2, tm_cs3, tm_cs4, true_and, and_true, and_self, Option.toList_some, Option.toList_none, List.cons_append, List.nil_append, tm_rf_some, tm_rf_none]
  · obtain ⟨ef, lf⟩ := q_of ((p_mfr_in (p_pk (I 5) n p)).resolve_left h1)
    by_cases h2 : p_has h (p_mfr (p_pk (I 5) n p) 0 5)
    · rw [show p_item (p_pk (I 5) n) (p, h, u, v, w) = (false, p, h, u, v, w) from by unfold p_item; rw [if_pos (Or.inr h2)]]
      rw [if_neg h1, if_pos h2]
      simp only [if_false, sh_6 hS, r77_21, r77_22, Bool.false_eq_true, show ¬ (1 : Int32) = 0 by decide, tm_in, or_true, true_or, tm_cs0, tm_cs1, tm_cs2, tm_cs3, tm_cs4, true_and, and_true, and_self, Option.toList_some, Option.toList_none, List.cons_append, List.nil_append, tm_rf_some, tm_rf_none]
    · rw [if_neg h1, if_neg h2]
      simp only [if_true, r77_23, r77_24, r77_24i, r77_25, r77_28, r77_29, r77_30, r77_33, r77_34, r77_35, sh_4 hS, sh_6 hS, dr_p, nI_1, dr_up, tm_in, or_true, true_or, tm_cs0, tm_cs1, tm_cs2, tm_cs3, tm_cs4, true_and, and_true, and_self, Option.toList_some, Option.toList_none, List.cons_append, List.nil_append, tm_rf_some, tm_rf_none]
      by_cases h3 : p_mfr (p_pk (I 5) n p) 0 5 = 3
      · rw [show p_item (p_pk (I 5) n) (p, h, u, v, w) = p_nms (p_pk (I 5) n) 3 0 (p + 1, h, u, v, w) from by unfold p_item; rw [if_neg (fun z => z.elim h1 h2), if_pos h3]]
        simp only [h3, not_true, if_false, if_true, r77_38, r77_39, r77_42, sh_4 hS, sh_6 hS, c82 _ _ hS hR hn hn100 (show p + 1 ≤ n by omega) (hv (by rw [← h3]; exact h2)), tm_in, or_true, true_or, tm_cs0, tm_cs1, tm_cs2, tm_cs3, tm_cs4, true_and, and_true, and_self, Option.toList_some, Option.toList_none, List.cons_append, List.nil_append, tm_rf_some, tm_rf_none]
        split <;> simp
      · by_cases h4 : p_mfr (p_pk (I 5) n p) 0 5 = 2
        · rw [show p_item (p_pk (I 5) n) (p, h, u, v, w) = p_spn (p_pk (I 5) n) (p + 1, h, u, v, w) from by unfold p_item; rw [if_neg (fun z => z.elim h1 h2), if_neg h3, if_pos h4]]
          simp only [h3, not_false_eq_true, if_true, if_false, r77_43, r77_44, r77_45, h4, not_true, r77_48, r77_49, r77_52, r77_55, r77_56, r77_57, r77_60, sh_4 hS, sh_6 hS, c80 _ _ hS hR hC hn hn100 (show p + 1 ≤ n by omega), show ¬ (2 : Int32) = 3 by decide, tm_in, or_true, true_or, tm_cs0, tm_cs1, tm_cs2, tm_cs3, tm_cs4, true_and, and_true, and_self, Option.toList_some, Option.toList_none, List.cons_append, List.nil_append, tm_rf_some, tm_rf_none]
          split <;> simp
        · rw [show p_item (p_pk (I 5) n) (p, h, u, v, w) = p_val (p_pk (I 5) n) (tm_ix (p_mfr (p_pk (I 5) n p) 0 5)) (p + 1, h, u, v, w) from by unfold p_item; rw [if_neg (fun z => z.elim h1 h2), if_neg h3, if_neg h4]]
          have := fun d' K' => c79 (J := J) (h := h) (u := u) (v := v) (w := w) d' K' hS hR hC hn hn100 (show p + 1 ≤ n by omega) lf
          rw [← ef] at this
          simp only [h3, h4, not_false_eq_true, if_true, if_false, r77_43, r77_44, r77_45, r77_55, r77_56, r77_57, r77_60, this, sh_4 hS, sh_6 hS, tm_in, or_true, true_or, tm_cs0, tm_cs1, tm_cs2, tm_cs3, tm_cs4, true_and, and_true, and_self, Option.toList_some, Option.toList_none, List.cons_append, List.nil_append, tm_rf_some, tm_rf_none]
          split <;> simp
end RDG
