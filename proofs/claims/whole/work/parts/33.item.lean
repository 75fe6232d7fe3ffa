/-! The class's reading of one item. -/
abbrev p_D : Type := Nat × Int32 × Int32 × (Nat → Int32) × (Nat → Int32)
/-- the tape's place and the draft's parts written into the heap -/
def tp_dr (I : Nat → Nat → Int32) (D : p_D) : Nat → Nat → Int32 := fun b k => if b = 4 ∧ k = 2 then nI D.1 else if b = 6 ∧ k = 0 then D.2.1 else if b = 6 ∧ k = 1 then D.2.2.1 else if b = 7 then D.2.2.2.1 k else if b = 8 then D.2.2.2.2 k else I b k
def p_upf (f : Nat → Int32) (i : Nat) (x : Int32) : Nat → Int32 := fun k => if k = i then x else f k
section DR
variable {I : Nat → Nat → Int32} {D : p_D} {p p' : Nat} {h h' u u' : Int32} {v w : Nat → Int32}
theorem dr_p : tp_dr I D 4 2 = nI D.1 := by simp [tp_dr]
theorem dr_n : tp_dr I D 4 1 = I 4 1 := by simp [tp_dr]
theorem dr_h : tp_dr I D 6 0 = D.2.1 := by simp [tp_dr]
theorem dr_u : tp_dr I D 6 1 = D.2.2.1 := by simp [tp_dr]
theorem dr_1 : tp_dr I D 1 = I 1 := by funext k; simp [tp_dr]
theorem dr_2 : tp_dr I D 2 = I 2 := by funext k; simp [tp_dr]
theorem dr_5 : tp_dr I D 5 = I 5 := by funext k; simp [tp_dr]
theorem dr_7 : tp_dr I D 7 = D.2.2.2.1 := by funext k; simp [tp_dr]
theorem dr_8 : tp_dr I D 8 = D.2.2.2.2 := by funext k; simp [tp_dr]
theorem dr_o {b : Nat} (h : b ≠ 4) (h2 : b < 6 ∨ 8 < b) : tp_dr I D b = I b := by
  funext k
  simp only [tp_dr]
  rw [if_neg (by omega), if_neg (by omega), if_neg (by omega), if_neg (by omega), if_neg (by omega)]
theorem dr_up : up2 (tp_dr I (p, h, u, v, w)) 4 2 (nI p') = tp_dr I (p', h, u, v, w) := by
  funext b k; simp only [up2, tp_dr]; split <;> rfl
theorem dr_uh : up2 (tp_dr I (p, h, u, v, w)) 6 0 h' = tp_dr I (p, h', u, v, w) := by
  funext b k; simp only [up2, tp_dr]; grind
theorem dr_uu : up2 (tp_dr I (p, h, u, v, w)) 6 1 u' = tp_dr I (p, h, u', v, w) := by
  funext b k; simp only [up2, tp_dr]; grind
theorem dr_uv {i : Nat} {x : Int32} : up2 (tp_dr I (p, h, u, v, w)) 7 i x = tp_dr I (p, h, u, p_upf v i x, w) := by
  funext b k; simp only [up2, tp_dr, p_upf]; grind
theorem dr_uw {i : Nat} {x : Int32} : up2 (tp_dr I (p, h, u, v, w)) 8 i x = tp_dr I (p, h, u, v, p_upf w i x) := by
  funext b k; simp only [up2, tp_dr, p_upf]; grind
theorem dr_self : tp_dr I (p, I 6 0, I 6 1, I 7, I 8) = up2 I 4 2 (nI p) := by
  funext b k; simp only [up2, tp_dr]; grind
theorem dr_dr {D' : p_D} : tp_dr (tp_dr I D) D' = tp_dr I D' := by
  funext b k; simp only [tp_dr]; grind
end DR
theorem p_wh_le {c : Nat → Bool} {n : Nat} (hc : ∀ p, c p = true → p < n) : ∀ (k p : Nat), p ≤ n → p_wh c k p ≤ n := by
  intro k
  induction k with
  | zero => intro p hp; exact hp
  | succ k ih =>
    intro p hp
    simp only [p_wh]
    split
    · exact ih _ (hc p (by assumption))
    · exact hp
/-- digits: the number, or -1; and where it ends -/
def p_dg (c : Nat → Int32) (p : Nat) : Int32 × Nat := (if (p_rd c 100 0 0 p).2.1 = 0 ∨ 4 < (p_rd c 100 0 0 p).2.1 then -1 else (p_rd c 100 0 0 p).1, (p_rd c 100 0 0 p).2.2)
theorem p_rd_le {c : Nat → Int32} {n : Nat} (hc : ∀ p, n ≤ p → c p = 0) : ∀ (k : Nat) (v : Int32) (q p : Nat), p ≤ n → (p_rd c k v q p).2.2 ≤ n := by
  intro k
  induction k with
  | zero => intro v q p hp; exact hp
  | succ k ih =>
    intro v q p hp
    simp only [p_rd]
    split
    · rename_i h
      have : p < n := Nat.lt_of_not_le (fun z => by
        rw [hc p z] at h
        exact absurd h (by decide))
      exact ih _ _ _ this
    · exact hp
/-- letters: the name, how many, where -/
def p_rn (c : Nat → Int32) : Nat → Int32 → Nat → Nat → Int32 × Nat × Nat
  | 0, v, q, p => (v, q, p)
  | k + 1, v, q, p => if 97 ≤ c p ∧ c p ≤ 122 then p_rn c k (if q < 6 then v ||| ((c p - 96) <<< ((5 * nI q) &&& 31)) else v) (q + 1) (p + 1) else (v, q, p)
theorem p_rn_le {c : Nat → Int32} {n : Nat} (hc : ∀ p, n ≤ p → c p = 0) : ∀ (k : Nat) (v : Int32) (q p : Nat), p ≤ n → (p_rn c k v q p).2.2 ≤ n := by
  intro k
  induction k with
  | zero => intro v q p hp; exact hp
  | succ k ih =>
    intro v q p hp
    simp only [p_rn]
    split
    · rename_i h
      have : p < n := Nat.lt_of_not_le (fun z => by
        rw [hc p z] at h
        exact absurd h (by decide))
      exact ih _ _ _ this
    · exact hp
def p_nm (c : Nat → Int32) (p : Nat) : Int32 × Nat := (if (p_rn c 100 0 0 p).2.1 = 0 ∨ 6 < (p_rn c 100 0 0 p).2.1 then -1 else (p_rn c 100 0 0 p).1, (p_rn c 100 0 0 p).2.2)
theorem p_pk0 {b : Nat → Int32} {n : Nat} : ∀ p, n ≤ p → p_pk b n p = 0 := fun p h => by unfold p_pk; rw [if_neg (by omega)]
section ITM
variable {G : tm_G} {I : Nat → Nat → Int32} {J : Nat → Nat → Int64} {R : Nat → Nat → Option Nat}
theorem c81 (d : Nat) (K : Option Value → tm_H → Prop) (hS : tp_S G) (hR : tp_R R) {n : Nat} (hn : I 4 1 = nI n) (hn100 : n ≤ 100) {p : Nat} {h u : Int32} {v w : Nat → Int32} (hp : p ≤ n) : tm_R (d + 1) 81 [.ref 4] (G, tp_dr I (p, h, u, v, w), J, R) K ↔ K (some (.int (p_dg (p_pk (I 5) n) p).1)) (G, tp_dr I ((p_dg (p_pk (I 5) n) p).2, h, u, v, w), J, R) := by
  rw [e81]
  simp only [r81_0, r81_1, r81_2, r81_3, r81_4, r81_5]
  have := c81_l (I := tp_dr I (p, h, u, v, w)) (J := J) d K hS hR (n := n) (by rw [dr_n]; exact hn) hn100 100 0 p 0 0 rfl (by omega) (by omega)
  rw [dr_up, dr_up, dr_5] at this
  exact this
theorem c75d (d : Nat) (K : Option Value → tm_H → Prop) (hS : tp_S G) (hR : tp_R R) {n : Nat} (hn : I 4 1 = nI n) (hn100 : n ≤ 100) {p : Nat} {h u : Int32} {v w : Nat → Int32} (hp : p ≤ n) : tm_R d 75 [.ref 4] (G, tp_dr I (p, h, u, v, w), J, R) K ↔ K (some (.int (p_pk (I 5) n p))) (G, tp_dr I (p, h, u, v, w), J, R) := by
  rw [c75 d K hS hR (n := n) (p := p) (by rw [dr_n]; exact hn) hn100 dr_p (by omega), dr_5]
theorem c76d (d : Nat) (K : Option Value → tm_H → Prop) (hS : tp_S G) (hR : tp_R R) {n : Nat} (hn : I 4 1 = nI n) (hn100 : n ≤ 100) {p : Nat} {h u : Int32} {v w : Nat → Int32} (hp : p ≤ n) : tm_R (d + 1) 76 [.ref 4] (G, tp_dr I (p, h, u, v, w), J, R) K ↔ K none (G, tp_dr I (p_wh (fun p => decide (p_pk (I 5) n p = 32)) 100 p, h, u, v, w), J, R) := by
  rw [c76 d K hS hR (n := n) (p := p) (by rw [dr_n]; exact hn) hn100 dr_p (by omega), dr_5, dr_up]
theorem c78d (d : Nat) (K : Option Value → tm_H → Prop) (hS : tp_S G) (hR : tp_R R) (hC : tp_C I) {n : Nat} (hn : I 4 1 = nI n) (hn100 : n ≤ 100) {p : Nat} {h u : Int32} {v w : Nat → Int32} (hp : p ≤ n) : tm_R (d + 1) 78 [.ref 4] (G, tp_dr I (p, h, u, v, w), J, R) K ↔ K (some (.int (p_mfr (p_pk (I 5) n p) 0 5))) (G, tp_dr I (p, h, u, v, w), J, R) := by
  rw [c78 d K hS hR (by unfold tp_C; rw [dr_1, dr_2]; exact hC) (n := n) (p := p) (by rw [dr_n]; exact hn) hn100 dr_p (by omega), dr_5]
theorem c83_l (d : Nat) (K : Option Value → tm_H → Prop) (hS : tp_S G) (hR : tp_R R) {n : Nat} (hn : I 4 1 = nI n) (hn100 : n ≤ 100) : ∀ (k i p q : Nat) (v : Int32), i + k = 100 → p ≤ 1000 + i → q ≤ i → (tm_A (d + 1) 83 6 [some (.ref 4), some (.int v), some (.int (nI q)), some (.int (nI i))] [] (G, up2 I 4 2 (nI p), J, R) K ↔ K (some (.int (if (p_rn (p_pk (I 5) n) k v q p).2.1 = 0 ∨ 6 < (p_rn (p_pk (I 5) n) k v q p).2.1 then -1 else (p_rn (p_pk (I 5) n) k v q p).1))) (G, up2 I 4 2 (nI (p_rn (p_pk (I 5) n) k v q p).2.2), J, R)) := by
  have fin : ∀ (q p : Nat) (v : Int32) (i : Nat), q ≤ 100 → (tm_A (d + 1) 83 69 [some (.ref 4), some (.int v), some (.int (nI q)), some (.int (nI i))] [] (G, up2 I 4 2 (nI p), J, R) K ↔ K (some (.int (if q = 0 ∨ 6 < q then -1 else v))) (G, up2 I 4 2 (nI p), J, R)) := by
    intro q p v i hq
    simp only [r83_69, r83_70, r83_73, r83_74, r83_76, r83_79, r83_80, r83_83, r83_84, tm_in, or_true, true_or, tm_cs0, tm_cs1, tm_cs2, tm_cs3, tm_cs4, true_and, and_true, and_self, Option.toList_some, Option.toList_none, List.cons_append, List.nil_append, tm_rf_some, tm_rf_none]
    by_cases h0 : q = 0
    · subst h0
      simp only [show nI 0 = 0 from rfl, if_true, true_or]
    · have z : ¬ nI q = 0 := nI_ne0 (by omega) (by omega)
      by_cases h4 : 6 < q
      · have z4 : ¬ nI q ≤ 6 := fun w => by
          have := (q_le (a := q) (b := 6) rfl rfl (by omega) (by decide)).mp w
          omega
        simp only [z, z4, if_false, h0, h4, or_true, if_true]
      · have z4 : nI q ≤ 6 := (q_le (a := q) (b := 6) rfl rfl (by omega) (by decide)).mpr (by omega)
        simp only [z, z4, if_false, h0, h4, or_self, if_true]
  intro k
  induction k with
  | zero =>
    intro i p q v hi hp hq
    have hi : i = 100 := by omega
    subst hi
    have hc : (100 : Int32) ≤ nI 100 := by decide
    rw [r83_6]
    simp only [r83_7, r83_9, hc, if_true, p_rn]
    exact fin q p v 100 hq
  | succ k ih =>
    intro i p q v hi hp hq
    have hc : ¬ (100 : Int32) ≤ nI i := fun z => by
      have := (q_le (a := 100) (b := i) rfl rfl (by decide) (by omega)).mp z
      omega
    have g1 : up2 I 4 2 (nI p) 4 1 = nI n := by rw [up2_ne (by decide)]; exact hn
    have g3 : up2 I 4 2 (nI p) 5 = I 5 := up2_row (by decide)
    have hpk : ∀ (d' : Nat) (K' : Option Value → tm_H → Prop), tm_R d' 75 [.ref 4] (G, up2 I 4 2 (nI p), J, R) K' ↔ K' (some (.int (p_pk (I 5) n p))) (G, up2 I 4 2 (nI p), J, R) := fun d' K' => by
      rw [c75 d' K' hS hR g1 hn100 up2_at (show p < 1000000 by omega), g3]
    rw [r83_6]
    simp only [r83_7, r83_9, hc, if_false, r83_12, r83_13, sh_4 hS, hpk, r83_16, r83_18, tm_in, or_true, true_or, tm_cs0, tm_cs1, tm_cs2, tm_cs3, tm_cs4, true_and, and_true, and_self, Option.toList_some, Option.toList_none, List.cons_append, List.nil_append, tm_rf_some, tm_rf_none]
    simp only [p_rn]
    by_cases h1 : p_pk (I 5) n p < 97
    · have h1' : ¬ ((97 : Int32) ≤ p_pk (I 5) n p ∧ p_pk (I 5) n p ≤ 122) := fun z => absurd z.1 (Int32.not_le.mpr h1)
      rw [if_pos h1]
      simp only [if_neg h1']
      exact fin q p v i (by omega)
    · rw [if_neg h1]
      simp only [r83_21, r83_22, sh_4 hS, hpk, r83_25, r83_27, tm_in, or_true, true_or, tm_cs0, tm_cs1, tm_cs2, tm_cs3, tm_cs4, true_and, and_true, and_self, Option.toList_some, Option.toList_none, List.cons_append, List.nil_append, tm_rf_some, tm_rf_none]
      by_cases h2 : (122 : Int32) < p_pk (I 5) n p
      · have h2' : ¬ ((97 : Int32) ≤ p_pk (I 5) n p ∧ p_pk (I 5) n p ≤ 122) := fun z => absurd z.2 (Int32.not_le.mpr h2)
        rw [if_pos h2]
        simp only [if_neg h2']
        exact fin q p v i (by omega)
      · have h12 : (97 : Int32) ≤ p_pk (I 5) n p ∧ p_pk (I 5) n p ≤ 122 := ⟨Int32.not_lt.mp h1, Int32.not_lt.mp h2⟩
        rw [if_neg h2]
        simp only [if_pos h12, r83_30, r83_31, r83_33]
        by_cases h4 : q < 6
        · have z4 : ¬ (6 : Int32) ≤ nI q := fun w => by
            have := (q_le (a := 6) (b := q) rfl rfl (by decide) (by omega)).mp w
            omega
          rw [if_neg z4]
          simp only [if_pos h4, r83_36, r83_37, r83_38, r83_41, r83_43, r83_44, r83_45, r83_46, r83_47, r83_48, r83_49, r83_50, r83_53, r83_54, r83_54i, r83_55, r83_58, r83_59, r83_60, r83_63, r83_66, sh_4 hS, hpk, up2_at, up2_up2, nI_1, tm_in, or_true, true_or, tm_cs0, tm_cs1, tm_cs2, tm_cs3, tm_cs4, true_and, and_true, and_self, Option.toList_some, Option.toList_none, List.cons_append, List.nil_append, tm_rf_some, tm_rf_none]
          exact ih (i + 1) (p + 1) (q + 1) _ (by omega) (by omega) (by omega)
        · have z4 : (6 : Int32) ≤ nI q := (q_le (a := 6) (b := q) rfl rfl (by decide) (by omega)).mpr (by omega)
          rw [if_pos z4]
          simp only [if_neg h4, r83_50, r83_53, r83_54, r83_54i, r83_55, r83_58, r83_59, r83_60, r83_63, r83_66, sh_4 hS, up2_at, up2_up2, nI_1, tm_in, or_true, true_or, tm_cs0, tm_cs1, tm_cs2, tm_cs3, tm_cs4, true_and, and_true, and_self, Option.toList_some, Option.toList_none, List.cons_append, List.nil_append, tm_rf_some, tm_rf_none]
          exact ih (i + 1) (p + 1) (q + 1) _ (by omega) (by omega) (by omega)
theorem c83 (d : Nat) (K : Option Value → tm_H → Prop) (hS : tp_S G) (hR : tp_R R) {n : Nat} (hn : I 4 1 = nI n) (hn100 : n ≤ 100) {p : Nat} {h u : Int32} {v w : Nat → Int32} (hp : p ≤ n) : tm_R (d + 1) 83 [.ref 4] (G, tp_dr I (p, h, u, v, w), J, R) K ↔ K (some (.int (p_nm (p_pk (I 5) n) p).1)) (G, tp_dr I ((p_nm (p_pk (I 5) n) p).2, h, u, v, w), J, R) := by
  rw [e83]
  simp only [r83_0, r83_1, r83_2, r83_3, r83_4, r83_5]
  have := c83_l (I := tp_dr I (p, h, u, v, w)) (J := J) d K hS hR (n := n) (by rw [dr_n]; exact hn) hn100 100 0 p 0 0 rfl (by omega) (by omega)
  rw [dr_up, dr_up, dr_5] at this
  exact this
end ITM
