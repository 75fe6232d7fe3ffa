/-! The class's tape: its bytes, and reading them. -/
theorem up2_up2 {α : Type} {f : Nat → Nat → α} {a i : Nat} {v w : α} : up2 (up2 f a i v) a i w = up2 f a i w := by
  funext b j
  simp only [up2]
  split <;> rfl
theorem up2_same {α : Type} {f : Nat → Nat → α} {a i : Nat} : up2 f a i (f a i) = f := by
  funext b j
  simp only [up2]
  by_cases h : b = a ∧ j = i
  · rw [if_pos h, h.1, h.2]
  · rw [if_neg h]
/-- the byte at p, or 0 behind the last -/
def p_pk (b : Nat → Int32) (n p : Nat) : Int32 := if p < n then b p else 0
def tp_C (I : Nat → Nat → Int32) : Prop := (∀ i, i < 5 → I 1 i = tp_mk i) ∧ ∀ i, i < 5 → I 2 i = tp_hi i
section TAP
variable {G : tm_G} {I : Nat → Nat → Int32} {J : Nat → Nat → Int64} {R : Nat → Nat → Option Nat}
theorem c75 (d : Nat) (K : Option Value → tm_H → Prop) (hS : tp_S G) (hR : tp_R R) {n p : Nat} (hn : I 4 1 = nI n) (hn100 : n ≤ 100) (hp : I 4 2 = nI p) (hp2 : p < 1000000) : tm_R d 75 [.ref 4] (G, I, J, R) K ↔ K (some (.int (p_pk (I 5) n p))) (G, I, J, R) := by
  have n1 : ¬ nI p < 0 := nI_pos (by omega)
  unfold p_pk
  rw [e75]
  by_cases h : p < n
  · have n2 : ¬ nI n ≤ nI p := fun q => by
      have := (q_le (a := n) (b := p) rfl rfl (by omega) (by omega)).mp q
      omega
    have n3 : ¬ (100 : Int32) ≤ nI p := fun q => by
      have := (q_le (a := 100) (b := p) rfl rfl (by decide) (by omega)).mp q
      omega
    have hin : tm_in (nI p) 100 := q_in (by omega) (by decide)
    rw [if_pos h]
    simp only [r75_0, r75_1, r75_4, r75_7, r75_8, r75_11, r75_12, r75_15, r75_18, r75_19, r75_22, r75_24, r75_27, r75_28, r75_31, r75_32, r75_35, r75_36, r75_39, r75_40, sh_4 hS, sh_5 hS, rf_4_0 hR, hn, hp, n1, n2, n3, hin, q_ix (show p < 2147483648 by omega), if_false, tm_in, or_true, true_or, tm_cs0, tm_cs1, tm_cs2, tm_cs3, tm_cs4, true_and, and_true, and_self, Option.toList_some, Option.toList_none, List.cons_append, List.nil_append, tm_rf_some, tm_rf_none]
  · have n2 : nI n ≤ nI p := (q_le (a := n) (b := p) rfl rfl (by omega) (by omega)).mpr (by omega)
    rw [if_neg h]
    simp only [r75_0, r75_1, r75_4, r75_7, r75_8, r75_11, r75_12, r75_15, r75_18, r75_19, r75_22, r75_24, r75_27, r75_28, r75_31, r75_32, r75_35, r75_36, r75_39, r75_40, sh_4 hS, hn, hp, n1, n2, if_true, if_false, tm_in, or_true, true_or, tm_cs0, tm_cs1, tm_cs2, tm_cs3, tm_cs4, true_and, and_true, and_self, Option.toList_some, Option.toList_none, List.cons_append, List.nil_append, tm_rf_some, tm_rf_none]
/-- while c holds, at most k steps -/
def p_wh (c : Nat → Bool) : Nat → Nat → Nat
  | 0, p => p
  | k + 1, p => if c p = true then p_wh c k (p + 1) else p
theorem c76_l (d : Nat) (K : Option Value → tm_H → Prop) (hS : tp_S G) (hR : tp_R R) {n : Nat} (hn : I 4 1 = nI n) (hn100 : n ≤ 100) : ∀ (k i p : Nat), i + k = 100 → p ≤ 1000 + i → (tm_A (d + 1) 76 2 [some (.ref 4), some (.int (nI i))] [] (G, up2 I 4 2 (nI p), J, R) K ↔ K none (G, up2 I 4 2 (nI (p_wh (fun p => decide (p_pk (I 5) n p = 32)) k p)), J, R)) := by
  intro k
  induction k with
  | zero =>
    intro i p hi hp
    have hi : i = 100 := by omega
    subst hi
    have hc : (100 : Int32) ≤ nI 100 := by decide
    rw [r76_2]
    simp only [r76_0, r76_1, r76_3, r76_5, r76_8, r76_9, r76_12, r76_14, r76_17, r76_18, r76_18i, r76_19, r76_22, r76_23, r76_24, r76_27, r76_30, r76_33, hc, if_true, p_wh, tm_in, or_true, true_or, tm_cs0, tm_cs1, tm_cs2, tm_cs3, tm_cs4, true_and, and_true, and_self, Option.toList_some, Option.toList_none, List.cons_append, List.nil_append, tm_rf_some, tm_rf_none]
  | succ k ih =>
    intro i p hi hp
    have hc : ¬ (100 : Int32) ≤ nI i := fun q => by
      have := (q_le (a := 100) (b := i) rfl rfl (by decide) (by omega)).mp q
      omega
    have g1 : up2 I 4 2 (nI p) 4 1 = nI n := by rw [up2_ne (by decide)]; exact hn
    have g3 : up2 I 4 2 (nI p) 5 = I 5 := up2_row (by decide)
    rw [r76_2]
    simp only [r76_0, r76_1, r76_3, r76_5, r76_8, r76_9, r76_12, r76_14, r76_17, r76_18, r76_18i, r76_19, r76_22, r76_23, r76_24, r76_27, r76_30, r76_33, hc, if_false, sh_4 hS, c75 _ _ hS hR g1 hn100 up2_at (show p < 1000000 by omega), g3, up2_at, up2_up2, nI_1, tm_in, or_true, true_or, tm_cs0, tm_cs1, tm_cs2, tm_cs3, tm_cs4, true_and, and_true, and_self, Option.toList_some, Option.toList_none, List.cons_append, List.nil_append, tm_rf_some, tm_rf_none]
    simp only [p_wh]
    by_cases h : p_pk (I 5) n p = 32
    · simp only [h, not_true, if_false, decide_true, if_true]
      exact ih (i + 1) (p + 1) (by omega) (by omega)
    · simp only [h, not_false_eq_true, if_true, decide_false, Bool.false_eq_true, if_false]
theorem c76 (d : Nat) (K : Option Value → tm_H → Prop) (hS : tp_S G) (hR : tp_R R) {n p : Nat} (hn : I 4 1 = nI n) (hn100 : n ≤ 100) (hp : I 4 2 = nI p) (hp2 : p ≤ 1000) : tm_R (d + 1) 76 [.ref 4] (G, I, J, R) K ↔ K none (G, up2 I 4 2 (nI (p_wh (fun p => decide (p_pk (I 5) n p = 32)) 100 p)), J, R) := by
  rw [e76]
  simp only [r76_0, r76_1]
  have := c76_l (I := I) (J := J) d K hS hR hn hn100 100 0 p rfl (by omega)
  rw [← hp, up2_same] at this
  exact this
/-- the field that a byte marks, from i on -/
def p_mfr (c : Int32) : Nat → Nat → Int32
  | _, 0 => -1
  | i, n + 1 => if c = tp_mk i then nI i else p_mfr c (i + 1) n
theorem c78_l (d : Nat) (K : Option Value → tm_H → Prop) (hS : tp_S G) (hR : tp_R R) (hC : tp_C I) {n p : Nat} (hn : I 4 1 = nI n) (hn100 : n ≤ 100) (hp : I 4 2 = nI p) (hp2 : p < 1000000) : ∀ (k i : Nat), i + k = 5 → (tm_A (d + 1) 78 2 [some (.ref 4), some (.int (nI i))] [] (G, I, J, R) K ↔ K (some (.int (p_mfr (p_pk (I 5) n p) i k))) (G, I, J, R)) := by
  intro k
  induction k with
  | zero =>
    intro i hi
    have hi : i = 5 := by omega
    subst hi
    have hc : (5 : Int32) ≤ nI 5 := by decide
    rw [r78_2]
    simp only [r78_0, r78_1, r78_3, r78_4, r78_7, r78_8, r78_11, r78_14, r78_15, r78_16, r78_19, r78_20, r78_21, r78_24, r78_27, r78_28, hc, if_true, p_mfr, tm_in, or_true, true_or, tm_cs0, tm_cs1, tm_cs2, tm_cs3, tm_cs4, true_and, and_true, and_self, Option.toList_some, Option.toList_none, List.cons_append, List.nil_append, tm_rf_some, tm_rf_none]
  | succ k ih =>
    intro i hi
    have hc : ¬ (5 : Int32) ≤ nI i := fun q => by
      have := (q_le (a := 5) (b := i) rfl rfl (by decide) (by omega)).mp q
      omega
    have hin : tm_in (nI i) 5 := q_in (by omega) (by decide)
    have em := hC.1 i (by omega)
    rw [r78_2]
    simp only [r78_0, r78_1, r78_3, r78_4, r78_7, r78_8, r78_11, r78_14, r78_15, r78_16, r78_19, r78_20, r78_21, r78_24, r78_27, r78_28, hc, if_false, sh_4 hS, sh_1 hS, c75 _ _ hS hR hn hn100 hp hp2, hin, q_ix (show i < 2147483648 by omega), em, nI_1, tm_in, or_true, true_or, tm_cs0, tm_cs1, tm_cs2, tm_cs3, tm_cs4, true_and, and_true, and_self, Option.toList_some, Option.toList_none, List.cons_append, List.nil_append, tm_rf_some, tm_rf_none]
    simp only [p_mfr]
    by_cases h : p_pk (I 5) n p = tp_mk i
    · simp only [h, not_true, if_false, if_true]
    · simp only [h, not_false_eq_true, if_true, if_false]
      exact ih (i + 1) (by omega)
theorem c78 (d : Nat) (K : Option Value → tm_H → Prop) (hS : tp_S G) (hR : tp_R R) (hC : tp_C I) {n p : Nat} (hn : I 4 1 = nI n) (hn100 : n ≤ 100) (hp : I 4 2 = nI p) (hp2 : p < 1000000) : tm_R (d + 1) 78 [.ref 4] (G, I, J, R) K ↔ K (some (.int (p_mfr (p_pk (I 5) n p) 0 5))) (G, I, J, R) := by
  rw [e78]
  simp only [r78_0, r78_1]
  exact c78_l d K hS hR hC hn hn100 hp hp2 5 0 rfl
/-- digits: value, how many, where -/
def p_rd (c : Nat → Int32) : Nat → Int32 → Nat → Nat → Int32 × Nat × Nat
  | 0, v, q, p => (v, q, p)
  | k + 1, v, q, p => if 48 ≤ c p ∧ c p ≤ 57 then p_rd c k (if q < 4 then v * 10 + (c p - 48) else v) (q + 1) (p + 1) else (v, q, p)
theorem c81_l (d : Nat) (K : Option Value → tm_H → Prop) (hS : tp_S G) (hR : tp_R R) {n : Nat} (hn : I 4 1 = nI n) (hn100 : n ≤ 100) : ∀ (k i p q : Nat) (v : Int32), i + k = 100 → p ≤ 1000 + i → q ≤ i → (tm_A (d + 1) 81 6 [some (.ref 4), some (.int v), some (.int (nI q)), some (.int (nI i))] [] (G, up2 I 4 2 (nI p), J, R) K ↔ K (some (.int (if (p_rd (p_pk (I 5) n) k v q p).2.1 = 0 ∨ 4 < (p_rd (p_pk (I 5) n) k v q p).2.1 then -1 else (p_rd (p_pk (I 5) n) k v q p).1))) (G, up2 I 4 2 (nI (p_rd (p_pk (I 5) n) k v q p).2.2), J, R)) := by
  have fin : ∀ (q p : Nat) (v : Int32) (i : Nat), q ≤ 100 → (tm_A (d + 1) 81 71 [some (.ref 4), some (.int v), some (.int (nI q)), some (.int (nI i))] [] (G, up2 I 4 2 (nI p), J, R) K ↔ K (some (.int (if q = 0 ∨ 4 < q then -1 else v))) (G, up2 I 4 2 (nI p), J, R)) := by
    intro q p v i hq
    simp only [r81_71, r81_72, r81_75, r81_76, r81_77, r81_80, r81_81, r81_84, r81_85, tm_in, or_true, true_or, tm_cs0, tm_cs1, tm_cs2, tm_cs3, tm_cs4, true_and, and_true, and_self, Option.toList_some, Option.toList_none, List.cons_append, List.nil_append, tm_rf_some, tm_rf_none]
    by_cases h0 : q = 0
    · subst h0
      simp only [show nI 0 = 0 from rfl, if_true, true_or]
    · have z : ¬ nI q = 0 := nI_ne0 (by omega) (by omega)
      by_cases h4 : 4 < q
      · have z4 : ¬ nI q ≤ 4 := fun w => by
          have := (q_le (a := q) (b := 4) rfl rfl (by omega) (by decide)).mp w
          omega
        simp only [z, z4, if_false, h0, h4, or_true, if_true]
      · have z4 : nI q ≤ 4 := (q_le (a := q) (b := 4) rfl rfl (by omega) (by decide)).mpr (by omega)
        simp only [z, z4, if_false, h0, h4, or_self, if_true]
  intro k
  induction k with
  | zero =>
    intro i p q v hi hp hq
    have hi : i = 100 := by omega
    subst hi
    have hc : (100 : Int32) ≤ nI 100 := by decide
    rw [r81_6]
    simp only [r81_7, r81_9, hc, if_true, p_rd]
    exact fin q p v 100 hq
  | succ k ih =>
    intro i p q v hi hp hq
    have hc : ¬ (100 : Int32) ≤ nI i := fun z => by
      have := (q_le (a := 100) (b := i) rfl rfl (by decide) (by omega)).mp z
      omega
    have g1 : up2 I 4 2 (nI p) 4 1 = nI n := by rw [up2_ne (by decide)]; exact hn
    have g3 : up2 I 4 2 (nI p) 5 = I 5 := up2_row (by decide)
    have hpk : ∀ (d' : Nat) (K' : Option Value → tm_H → Prop), tm_R d' 75 [.ref 4] (G, up2 I 4 2 (nI p), J, R) K' ↔ K' (some (.int (p_pk (I 5) n p))) (G, up2 I 4 2 (nI p), J, R) := fun d' K' => by
      rw [c75 d' K' hS hR g1 hn100 up2_at (show p < 1000000 by omega), g3]
    rw [r81_6]
    simp only [r81_7, r81_9, hc, if_false, r81_12, r81_13, sh_4 hS, hpk, r81_16, r81_18, tm_in, or_true, true_or, tm_cs0, tm_cs1, tm_cs2, tm_cs3, tm_cs4, true_and, and_true, and_self, Option.toList_some, Option.toList_none, List.cons_append, List.nil_append, tm_rf_some, tm_rf_none]
    simp only [p_rd]
    by_cases h1 : p_pk (I 5) n p < 48
    · have h1' : ¬ ((48 : Int32) ≤ p_pk (I 5) n p ∧ p_pk (I 5) n p ≤ 57) := fun z => absurd z.1 (Int32.not_le.mpr h1)
      rw [if_pos h1]
      simp only [if_neg h1']
      exact fin q p v i (by omega)
    · rw [if_neg h1]
      simp only [r81_21, r81_22, sh_4 hS, hpk, r81_25, r81_27, tm_in, or_true, true_or, tm_cs0, tm_cs1, tm_cs2, tm_cs3, tm_cs4, true_and, and_true, and_self, Option.toList_some, Option.toList_none, List.cons_append, List.nil_append, tm_rf_some, tm_rf_none]
      by_cases h2 : (57 : Int32) < p_pk (I 5) n p
      · have h2' : ¬ ((48 : Int32) ≤ p_pk (I 5) n p ∧ p_pk (I 5) n p ≤ 57) := fun z => absurd z.2 (Int32.not_le.mpr h2)
        rw [if_pos h2]
        simp only [if_neg h2']
        exact fin q p v i (by omega)
      · have h12 : (48 : Int32) ≤ p_pk (I 5) n p ∧ p_pk (I 5) n p ≤ 57 := ⟨Int32.not_lt.mp h1, Int32.not_lt.mp h2⟩
        rw [if_neg h2]
        simp only [if_pos h12, r81_30, r81_31, r81_32]
        by_cases h4 : q < 4
        · have z4 : ¬ (4 : Int32) ≤ nI q := fun w => by
            have := (q_le (a := 4) (b := q) rfl rfl (by decide) (by omega)).mp w
            omega
          rw [if_neg z4]
          simp only [if_pos h4, r81_35, r81_36, r81_38, r81_39, r81_40, sh_4 hS, hpk, r81_43, r81_45, r81_46, r81_47, r81_51, r81_52, r81_55, r81_56, r81_57, r81_60, r81_61, r81_62, r81_65, r81_68, up2_at, up2_up2, nI_1, tm_in, or_true, true_or, tm_cs0, tm_cs1, tm_cs2, tm_cs3, tm_cs4, true_and, and_true, and_self, Option.toList_some, Option.toList_none, List.cons_append, List.nil_append, tm_rf_some, tm_rf_none]
          exact ih (i + 1) (p + 1) (q + 1) _ (by omega) (by omega) (by omega)
        · have z4 : (4 : Int32) ≤ nI q := (q_le (a := 4) (b := q) rfl rfl (by decide) (by omega)).mpr (by omega)
          rw [if_pos z4]
          simp only [if_neg h4, r81_50, r81_51, r81_52, r81_55, r81_56, r81_57, r81_60, r81_61, r81_62, r81_65, r81_68, sh_4 hS, up2_at, up2_up2, nI_1, tm_in, or_true, true_or, tm_cs0, tm_cs1, tm_cs2, tm_cs3, tm_cs4, true_and, and_true, and_self, Option.toList_some, Option.toList_none, List.cons_append, List.nil_append, tm_rf_some, tm_rf_none]
          exact ih (i + 1) (p + 1) (q + 1) _ (by omega) (by omega) (by omega)
end TAP
