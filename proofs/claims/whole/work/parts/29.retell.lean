/-! Retelling up to a day, and looking at one. -/
/-- the tellings: c of them, at tl i, their facts at fa i -/
def tp_T (G : tm_G) (R : Nat → Nat → Option Nat) (c : Nat) (tl fa : Nat → Nat) : Prop := ∀ i, i < c → R 10 i = some (tl i) ∧ G.2.2 (tl i) = (0, 8) ∧ 112 ≤ tl i ∧ R (tl i) 3 = some (fa i) ∧ tp_F G R (fa i) ∧ (fa i = 11 ∨ 112 ≤ fa i)
/-- what retelling leaves: the tellings from i on, n of them, of days up to q -/
def p_rt (tl fa : Nat → Nat) (q : Int32) : Nat → Nat → (Nat → Nat → Int32) → (Nat → Nat → Int32)
  | _, 0, I => I
  | i, n + 1, I => p_rt tl fa q (i + 1) n (if q < I (tl i) 1 then I else p_learn I (tl i) (fa i))
theorem p_take_old {I : Nat → Nat → Int32} {a t : Nat} {bits : Int32} {b : Nat} (h : b < a ∨ a + 2 < b) : p_take I a t bits b = I b := by
  funext k
  unfold p_take
  rw [if_neg (by omega), if_neg (by omega), if_neg (by omega)]
theorem p_learn_old {I : Nat → Nat → Int32} {T f b : Nat} (hin : tm_in (I T 0) 10) (h : b < 14 ∨ 45 < b) : p_learn I T f b = I b := by
  unfold p_learn
  have := (q_of hin).2
  rw [p_take_old (by omega), up2_row (by omega)]
section RTL
variable {G : tm_G} {J : Nat → Nat → Int64} {R : Nat → Nat → Option Nat}
theorem c58_l (d : Nat) (q : Int32) (K : Option Value → tm_H → Prop) (hS : tp_S G) (hR : tp_R R) {c : Nat} (hc70 : c ≤ 70) {tl fa : Nat → Nat} (hT : tp_T G R c tl fa) : ∀ (n i : Nat) (o : Option Value) (I : Nat → Nat → Int32), I 9 2 = nI c → (∀ k, k < c → tm_in (I (tl k) 0) 10) → i + n = c → (tm_A (d + 3) 58 6 [some (.ref 9), some (.int q), some (.ref 14), some (.int (nI i)), o] [] (G, I, J, R) K ↔ K none (G, p_rt tl fa q i n I, J, R)) := by
  intro n
  induction n with
  | zero =>
    intro i o I hc hr hi
    have hi : i = c := by omega
    subst hi
    have hcc : I 9 2 ≤ nI i := by rw [hc]; exact Int32.le_refl _
    rw [r58_6]
    simp only [r58_0, r58_0n, r58_1, r58_4, r58_5, r58_7, r58_8, r58_11, r58_14, r58_15, r58_18, r58_19, r58_20, r58_20n, r58_22, r58_22n, r58_24, r58_24n, r58_27, r58_27n, r58_29, r58_32, r58_33, r58_36, r58_36n, r58_37, r58_37n, r58_39, r58_42, r58_45, r58_48, hcc, if_true, sh_9 hS, p_rt, tm_in, or_true, true_or, tm_cs0, tm_cs1, tm_cs2, tm_cs3, tm_cs4, true_and, and_true, and_self, Option.toList_some, Option.toList_none, List.cons_append, List.nil_append, tm_rf_some, tm_rf_none]
  | succ n ih =>
    intro i o I hc hr hi
    have hcc : ¬ I 9 2 ≤ nI i := fun z => by
      have := (q_le (a := c) (b := i) hc rfl (by omega) (by omega)).mp z
      omega
    have hin : tm_in (nI i) 70 := q_in (by omega) (by decide)
    obtain ⟨t1, t2, t3, t4, t5, t6⟩ := hT i (by omega)
    have hri := hr i (by omega)
    rw [r58_6]
    simp only [r58_0, r58_0n, r58_1, r58_4, r58_5, r58_7, r58_8, r58_11, r58_14, r58_15, r58_18, r58_19, r58_20, r58_20n, r58_22, r58_22n, r58_24, r58_24n, r58_27, r58_27n, r58_29, r58_32, r58_33, r58_36, r58_36n, r58_37, r58_37n, r58_39, r58_42, r58_45, r58_48, hcc, if_false, sh_9 hS, sh_10 hS, sh_14 hS, rf_9_0 hR, t1, t2, hin, q_ix (show i < 2147483648 by omega), c41 d (tl i) (fa i) _ hS hR t2 (by omega) t4 t5 (by omega) hri, nI_1, p_rt, tm_in, or_true, true_or, tm_cs0, tm_cs1, tm_cs2, tm_cs3, tm_cs4, true_and, and_true, and_self, Option.toList_some, Option.toList_none, List.cons_append, List.nil_append, tm_rf_some, tm_rf_none]
    by_cases hq : q < I (tl i) 1
    · simp only [hq, if_true]
      exact ih (i + 1) _ I hc hr (by omega)
    · simp only [hq, if_false]
      refine ih (i + 1) _ (p_learn I (tl i) (fa i)) ?_ ?_ (by omega)
      · rw [p_learn_old hri (by omega)]; exact hc
      · intro k hk
        obtain ⟨-, -, u3, -, -, -⟩ := hT k hk
        rw [p_learn_old hri (by omega)]; exact hr k hk
theorem c58 (d : Nat) (q : Int32) (K : Option Value → tm_H → Prop) (hS : tp_S G) (hR : tp_R R) {c : Nat} (hc70 : c ≤ 70) {tl fa : Nat → Nat} (hT : tp_T G R c tl fa) (I : Nat → Nat → Int32) (hc : I 9 2 = nI c) (hr : ∀ k, k < c → tm_in (I (tl k) 0) 10) : tm_R (d + 3) 58 [.ref 9, .int q, .ref 14] (G, I, J, R) K ↔ K none (G, p_rt tl fa q 0 c (up2 (p_kf I 10) 14 1 0), J, R) := by
  have kold : ∀ b k, b < 14 ∨ 45 < b → up2 (p_kf I 10) 14 1 0 b k = I b k := fun b k hb => by
    rw [up2_row (by omega)]
    unfold p_kf
    rw [if_neg (by omega)]
  rw [e58]
  simp only [r58_0, r58_1, sh_14 hS, tm_in, or_true, true_or, tm_cs0, tm_cs1, tm_cs2, tm_cs3, tm_cs4, true_and, and_true, and_self, Option.toList_some, Option.toList_none, List.cons_append, List.nil_append, tm_rf_some, tm_rf_none]
  rw [c40 (d + 1) _ hS hR]
  simp only [r58_4, r58_5, tm_in, or_true, true_or, tm_cs0, tm_cs1, tm_cs2, tm_cs3, tm_cs4, true_and, and_true, and_self, Option.toList_some, Option.toList_none, List.cons_append, List.nil_append, tm_rf_some, tm_rf_none]
  refine c58_l d q K hS hR hc70 hT c 0 _ _ ?_ ?_ (by omega)
  · rw [kold 9 2 (by omega)]; exact hc
  · intro k hk
    obtain ⟨-, -, u3, -, -, -⟩ := hT k hk
    rw [kold _ _ (by omega)]; exact hr k hk
/-- what looking at q leaves -/
def p_look (tl fa : Nat → Nat) (c : Nat) (q : Int32) (I : Nat → Nat → Int32) : Nat → Nat → Int32 := if q = I 3 10 then I else up2 (up2 (up2 (p_rt tl fa q 0 c (up2 (p_kf I 10) 14 1 0)) 3 10 q) 3 11 0) 3 12 0
theorem c109 (d : Nat) (q : Int32) (K : Option Value → tm_H → Prop) (hS : tp_S G) (hR : tp_R R) {c : Nat} (hc70 : c ≤ 70) {tl fa : Nat → Nat} (hT : tp_T G R c tl fa) (I : Nat → Nat → Int32) (hc : I 9 2 = nI c) (hr : ∀ k, k < c → tm_in (I (tl k) 0) 10) : tm_R (d + 4) 109 [.ref 3, .int q] (G, I, J, R) K ↔ if 0 ≤ q ∧ q ≤ I 3 7 then K (some (.int 1)) (G, p_look tl fa c q I, J, R) else K (some (.int 0)) (G, I, J, R) := by
  rw [e109]
  by_cases h1 : q < 0
  · have : ¬ (0 ≤ q ∧ q ≤ I 3 7) := fun z => absurd z.1 (Int32.not_le.mpr h1)
    simp only [r109_0, r109_1, r109_4, r109_5, r109_6, r109_9, r109_12, r109_13, r109_14, r109_15, r109_16, r109_19, r109_22, r109_23, r109_26, r109_27, r109_28, r109_31, r109_34, r109_35, r109_36, r109_39, r109_40, r109_41, r109_44, r109_45, r109_46, r109_49, r109_50, h1, this, if_true, if_false, tm_z0, tm_in, or_true, true_or, tm_cs0, tm_cs1, tm_cs2, tm_cs3, tm_cs4, true_and, and_true, and_self, Option.toList_some, Option.toList_none, List.cons_append, List.nil_append, tm_rf_some, tm_rf_none]
  · by_cases h2 : q ≤ I 3 7
    · have h3 : 0 ≤ q ∧ q ≤ I 3 7 := ⟨Int32.not_lt.mp h1, h2⟩
      rw [if_pos h3]
      by_cases h4 : q = I 3 10
      · have e : p_look tl fa c q I = I := by unfold p_look; rw [if_pos h4]
        rw [e]
        simp only [r109_0, r109_1, r109_4, r109_5, r109_6, r109_9, r109_12, r109_13, r109_14, r109_15, r109_16, r109_19, r109_22, r109_23, r109_26, r109_27, r109_28, r109_31, r109_34, r109_35, r109_36, r109_39, r109_40, r109_41, r109_44, r109_45, r109_46, r109_49, r109_50, h1, h2, sh_3 hS, if_true, if_false, tm_z1, tm_in, or_true, true_or, tm_cs0, tm_cs1, tm_cs2, tm_cs3, tm_cs4, true_and, and_true, and_self, Option.toList_some, Option.toList_none, List.cons_append, List.nil_append, tm_rf_some, tm_rf_none]
        simp only [h4, if_true, true_and, tm_z1]
      · have e : p_look tl fa c q I = up2 (up2 (up2 (p_rt tl fa q 0 c (up2 (p_kf I 10) 14 1 0)) 3 10 q) 3 11 0) 3 12 0 := by unfold p_look; rw [if_neg h4]
        rw [e]
        simp only [r109_0, r109_1, r109_4, r109_5, r109_6, r109_9, r109_12, r109_13, r109_14, r109_15, r109_16, r109_19, r109_22, r109_23, r109_26, r109_27, r109_28, r109_31, r109_34, r109_35, r109_36, r109_39, r109_40, r109_41, r109_44, r109_45, r109_46, r109_49, r109_50, h1, h2, h4, sh_3 hS, sh_9 hS, rf_3_1 hR, rf_3_2 hR, if_true, if_false, c58 d q _ hS hR hc70 hT I hc hr, tm_z0, tm_z1, tm_in, or_true, true_or, tm_cs0, tm_cs1, tm_cs2, tm_cs3, tm_cs4, true_and, and_true, and_self, Option.toList_some, Option.toList_none, List.cons_append, List.nil_append, tm_rf_some, tm_rf_none]
    · have : ¬ (0 ≤ q ∧ q ≤ I 3 7) := fun z => h2 z.2
      rw [if_neg this]
      simp only [r109_0, r109_1, r109_4, r109_5, r109_6, r109_9, r109_12, r109_13, r109_14, r109_15, r109_16, r109_19, r109_22, r109_23, r109_26, r109_27, r109_28, r109_31, r109_34, r109_35, r109_36, r109_39, r109_40, r109_41, r109_44, r109_45, r109_46, r109_49, r109_50, h1, h2, sh_3 hS, if_false, tm_z0, tm_in, or_true, true_or, tm_cs0, tm_cs1, tm_cs2, tm_cs3, tm_cs4, true_and, and_true, and_self, Option.toList_some, Option.toList_none, List.cons_append, List.nil_append, tm_rf_some, tm_rf_none]
end RTL
