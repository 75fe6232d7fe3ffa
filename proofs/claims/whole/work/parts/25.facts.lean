/-! Facts: the fields that a text tells, or those of a report as known; at a, its values at a + 1, its names at a + 2. -/
def tp_F (G : tm_G) (R : Nat → Nat → Option Nat) (a : Nat) : Prop := 3 ≤ a ∧ G.2.2 a = (0, 0) ∧ G.2.2 (a + 1) = (1, 5) ∧ G.2.2 (a + 2) = (1, 3) ∧ R a 2 = some (a + 1) ∧ R a 3 = some (a + 2)
theorem i3_5 : tm_in 3 5 := by decide
theorem ix3 : tm_ix 3 = 3 := rfl
theorem ix0 : tm_ix 0 = 0 := rfl
theorem ix1 : tm_ix 1 = 1 := rfl
theorem ix2 : tm_ix 2 = 2 := rfl
/-- is the bit of this field among these -/
abbrev p_has (bits f : Int32) : Prop := 0 ≤ f ∧ f < 5 ∧ (bits >>> (f &&& 31)) &&& 1 = 1
theorem up2_upr {α : Type} {f : Nat → Nat → α} {a i : Nat} {g : Nat → α} {v : α} : up2 (upr f a g) a i v = upr f a (fun k => if k = i then v else g k) := by
  funext b j
  by_cases hb : b = a
  · subst hb
    simp [up2, upr]
  · simp [up2, upr, hb]
theorem upr_self {α : Type} {f : Nat → α} {a : Nat} : upr f a (f a) = f := by
  funext b
  by_cases hb : b = a
  · subst hb; simp [upr]
  · simp [upr, hb]
theorem up2_as_upr {α : Type} {f : Nat → Nat → α} {a i : Nat} {v : α} : up2 f a i v = upr f a (fun k => if k = i then v else f a k) := by
  funext b j
  by_cases hb : b = a
  · subst hb
    simp [up2, upr]
  · simp [up2, upr, hb]
section FCT
variable {G : tm_G} {I : Nat → Nat → Int32} {J : Nat → Nat → Int64} {R : Nat → Nat → Option Nat} {a : Nat}
theorem c1 (d : Nat) (K : Option Value → tm_H → Prop) (hF : tp_F G R a) : tm_R d 1 [.ref a] (G, I, J, R) K ↔ K none (G, up2 (up2 I a 0 0) (a + 1) 3 0, J, R) := by
  obtain ⟨h3, s1, s2, s3, r1, r2⟩ := hF
  have h4 : 3 ≤ a + 1 := by omega
  rw [e1]
  simp only [r1_0, r1_1, r1_2, r1_5, r1_6, r1_9, r1_10, r1_11, r1_12, s1, s2, r1, h4, i3_5, ix3, tm_in, or_true, true_or, tm_cs0, tm_cs1, tm_cs2, tm_cs3, tm_cs4, true_and, and_true, and_self, Option.toList_some, Option.toList_none, List.cons_append, List.nil_append, tm_rf_some, tm_rf_none]
theorem c2 (d : Nat) (K : Option Value → tm_H → Prop) (hF : tp_F G R a) : tm_R d 2 [.ref a] (G, I, J, R) K ↔ K (some (.int (I a 0))) (G, I, J, R) := by
  obtain ⟨h3, s1, s2, s3, r1, r2⟩ := hF
  rw [e2]
  simp only [r2_0, r2_1, r2_4, s1, tm_in, or_true, true_or, tm_cs0, tm_cs1, tm_cs2, tm_cs3, tm_cs4, true_and, and_true, and_self, Option.toList_some, Option.toList_none, List.cons_append, List.nil_append, tm_rf_some, tm_rf_none]
theorem c3 (d : Nat) (f : Int32) (K : Option Value → tm_H → Prop) (hF : tp_F G R a) : tm_R d 3 [.ref a, .int f] (G, I, J, R) K ↔ K (some (.int (if p_has (I a 0) f then 1 else 0))) (G, I, J, R) := by
  obtain ⟨h3, s1, s2, s3, r1, r2⟩ := hF
  rw [e3]
  simp only [r3_0, r3_1, r3_4, r3_5, r3_6, r3_9, r3_10, r3_13, r3_14, r3_15, r3_16, r3_17, r3_18, r3_21, r3_22, r3_25, r3_26, s1, tm_z0, tm_z1, p_has, tm_in, or_true, true_or, tm_cs0, tm_cs1, tm_cs2, tm_cs3, tm_cs4, true_and, and_true, and_self, Option.toList_some, Option.toList_none, List.cons_append, List.nil_append, tm_rf_some, tm_rf_none]
  grind
theorem p_hin {bits f : Int32} (h : p_has bits f) : tm_in f 5 := (q_inI (N := 5) (n := 5) rfl (by decide)).mp ⟨h.1, h.2.1⟩
theorem c4 (d : Nat) (f : Int32) (K : Option Value → tm_H → Prop) (hF : tp_F G R a) : tm_R (d + 1) 4 [.ref a, .int f] (G, I, J, R) K ↔ K (some (.int (if p_has (I a 0) f then I (a + 1) (tm_ix f) else -1))) (G, I, J, R) := by
  have hF' := hF
  obtain ⟨h3, s1, s2, s3, r1, r2⟩ := hF
  rw [e4]
  by_cases h : p_has (I a 0) f
  · have hi := p_hin h
    simp only [r4_0, r4_1, r4_2, r4_5, r4_8, r4_9, r4_12, r4_13, r4_14, r4_17, r4_18, s1, s2, r1, c3 _ _ _ hF', if_pos h, hi, show ¬ (1 : Int32) = 0 by decide, if_false, tm_in, or_true, true_or, tm_cs0, tm_cs1, tm_cs2, tm_cs3, tm_cs4, true_and, and_true, and_self, Option.toList_some, Option.toList_none, List.cons_append, List.nil_append, tm_rf_some, tm_rf_none]
  · simp only [r4_0, r4_1, r4_2, r4_5, r4_8, r4_9, r4_12, r4_13, r4_14, r4_17, r4_18, s1, s2, r1, c3 _ _ _ hF', if_neg h, if_true, tm_in, or_true, true_or, tm_cs0, tm_cs1, tm_cs2, tm_cs3, tm_cs4, true_and, and_true, and_self, Option.toList_some, Option.toList_none, List.cons_append, List.nil_append, tm_rf_some, tm_rf_none]
theorem c5 (d : Nat) (K : Option Value → tm_H → Prop) (hF : tp_F G R a) : tm_R (d + 1) 5 [.ref a] (G, I, J, R) K ↔ K (some (.int (if p_has (I a 0) 2 then I a 1 else -1))) (G, I, J, R) := by
  have hF' := hF
  obtain ⟨h3, s1, s2, s3, r1, r2⟩ := hF
  rw [e5]
  by_cases h : p_has (I a 0) 2
  · simp only [r5_0, r5_1, r5_2, r5_5, r5_8, r5_9, r5_12, r5_15, r5_16, s1, c3 _ _ _ hF', if_pos h, show ¬ (1 : Int32) = 0 by decide, if_false, tm_in, or_true, true_or, tm_cs0, tm_cs1, tm_cs2, tm_cs3, tm_cs4, true_and, and_true, and_self, Option.toList_some, Option.toList_none, List.cons_append, List.nil_append, tm_rf_some, tm_rf_none]
  · simp only [r5_0, r5_1, r5_2, r5_5, r5_8, r5_9, r5_12, r5_15, r5_16, s1, c3 _ _ _ hF', if_neg h, if_true, tm_in, or_true, true_or, tm_cs0, tm_cs1, tm_cs2, tm_cs3, tm_cs4, true_and, and_true, and_self, Option.toList_some, Option.toList_none, List.cons_append, List.nil_append, tm_rf_some, tm_rf_none]
theorem c6 (d : Nat) (i : Int32) (K : Option Value → tm_H → Prop) (hF : tp_F G R a) {c : Nat} (hc : I (a + 1) 3 = nI c) (hc3 : c ≤ 3) : tm_R d 6 [.ref a, .int i] (G, I, J, R) K ↔ K (some (.int (if tm_in i c then I (a + 2) (tm_ix i) else -1))) (G, I, J, R) := by
  obtain ⟨h3, s1, s2, s3, r1, r2⟩ := hF
  have h1 : (0 ≤ i ∧ i < I (a + 1) 3) ↔ tm_in i c := q_inI hc (by omega)
  have h2 : (0 ≤ i ∧ i < 3) ↔ tm_in i 3 := q_inI rfl (by decide)
  rw [e6]
  by_cases h : tm_in i c
  · have hi : tm_in i 3 := ⟨h.1, by have := h.2; omega⟩
    have g1 := h1.mpr h
    have g2 := h2.mpr hi
    have n1 : ¬ i < 0 := Int32.not_lt.mpr g1.1
    have n2 : ¬ (3 : Int32) ≤ i := Int32.not_le.mpr g2.2
    have n3 : ¬ I (a + 1) 3 ≤ i := Int32.not_le.mpr g1.2
    rw [if_pos h]
    simp only [r6_0, r6_1, r6_4, r6_5, r6_6, r6_9, r6_10, r6_11, r6_14, r6_15, r6_16, r6_19, r6_20, r6_23, r6_24, r6_25, r6_28, r6_29, s1, s2, s3, r1, r2, hi, n1, n2, n3, i3_5, ix3, if_false, tm_in, or_true, true_or, tm_cs0, tm_cs1, tm_cs2, tm_cs3, tm_cs4, true_and, and_true, and_self, Option.toList_some, Option.toList_none, List.cons_append, List.nil_append, tm_rf_some, tm_rf_none]
  · rw [if_neg h]
    have h1' : ¬ (0 ≤ i ∧ i < I (a + 1) 3) := fun q => h (h1.mp q)
    simp only [r6_0, r6_1, r6_4, r6_5, r6_6, r6_9, r6_10, r6_11, r6_14, r6_15, r6_16, r6_19, r6_20, r6_23, r6_24, r6_25, r6_28, r6_29, s1, s2, r1, i3_5, ix3, tm_in, or_true, true_or, tm_cs0, tm_cs1, tm_cs2, tm_cs3, tm_cs4, true_and, and_true, and_self, Option.toList_some, Option.toList_none, List.cons_append, List.nil_append, tm_rf_some, tm_rf_none]
    grind
/-- a name's letter -/
def p_let (nm j : Int32) : Int32 := if nm = -1 ∨ j < 0 ∨ 6 ≤ j then -1 else if (nm >>> (5 * j &&& 31)) &&& 31 = 0 then -1 else 96 + ((nm >>> (5 * j &&& 31)) &&& 31)
theorem c7 (d : Nat) (i j : Int32) (K : Option Value → tm_H → Prop) (hF : tp_F G R a) {c : Nat} (hc : I (a + 1) 3 = nI c) (hc3 : c ≤ 3) : tm_R (d + 1) 7 [.ref a, .int i, .int j] (G, I, J, R) K ↔ K (some (.int (p_let (if tm_in i c then I (a + 2) (tm_ix i) else -1) j))) (G, I, J, R) := by
  have hF' := hF
  obtain ⟨h3, s1, s2, s3, r1, r2⟩ := hF
  rw [e7]
  simp only [r7_0, r7_1, r7_2, r7_5, r7_6, r7_7, r7_8, r7_11, r7_12, r7_15, r7_16, r7_18, r7_21, r7_22, r7_23, r7_24, r7_25, r7_26, r7_27, r7_28, r7_30, r7_31, r7_33, r7_35, r7_38, r7_39, r7_42, r7_44, r7_46, r7_47, s1, c6 _ _ _ hF' hc hc3, tm_in, or_true, true_or, tm_cs0, tm_cs1, tm_cs2, tm_cs3, tm_cs4, true_and, and_true, and_self, Option.toList_some, Option.toList_none, List.cons_append, List.nil_append, tm_rf_some, tm_rf_none]
  generalize (if tm_in i c then I (a + 2) (tm_ix i) else -1) = nm
  unfold p_let
  grind
/-- is the name among the first of these -/
def p_hn (f : Nat → Int32) (nm : Int32) : Nat → Nat → Bool
  | _, 0 => false
  | i, n + 1 => if f i = nm then true else p_hn f nm (i + 1) n
theorem c8_l (d : Nat) (nm : Int32) (K : Option Value → tm_H → Prop) (hF : tp_F G R a) {c : Nat} (hc : I (a + 1) 3 = nI c) (hc3 : c ≤ 3) : ∀ (n i : Nat), i + n = c → (tm_A d 8 2 [some (.ref a), some (.int nm), some (.int (nI i))] [] (G, I, J, R) K ↔ K (some (.int (if p_hn (I (a + 2)) nm i n = true then 1 else 0))) (G, I, J, R)) := by
  obtain ⟨h3, s1, s2, s3, r1, r2⟩ := hF
  intro n
  induction n with
  | zero =>
    intro i hi
    have hi : i = c := by omega
    subst hi
    have n3 : I (a + 1) 3 ≤ nI i := by rw [hc]; exact Int32.le_refl _
    rw [r8_2]
    simp only [r8_0, r8_1, r8_3, r8_4, r8_7, r8_8, r8_9, r8_12, r8_13, r8_14, r8_17, r8_18, r8_21, r8_22, r8_23, r8_24, r8_27, r8_28, r8_29, r8_32, r8_35, r8_36, s1, s2, r1, n3, i3_5, ix3, p_hn, if_true, tm_z0, tm_in, or_true, true_or, tm_cs0, tm_cs1, tm_cs2, tm_cs3, tm_cs4, true_and, and_true, and_self, Option.toList_some, Option.toList_none, List.cons_append, List.nil_append, tm_rf_some, tm_rf_none]
    simp
  | succ n ih =>
    intro i hi
    have n2 : ¬ (3 : Int32) ≤ nI i := fun q => by
      have := (q_le (a := 3) (b := i) rfl rfl (by decide) (by omega)).mp q
      omega
    have n3 : ¬ I (a + 1) 3 ≤ nI i := fun q => by
      have := (q_le (a := c) (b := i) hc rfl (by omega) (by omega)).mp q
      omega
    have hin : tm_in (nI i) 3 := q_in (by omega) (by decide)
    rw [r8_2]
    simp only [r8_0, r8_1, r8_3, r8_4, r8_7, r8_8, r8_9, r8_12, r8_13, r8_14, r8_17, r8_18, r8_21, r8_22, r8_23, r8_24, r8_27, r8_28, r8_29, r8_32, r8_35, r8_36, s1, s2, s3, r1, r2, n2, n3, hin, i3_5, ix3, q_ix (show i < 2147483648 by omega), p_hn, if_false, nI_1, tm_z0, tm_z1, tm_in, or_true, true_or, tm_cs0, tm_cs1, tm_cs2, tm_cs3, tm_cs4, true_and, and_true, and_self, Option.toList_some, Option.toList_none, List.cons_append, List.nil_append, tm_rf_some, tm_rf_none]
    rw [ih (i + 1) (by omega)]
    by_cases h : I (a + 2) i = nm
    · simp [h]
    · simp [h]
theorem c8 (d : Nat) (nm : Int32) (K : Option Value → tm_H → Prop) (hF : tp_F G R a) {c : Nat} (hc : I (a + 1) 3 = nI c) (hc3 : c ≤ 3) : tm_R d 8 [.ref a, .int nm] (G, I, J, R) K ↔ K (some (.int (if p_hn (I (a + 2)) nm 0 c = true then 1 else 0))) (G, I, J, R) := by
  rw [e8]
  simp only [r8_0, r8_1]
  exact c8_l d nm K hF hc hc3 c 0 (by omega)
theorem c9 (d : Nat) (f v : Int32) (K : Option Value → tm_H → Prop) (hF : tp_F G R a) (hf : tm_in f 5) : tm_R d 9 [.ref a, .int f, .int v] (G, I, J, R) K ↔ K none (G, up2 (up2 I (a + 1) (tm_ix f) v) a 0 (I a 0 ||| (1 <<< (f &&& 31))), J, R) := by
  obtain ⟨h3, s1, s2, s3, r1, r2⟩ := hF
  have h4 : 3 ≤ a + 1 := by omega
  have g := (q_inI (x := f) (N := 5) (n := 5) rfl (by decide)).mpr hf
  have n1 : ¬ f < 0 := Int32.not_lt.mpr g.1
  have n2 : ¬ (5 : Int32) ≤ f := Int32.not_le.mpr g.2
  have eu : up2 I (a + 1) (tm_ix f) v a 0 = I a 0 := by rw [up2_row (by omega)]
  rw [e9]
  simp only [r9_0, r9_1, r9_4, r9_5, r9_6, r9_9, r9_10, r9_13, r9_14, r9_15, r9_16, r9_17, r9_17i, r9_18, r9_21, r9_22, r9_23, r9_24, r9_25, r9_28, s1, s2, r1, h4, hf, n1, n2, eu, if_false, tm_in, or_true, true_or, tm_cs0, tm_cs1, tm_cs2, tm_cs3, tm_cs4, true_and, and_true, and_self, Option.toList_some, Option.toList_none, List.cons_append, List.nil_append, tm_rf_some, tm_rf_none]
end FCT
