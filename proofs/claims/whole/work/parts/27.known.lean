/-! Known: the reports as known on a day. -/
theorem tp_Fk {G : tm_G} {R : Nat → Nat → Option Nat} (hS : tp_S G) (hR : tp_R R) {r : Nat} (hr : r < 10) : tp_F G R (16 + 3 * r) := by
  refine ⟨by omega, sh_F hS hr, ?_, ?_, ?_, ?_⟩
  · rw [show 16 + 3 * r + 1 = 17 + 3 * r by omega]; exact sh_FV hS hr
  · rw [show 16 + 3 * r + 2 = 18 + 3 * r by omega]; exact sh_FN hS hr
  · rw [show 16 + 3 * r + 1 = 17 + 3 * r by omega]; exact rf_FV hR hr
  · rw [show 16 + 3 * r + 2 = 18 + 3 * r by omega]; exact rf_FN hR hr
/-- what forget leaves of the first n -/
def p_kf (I : Nat → Nat → Int32) (n : Nat) : Nat → Nat → Int32 := fun b k => if 16 ≤ b ∧ b < 16 + 3 * n ∧ (((b - 16) % 3 = 0 ∧ k = 0) ∨ ((b - 16) % 3 = 1 ∧ k = 3)) then 0 else I b k
theorem p_kf_0 (I : Nat → Nat → Int32) : p_kf I 0 = I := by
  funext b k
  have : ¬ (16 ≤ b ∧ b < 16 + 3 * 0 ∧ (((b - 16) % 3 = 0 ∧ k = 0) ∨ ((b - 16) % 3 = 1 ∧ k = 3))) := by omega
  simp only [p_kf, this, if_false]
theorem p_kf_s (I : Nat → Nat → Int32) (n : Nat) : up2 (up2 (p_kf I n) (16 + 3 * n) 0 0) (16 + 3 * n + 1) 3 0 = p_kf I (n + 1) := by
  funext b k
  simp only [up2, p_kf]
  by_cases h1 : b = 16 + 3 * n + 1 ∧ k = 3
  · have h2 : 16 ≤ b ∧ b < 16 + 3 * (n + 1) ∧ (((b - 16) % 3 = 0 ∧ k = 0) ∨ ((b - 16) % 3 = 1 ∧ k = 3)) := by omega
    rw [if_pos h1, if_pos h2]
  · rw [if_neg h1]
    by_cases h3 : b = 16 + 3 * n ∧ k = 0
    · have h2 : 16 ≤ b ∧ b < 16 + 3 * (n + 1) ∧ (((b - 16) % 3 = 0 ∧ k = 0) ∨ ((b - 16) % 3 = 1 ∧ k = 3)) := by omega
      rw [if_pos h3, if_pos h2]
    · rw [if_neg h3]
      have : (16 ≤ b ∧ b < 16 + 3 * n ∧ (((b - 16) % 3 = 0 ∧ k = 0) ∨ ((b - 16) % 3 = 1 ∧ k = 3))) ↔ (16 ≤ b ∧ b < 16 + 3 * (n + 1) ∧ (((b - 16) % 3 = 0 ∧ k = 0) ∨ ((b - 16) % 3 = 1 ∧ k = 3))) := by omega
      simp only [this]
section KNW
variable {G : tm_G} {I : Nat → Nat → Int32} {J : Nat → Nat → Int64} {R : Nat → Nat → Option Nat}
theorem c40_l (d : Nat) (K : Option Value → tm_H → Prop) (hS : tp_S G) (hR : tp_R R) : ∀ (n i : Nat), i + n = 10 → (tm_A (d + 1) 40 2 [some (.ref 14), some (.int (nI i))] [] (G, p_kf I i, J, R) K ↔ K none (G, up2 (p_kf I 10) 14 1 0, J, R)) := by
  intro n
  induction n with
  | zero =>
    intro i hi
    have hi : i = 10 := by omega
    subst hi
    have hc : (10 : Int32) ≤ nI 10 := by decide
    rw [r40_2]
    simp only [r40_0, r40_1, r40_3, r40_5, r40_8, r40_9, r40_12, r40_13, r40_14, r40_17, r40_20, r40_23, r40_24, r40_25, r40_28, hc, if_true, sh_14 hS, tm_in, or_true, true_or, tm_cs0, tm_cs1, tm_cs2, tm_cs3, tm_cs4, true_and, and_true, and_self, Option.toList_some, Option.toList_none, List.cons_append, List.nil_append, tm_rf_some, tm_rf_none]
  | succ n ih =>
    intro i hi
    have hc : ¬ (10 : Int32) ≤ nI i := fun q => by
      have := (q_le (a := 10) (b := i) rfl rfl (by decide) (by omega)).mp q
      omega
    have hin : tm_in (nI i) 10 := q_in (by omega) (by decide)
    have hi10 : i < 10 := by omega
    have hF := tp_Fk hS hR hi10
    rw [r40_2]
    simp only [r40_0, r40_1, r40_3, r40_5, r40_8, r40_9, r40_12, r40_13, r40_14, r40_17, r40_20, r40_23, r40_24, r40_25, r40_28, hc, if_false, sh_14 hS, sh_15 hS, rf_14_0 hR, rf_F hR hi10, hin, q_ix (show i < 2147483648 by omega), sh_F hS hi10, c1 _ _ hF, p_kf_s, nI_1, tm_in, or_true, true_or, tm_cs0, tm_cs1, tm_cs2, tm_cs3, tm_cs4, true_and, and_true, and_self, Option.toList_some, Option.toList_none, List.cons_append, List.nil_append, tm_rf_some, tm_rf_none]
    exact ih (i + 1) (by omega)
theorem c40 (d : Nat) (K : Option Value → tm_H → Prop) (hS : tp_S G) (hR : tp_R R) : tm_R (d + 1) 40 [.ref 14] (G, I, J, R) K ↔ K none (G, up2 (p_kf I 10) 14 1 0, J, R) := by
  rw [e40]
  simp only [r40_0, r40_1]
  have := c40_l (I := I) (J := J) d K hS hR 10 0 rfl
  rw [p_kf_0] at this
  exact this
/-- what learn leaves: telling at T, its facts at f -/
def p_learn (I : Nat → Nat → Int32) (T f : Nat) : Nat → Nat → Int32 := p_take (up2 I 14 1 (if I 14 1 < I T 0 + 1 then I T 0 + 1 else I 14 1)) (16 + 3 * tm_ix (I T 0)) f (I T 2)
theorem c41 (d : Nat) (T f : Nat) (K : Option Value → tm_H → Prop) (hS : tp_S G) (hR : tp_R R) (hT : G.2.2 T = (0, 8)) (hT2 : T ≠ 14) (hTf : R T 3 = some f) (hF : tp_F G R f) (hf : f + 2 < 16 ∨ 45 < f) (hin : tm_in (I T 0) 10) : tm_R (d + 2) 41 [.ref 14, .ref T] (G, I, J, R) K ↔ K none (G, p_learn I T f, J, R) := by
  have g := (q_inI (x := I T 0) (N := 10) (n := 10) rfl (by decide)).mpr hin
  have n1 : ¬ I T 0 < 0 := Int32.not_lt.mpr g.1
  have n2 : ¬ (10 : Int32) ≤ I T 0 := Int32.not_le.mpr g.2
  have hr := (q_of hin).2
  have hFk := tp_Fk hS hR hr
  have eu : up2 I 14 1 (if I 14 1 < I T 0 + 1 then I T 0 + 1 else I 14 1) T = I T := up2_row hT2
  rw [e41]
  simp only [r41_0, r41_0n, r41_1, r41_4, r41_5, r41_6, r41_9, r41_10, r41_12, r41_15, r41_16, r41_17, r41_20, r41_21, r41_22, r41_23, r41_26, r41_29, r41_30, r41_33, r41_34, r41_35, r41_35n, r41_36, r41_39, r41_39n, r41_40, r41_43, r41_46, hT, hTf, n1, n2, if_false, sh_14 hS, sh_15 hS, rf_14_0 hR, rf_F hR hr, sh_F hS hr, hin, eu, c12 _ _ _ hFk hF (by omega), p_learn, tm_in, or_true, true_or, tm_cs0, tm_cs1, tm_cs2, tm_cs3, tm_cs4, true_and, and_true, and_self, Option.toList_some, Option.toList_none, List.cons_append, List.nil_append, tm_rf_some, tm_rf_none]
theorem c43 (d : Nat) (x : Int32) (K : Option Value → tm_H → Prop) (hS : tp_S G) (hR : tp_R R) {m : Nat} (hm : I 14 1 = nI m) (hm10 : m ≤ 10) : tm_R d 43 [.ref 14, .int x] (G, I, J, R) K ↔ if tm_in x m then K (some (.ref (16 + 3 * tm_ix x))) (G, I, J, R) else K (some .null) (G, I, J, R) := by
  have h1 : (0 ≤ x ∧ x < I 14 1) ↔ tm_in x m := q_inI hm (by omega)
  rw [e43]
  by_cases hx : tm_in x m
  · have hi : tm_in x 10 := ⟨hx.1, by have := hx.2; omega⟩
    have g := h1.mpr hx
    have g2 := (q_inI (x := x) (N := 10) (n := 10) rfl (by decide)).mpr hi
    have n1 : ¬ x < 0 := Int32.not_lt.mpr g.1
    have n2 : ¬ (10 : Int32) ≤ x := Int32.not_le.mpr g2.2
    have n3 : ¬ I 14 1 ≤ x := Int32.not_le.mpr g.2
    have hr := (q_of hi).2
    rw [if_pos hx]
    simp only [r43_0, r43_1, r43_4, r43_5, r43_6, r43_9, r43_12, r43_13, r43_15, r43_18, r43_19, r43_22, r43_23, r43_24, r43_27, r43_28, r43_28n, sh_14 hS, sh_15 hS, rf_14_0 hR, rf_F hR hr, hi, n1, n2, n3, if_false, tm_in, or_true, true_or, tm_cs0, tm_cs1, tm_cs2, tm_cs3, tm_cs4, true_and, and_true, and_self, Option.toList_some, Option.toList_none, List.cons_append, List.nil_append, tm_rf_some, tm_rf_none]
  · rw [if_neg hx]
    have h1' : ¬ (0 ≤ x ∧ x < I 14 1) := fun q => hx (h1.mp q)
    simp only [r43_0, r43_1, r43_4, r43_5, r43_6, r43_9, r43_12, r43_13, r43_15, r43_18, r43_19, r43_22, r43_23, r43_24, r43_27, r43_28, r43_28n, sh_14 hS, tm_in, or_true, true_or, tm_cs0, tm_cs1, tm_cs2, tm_cs3, tm_cs4, true_and, and_true, and_self, Option.toList_some, Option.toList_none, List.cons_append, List.nil_append, tm_rf_some, tm_rf_none]
    by_cases n1 : x < 0
    · simp only [n1, if_true]
    · have n3 : I 14 1 ≤ x := Int32.not_lt.mp (fun q => h1' ⟨Int32.not_lt.mp n1, q⟩)
      simp only [n1, n3, if_true, if_false]
theorem c44 (d : Nat) (x f : Int32) (K : Option Value → tm_H → Prop) (hS : tp_S G) (hR : tp_R R) {m : Nat} (hm : I 14 1 = nI m) (hm10 : m ≤ 10) : tm_R (d + 2) 44 [.ref 14, .int x, .int f] (G, I, J, R) K ↔ K (some (.int (if tm_in x m then (if p_has (I (16 + 3 * tm_ix x) 0) f then I (16 + 3 * tm_ix x + 1) (tm_ix f) else -1) else -1))) (G, I, J, R) := by
  rw [e44]
  by_cases hx : tm_in x m
  · have hr : tm_ix x < 10 := by have := (q_of hx).2; omega
    have hFk := tp_Fk hS hR hr
    simp only [r44_0, r44_1, r44_2, r44_5, r44_5n, r44_6, r44_6n, r44_7, r44_7n, r44_10, r44_11, r44_14, r44_14n, r44_15, r44_16, r44_19, sh_14 hS, c43 _ _ _ hS hR hm hm10, if_pos hx, sh_F hS hr, c4 _ _ _ hFk, tm_in, or_true, true_or, tm_cs0, tm_cs1, tm_cs2, tm_cs3, tm_cs4, true_and, and_true, and_self, Option.toList_some, Option.toList_none, List.cons_append, List.nil_append, tm_rf_some, tm_rf_none]
  · simp only [r44_0, r44_1, r44_2, r44_5, r44_5n, r44_6, r44_6n, r44_7, r44_7n, r44_10, r44_11, r44_14, r44_14n, r44_15, r44_16, r44_19, sh_14 hS, c43 _ _ _ hS hR hm hm10, if_neg hx, tm_in, or_true, true_or, tm_cs0, tm_cs1, tm_cs2, tm_cs3, tm_cs4, true_and, and_true, and_self, Option.toList_some, Option.toList_none, List.cons_append, List.nil_append, tm_rf_some, tm_rf_none]
theorem c45 (d : Nat) (x : Int32) (K : Option Value → tm_H → Prop) (hS : tp_S G) (hR : tp_R R) {m : Nat} (hm : I 14 1 = nI m) (hm10 : m ≤ 10) : tm_R (d + 2) 45 [.ref 14, .int x] (G, I, J, R) K ↔ K (some (.int (if tm_in x m then (if p_has (I (16 + 3 * tm_ix x) 0) 2 then I (16 + 3 * tm_ix x) 1 else -1) else -1))) (G, I, J, R) := by
  rw [e45]
  by_cases hx : tm_in x m
  · have hr : tm_ix x < 10 := by have := (q_of hx).2; omega
    have hFk := tp_Fk hS hR hr
    simp only [r45_0, r45_1, r45_2, r45_5, r45_5n, r45_6, r45_6n, r45_7, r45_7n, r45_10, r45_11, r45_14, r45_14n, r45_15, r45_18, sh_14 hS, c43 _ _ _ hS hR hm hm10, if_pos hx, sh_F hS hr, c5 _ _ hFk, tm_in, or_true, true_or, tm_cs0, tm_cs1, tm_cs2, tm_cs3, tm_cs4, true_and, and_true, and_self, Option.toList_some, Option.toList_none, List.cons_append, List.nil_append, tm_rf_some, tm_rf_none]
  · simp only [r45_0, r45_1, r45_2, r45_5, r45_5n, r45_6, r45_6n, r45_7, r45_7n, r45_10, r45_11, r45_14, r45_14n, r45_15, r45_18, sh_14 hS, c43 _ _ _ hS hR hm hm10, if_neg hx, tm_in, or_true, true_or, tm_cs0, tm_cs1, tm_cs2, tm_cs3, tm_cs4, true_and, and_true, and_self, Option.toList_some, Option.toList_none, List.cons_append, List.nil_append, tm_rf_some, tm_rf_none]
theorem c46 (d : Nat) (x : Int32) (K : Option Value → tm_H → Prop) (hS : tp_S G) (hR : tp_R R) {m : Nat} (hm : I 14 1 = nI m) (hm10 : m ≤ 10) : tm_R (d + 2) 46 [.ref 14, .int x] (G, I, J, R) K ↔ K (some (.int (if tm_in x m then I (16 + 3 * tm_ix x) 0 else 0))) (G, I, J, R) := by
  rw [e46]
  by_cases hx : tm_in x m
  · have hr : tm_ix x < 10 := by have := (q_of hx).2; omega
    have hFk := tp_Fk hS hR hr
    simp only [r46_0, r46_1, r46_2, r46_5, r46_5n, r46_6, r46_6n, r46_7, r46_7n, r46_10, r46_11, r46_14, r46_14n, r46_15, r46_18, sh_14 hS, c43 _ _ _ hS hR hm hm10, if_pos hx, sh_F hS hr, c2 _ _ hFk, tm_in, or_true, true_or, tm_cs0, tm_cs1, tm_cs2, tm_cs3, tm_cs4, true_and, and_true, and_self, Option.toList_some, Option.toList_none, List.cons_append, List.nil_append, tm_rf_some, tm_rf_none]
  · simp only [r46_0, r46_1, r46_2, r46_5, r46_5n, r46_6, r46_6n, r46_7, r46_7n, r46_10, r46_11, r46_14, r46_14n, r46_15, r46_18, sh_14 hS, c43 _ _ _ hS hR hm hm10, if_neg hx, tm_in, or_true, true_or, tm_cs0, tm_cs1, tm_cs2, tm_cs3, tm_cs4, true_and, and_true, and_self, Option.toList_some, Option.toList_none, List.cons_append, List.nil_append, tm_rf_some, tm_rf_none]
/-- how many of the reports from i on hold the name -/
def p_ho (I : Nat → Nat → Int32) (cn : Nat → Nat) (nm : Int32) : Nat → Nat → Nat
  | _, 0 => 0
  | i, n + 1 => (if p_hn (I (16 + 3 * i + 2)) nm 0 (cn i) = true then 1 else 0) + p_ho I cn nm (i + 1) n
theorem c47_l (d : Nat) (nm : Int32) (K : Option Value → tm_H → Prop) (hS : tp_S G) (hR : tp_R R) {m : Nat} (hm : I 14 1 = nI m) (hm10 : m ≤ 10) {cn : Nat → Nat} (hcn : ∀ r, r < m → I (16 + 3 * r + 1) 3 = nI (cn r) ∧ cn r ≤ 3) : ∀ (n i t : Nat), i + n = m → (tm_A (d + 1) 47 4 [some (.ref 14), some (.int nm), some (.int (nI t)), some (.int (nI i))] [] (G, I, J, R) K ↔ K (some (.int (nI (t + p_ho I cn nm i n)))) (G, I, J, R)) := by
  intro n
  induction n with
  | zero =>
    intro i t hi
    have hi : i = m := by omega
    subst hi
    have hc : I 14 1 ≤ nI i := by rw [hm]; exact Int32.le_refl _
    rw [r47_4]
    simp only [r47_0, r47_1, r47_2, r47_3, r47_5, r47_6, r47_9, r47_12, r47_13, r47_15, r47_18, r47_19, r47_22, r47_23, r47_24, r47_25, r47_28, r47_31, r47_34, r47_37, r47_40, r47_41, hc, if_true, sh_14 hS, p_ho, Nat.add_zero, tm_in, or_true, true_or, tm_cs0, tm_cs1, tm_cs2, tm_cs3, tm_cs4, true_and, and_true, and_self, Option.toList_some, Option.toList_none, List.cons_append, List.nil_append, tm_rf_some, tm_rf_none]
  | succ n ih =>
    intro i t hi
    have hc : ¬ I 14 1 ≤ nI i := fun q => by
      have := (q_le (a := m) (b := i) hm rfl (by omega) (by omega)).mp q
      omega
    have hc2 : ¬ (10 : Int32) ≤ nI i := fun q => by
      have := (q_le (a := 10) (b := i) rfl rfl (by decide) (by omega)).mp q
      omega
    have hin : tm_in (nI i) 10 := q_in (by omega) (by decide)
    have hi10 : i < 10 := by omega
    have hF := tp_Fk hS hR hi10
    obtain ⟨h1, h2⟩ := hcn i (by omega)
    rw [r47_4]
    simp only [r47_0, r47_1, r47_2, r47_3, r47_5, r47_6, r47_9, r47_12, r47_13, r47_15, r47_18, r47_19, r47_22, r47_23, r47_24, r47_25, r47_28, r47_31, r47_34, r47_37, r47_40, r47_41, hc, hc2, if_false, sh_14 hS, sh_15 hS, rf_14_0 hR, rf_F hR hi10, hin, q_ix (show i < 2147483648 by omega), sh_F hS hi10, c8 _ _ _ hF h1 h2, nI_1, tm_in, or_true, true_or, tm_cs0, tm_cs1, tm_cs2, tm_cs3, tm_cs4, true_and, and_true, and_self, Option.toList_some, Option.toList_none, List.cons_append, List.nil_append, tm_rf_some, tm_rf_none]
    rw [ih (i + 1) t (by omega), ih (i + 1) (t + 1) (by omega)]
    simp only [p_ho]
    by_cases hb : p_hn (I (16 + 3 * i + 2)) nm 0 (cn i) = true
    · simp only [hb, if_true, show ¬ (1 : Int32) = 0 by decide, if_false]
      rw [Nat.add_assoc t 1]
    · simp [hb]
theorem c47 (d : Nat) (nm : Int32) (K : Option Value → tm_H → Prop) (hS : tp_S G) (hR : tp_R R) {m : Nat} (hm : I 14 1 = nI m) (hm10 : m ≤ 10) {cn : Nat → Nat} (hcn : ∀ r, r < m → I (16 + 3 * r + 1) 3 = nI (cn r) ∧ cn r ≤ 3) : tm_R (d + 1) 47 [.ref 14, .int nm] (G, I, J, R) K ↔ K (some (.int (nI (p_ho I cn nm 0 m)))) (G, I, J, R) := by
  rw [e47]
  simp only [r47_0, r47_1, r47_2, r47_3]
  rw [show (0 : Int32) = nI 0 from rfl, c47_l d nm K hS hR hm hm10 hcn m 0 0 (by omega), Nat.zero_add]
end KNW
