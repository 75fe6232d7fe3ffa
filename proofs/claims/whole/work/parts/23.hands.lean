/-! What a hand told. -/
section HND
variable {G : tm_G} {I : Nat → Nat → Int32} {J : Nat → Nat → Int64} {R : Nat → Nat → Option Nat}
theorem c36 (d : Nat) (x y w : Int32) (K : Option Value → tm_H → Prop) (hS : tp_S G) (hR : tp_R R) (hx : tm_in x 10) (hy : tm_in y 10) : tm_R (d + 1) 36 [.ref 46, .int x, .int y, .int w] (G, I, J, R) K ↔ K none (G, up2 (up2 I (48 + 1 * tm_ix x) (tm_ix y) w) (48 + 1 * tm_ix y) (tm_ix x) w, J, R) := by
  have hc : 0 ≤ x ∧ x < 10 ∧ 0 ≤ y ∧ y < 10 := by
    have h1 := (q_inI (x := x) (N := 10) (n := 10) rfl (by decide)).mpr hx
    have h2 := (q_inI (x := y) (N := 10) (n := 10) rfl (by decide)).mpr hy
    exact ⟨h1.1, h1.2, h2.1, h2.2⟩
  have hxl := (q_of hx).2
  have hyl := (q_of hy).2
  have g1 : 3 ≤ 48 + 1 * tm_ix x := by omega
  have g2 : 3 ≤ 48 + 1 * tm_ix y := by omega
  rw [e36]
  simp only [r36_0, r36_1, r36_2, r36_5, r36_8, r36_9, r36_12, r36_13, r36_14, r36_15, r36_16, r36_17, r36_18, r36_21, r36_22, r36_23, r36_24, r36_25, r36_26, c35, hc, if_true, sh_46 hS, sh_47 hS, rf_46_0 hR, rf_W hR hxl, rf_W hR hyl, sh_W hS hxl, sh_W hS hyl, hx, hy, g1, g2, tm_in, or_true, true_or, tm_cs0, tm_cs1, tm_cs2, tm_cs3, tm_cs4, true_and, and_true, and_self, Option.toList_some, Option.toList_none, List.cons_append, List.nil_append, tm_rf_some, tm_rf_none]
  simp
theorem c37 (d : Nat) (x y : Int32) (K : Option Value → tm_H → Prop) (hS : tp_S G) (hR : tp_R R) (hx : tm_in x 10) (hy : tm_in y 10) : tm_R (d + 1) 37 [.ref 46, .int x, .int y] (G, I, J, R) K ↔ K (some (.int (I (48 + 1 * tm_ix x) (tm_ix y)))) (G, I, J, R) := by
  have hc : 0 ≤ x ∧ x < 10 ∧ 0 ≤ y ∧ y < 10 := by
    have h1 := (q_inI (x := x) (N := 10) (n := 10) rfl (by decide)).mpr hx
    have h2 := (q_inI (x := y) (N := 10) (n := 10) rfl (by decide)).mpr hy
    exact ⟨h1.1, h1.2, h2.1, h2.2⟩
  have hxl := (q_of hx).2
  have hyl := (q_of hy).2
  rw [e37]
  simp only [r37_0, r37_1, r37_2, r37_5, r37_8, r37_9, r37_12, r37_13, r37_14, r37_15, r37_16, r37_19, r37_20, c35, hc, if_true, sh_46 hS, sh_47 hS, rf_46_0 hR, rf_W hR hxl, sh_W hS hxl, hx, hy, tm_in, or_true, true_or, tm_cs0, tm_cs1, tm_cs2, tm_cs3, tm_cs4, true_and, and_true, and_self, Option.toList_some, Option.toList_none, List.cons_append, List.nil_append, tm_rf_some, tm_rf_none]
  simp
/-- how many of a row's places from j on, n of them, hold w -/
def p_cr (f : Nat → Int32) (w : Int32) : Nat → Nat → Nat
  | _, 0 => 0
  | j, n + 1 => (if f j = w then 1 else 0) + p_cr f w (j + 1) n
theorem c38_in (d : Nat) (w : Int32) (K : Option Value → tm_H → Prop) (hS : tp_S G) (hR : tp_R R) (i : Nat) (hi : i < 10) : ∀ (n j m : Nat), j + n = 10 → (tm_A d 38 15 [some (.ref 46), some (.int w), some (.int (nI m)), some (.int (nI i)), some (.int (nI j))] [] (G, I, J, R) K ↔ tm_A d 38 44 [some (.ref 46), some (.int w), some (.int (nI (m + p_cr (I (48 + 1 * i)) w j n))), some (.int (nI i)), some (.int (nI 10))] [] (G, I, J, R) K) := by
  intro n
  induction n with
  | zero =>
    intro j m hj
    have hj : j = 10 := by omega
    subst hj
    have hc : (10 : Int32) ≤ nI 10 := by decide
    rw [r38_15]
    simp only [r38_17, r38_19, hc, if_true, p_cr, Nat.add_zero]
  | succ n ih =>
    intro j m hj
    have hc : ¬ (10 : Int32) ≤ nI j := fun q => by
      have := (q_le (a := 10) (b := j) rfl rfl (by decide) (by omega)).mp q
      omega
    have hj10 : tm_in (nI j) 10 := q_in (by omega) (by decide)
    have hi10 : tm_in (nI i) 10 := q_in hi (by decide)
    rw [r38_15]
    simp only [r38_0, r38_1, r38_2, r38_3, r38_4, r38_5, r38_7, r38_10, r38_11, r38_12, r38_13, r38_17, r38_19, r38_22, r38_23, r38_26, r38_27, r38_28, r38_30, r38_31, r38_32, r38_35, r38_38, r38_41, r38_47, r38_50, r38_51, hc, if_false, sh_46 hS, sh_47 hS, rf_46_0 hR, q_ix (show i < 2147483648 by omega), q_ix (show j < 2147483648 by omega), rf_W hR hi, sh_W hS hi, hj10, hi10, nI_1, tm_in, or_true, true_or, tm_cs0, tm_cs1, tm_cs2, tm_cs3, tm_cs4, true_and, and_true, and_self, Option.toList_some, Option.toList_none, List.cons_append, List.nil_append, tm_rf_some, tm_rf_none]
    rw [ih (j + 1) (m + 1) (by omega), ih (j + 1) m (by omega)]
    simp only [p_cr]
    by_cases hq : I (48 + 1 * i) j = w
    · simp only [hq, not_true, if_true, if_false, Nat.add_assoc]
    · simp only [hq, not_false_eq_true, if_true, if_false, Nat.zero_add]
/-- pairs told w, from row i on, n rows -/
def p_ct (f : Nat → Nat → Int32) (w : Int32) : Nat → Nat → Nat
  | _, 0 => 0
  | i, n + 1 => p_cr (f i) w (i + 1) (9 - i) + p_ct f w (i + 1) n
theorem c38_out (d : Nat) (w : Int32) (K : Option Value → tm_H → Prop) (hS : tp_S G) (hR : tp_R R) : ∀ (n i m : Nat) (o : Option Value), i + n = 10 → (tm_A d 38 4 [some (.ref 46), some (.int w), some (.int (nI m)), some (.int (nI i)), o] [] (G, I, J, R) K ↔ K (some (.int (nI (m + p_ct (fun i => I (48 + 1 * i)) w i n)))) (G, I, J, R)) := by
  intro n
  induction n with
  | zero =>
    intro i m o hi
    have hi : i = 10 := by omega
    subst hi
    have hc : (10 : Int32) ≤ nI 10 := by decide
    rw [r38_4]
    simp only [r38_0, r38_1, r38_2, r38_3, r38_5, r38_7, r38_10, r38_11, r38_12, r38_13, r38_15, r38_17, r38_19, r38_22, r38_23, r38_26, r38_27, r38_28, r38_30, r38_31, r38_32, r38_35, r38_38, r38_41, r38_44, r38_47, r38_50, r38_51, hc, if_true, p_ct, Nat.add_zero]
  | succ n ih =>
    intro i m o hi
    have hc : ¬ (10 : Int32) ≤ nI i := fun q => by
      have := (q_le (a := 10) (b := i) rfl rfl (by decide) (by omega)).mp q
      omega
    rw [r38_4]
    simp only [r38_5, r38_7, hc, if_false, r38_10, r38_11, r38_12, r38_13, nI_1]
    rw [c38_in d w K hS hR i (by omega) (9 - i) (i + 1) m (by omega)]
    simp only [r38_44, r38_47, nI_1]
    rw [ih (i + 1) _ _ (by omega)]
    simp only [p_ct, Nat.add_assoc]
theorem c38 (d : Nat) (w : Int32) (K : Option Value → tm_H → Prop) (hS : tp_S G) (hR : tp_R R) : tm_R d 38 [.ref 46, .int w] (G, I, J, R) K ↔ K (some (.int (nI (p_ct (fun i => I (48 + 1 * i)) w 0 10)))) (G, I, J, R) := by
  rw [e38]
  simp only [r38_0, r38_1, r38_2, r38_3]
  rw [show (0 : Int32) = nI 0 from rfl, c38_out d w K hS hR 10 0 0 _ rfl, Nat.zero_add]
theorem c93 (d : Nat) (x y w : Int32) (K : Option Value → tm_H → Prop) (hS : tp_S G) (hR : tp_R R) {r : Nat} (hr : I 9 3 = nI r) (hr10 : r ≤ 10) : tm_R (d + 2) 93 [.ref 3, .int x, .int y, .int w] (G, I, J, R) K ↔ if tm_in x r ∧ tm_in y r ∧ x ≠ y ∧ 0 ≤ w ∧ w ≤ 2 then K (some (.int 1)) (G, up2 (up2 (up2 I (48 + 1 * tm_ix x) (tm_ix y) w) (48 + 1 * tm_ix y) (tm_ix x) w) 3 11 0, J, R) else K (some (.int 0)) (G, I, J, R) := by
  have h1 : (0 ≤ x ∧ x < I 9 3) ↔ tm_in x r := q_inI hr (by omega)
  have h2 : (0 ≤ y ∧ y < I 9 3) ↔ tm_in y r := q_inI hr (by omega)
  rw [e93]
  by_cases hx : tm_in x r
  · by_cases hy : tm_in y r
    · have hx' : tm_in x 10 := ⟨hx.1, by have := hx.2; omega⟩
      have hy' : tm_in y 10 := ⟨hy.1, by have := hy.2; omega⟩
      simp only [r93_0, r93_1, r93_4, r93_5, r93_8, r93_11, r93_12, r93_15, r93_16, r93_19, r93_22, r93_23, r93_24, r93_27, r93_28, r93_29, r93_30, r93_33, r93_34, r93_35, r93_38, r93_39, r93_40, r93_41, r93_44, r93_45, r93_46, r93_47, r93_50, r93_51, r93_52, r93_55, r93_56, sh_3 hS, sh_9 hS, sh_46 hS, rf_3_1 hR, rf_3_3 hR, c51 _ _ _ hS, h1, h2, hx, hy, c36 _ _ _ _ _ hS hR hx' hy', if_true, tm_z0, tm_z1, tm_in, or_true, true_or, tm_cs0, tm_cs1, tm_cs2, tm_cs3, tm_cs4, true_and, and_true, and_self, Option.toList_some, Option.toList_none, List.cons_append, List.nil_append, tm_rf_some, tm_rf_none]
      grind
    · simp only [r93_0, r93_1, r93_4, r93_5, r93_8, r93_11, r93_12, r93_15, r93_16, r93_19, r93_22, r93_23, r93_24, r93_27, r93_28, r93_29, r93_30, r93_33, r93_34, r93_35, r93_38, r93_39, r93_40, r93_41, r93_44, r93_45, r93_46, r93_47, r93_50, r93_51, r93_52, r93_55, r93_56, sh_3 hS, sh_9 hS, sh_46 hS, rf_3_1 hR, rf_3_3 hR, c51 _ _ _ hS, h1, h2, hx, hy, if_true, if_false, tm_z0, tm_z1, tm_in, or_true, true_or, tm_cs0, tm_cs1, tm_cs2, tm_cs3, tm_cs4, true_and, and_true, and_self, Option.toList_some, Option.toList_none, List.cons_append, List.nil_append, tm_rf_some, tm_rf_none]
      simp
  · simp only [r93_0, r93_1, r93_4, r93_5, r93_8, r93_11, r93_12, r93_15, r93_16, r93_19, r93_22, r93_23, r93_24, r93_27, r93_28, r93_29, r93_30, r93_33, r93_34, r93_35, r93_38, r93_39, r93_40, r93_41, r93_44, r93_45, r93_46, r93_47, r93_50, r93_51, r93_52, r93_55, r93_56, sh_3 hS, sh_9 hS, sh_46 hS, rf_3_1 hR, rf_3_3 hR, c51 _ _ _ hS, h1, h2, hx, if_true, if_false, tm_z0, tm_z1, tm_in, or_true, true_or, tm_cs0, tm_cs1, tm_cs2, tm_cs3, tm_cs4, true_and, and_true, and_self, Option.toList_some, Option.toList_none, List.cons_append, List.nil_append, tm_rf_some, tm_rf_none]
    simp
end HND
