/-! The reference: end, opens, price, hand, count. -/
theorem q_inI3 {x N : Int32} {n : Nat} (hN : N = nI n) (hn : n < 1000000) : (0 ≤ x ∧ x ≤ N - 1) ↔ tm_in x n := by
  subst hN
  unfold tm_in
  have e : (nI n - 1).toInt = (n : Int) - 1 := by
    have := pk_sub_toInt (a := n) (b := 1) (by omega) (by decide)
    exact this
  rw [Int32.le_iff_toInt_le, Int32.le_iff_toInt_le, e]
  constructor
  · rintro ⟨h1, h2⟩
    have h1' : (0 : Int) ≤ x.toInt := h1
    exact ⟨h1', by omega⟩
  · rintro ⟨h1, h2⟩
    exact ⟨h1, by omega⟩
theorem q_sw6 (v : Int32) : v = 0 ∨ v = 1 ∨ v = 2 ∨ v = 3 ∨ v = 4 ∨ v = 5 ∨ (v.toInt < 0 ∨ 5 < v.toInt) := by
  by_cases h : v.toInt < 0
  · exact Or.inr (Or.inr (Or.inr (Or.inr (Or.inr (Or.inr (Or.inl h))))))
  · by_cases h2 : 5 < v.toInt
    · exact Or.inr (Or.inr (Or.inr (Or.inr (Or.inr (Or.inr (Or.inr h2))))))
    · have : v.toInt = 0 ∨ v.toInt = 1 ∨ v.toInt = 2 ∨ v.toInt = 3 ∨ v.toInt = 4 ∨ v.toInt = 5 := by omega
      rcases this with q | q | q | q | q | q
      · exact Or.inl (Int32.toInt_inj.mp q)
      · exact Or.inr (Or.inl (Int32.toInt_inj.mp q))
      · exact Or.inr (Or.inr (Or.inl (Int32.toInt_inj.mp q)))
      · exact Or.inr (Or.inr (Or.inr (Or.inl (Int32.toInt_inj.mp q))))
      · exact Or.inr (Or.inr (Or.inr (Or.inr (Or.inl (Int32.toInt_inj.mp q)))))
      · exact Or.inr (Or.inr (Or.inr (Or.inr (Or.inr (Or.inl (Int32.toInt_inj.mp q))))))
section MD2
variable {G : tm_G} {I : Nat → Nat → Int32} {J : Nat → Nat → Int64} {R : Nat → Nat → Option Nat}
theorem m121 (d : Nat) (n : Int32) (K : Option Value → tm_H → Prop) (hS : tp_S G) : tm_R d 121 [.ref 89, .int n] (G, I, J, R) K ↔ if 0 ≤ n ∧ n ≤ I 89 6 then K (some (.int 1)) (G, up2 I 89 6 n, J, R) else K (some (.int 0)) (G, I, J, R) := by
  rw [e121]
  simp only [r121_0, r121_1, r121_4, r121_5, r121_6, r121_9, r121_12, r121_13, r121_14, r121_15, r121_16, r121_19, r121_20, sh_89 hS, tm_z0, tm_z1, tm_in, or_true, true_or, tm_cs0, tm_cs1, tm_cs2, tm_cs3, tm_cs4, true_and, and_true, and_self, Option.toList_some, Option.toList_none, List.cons_append, List.nil_append, tm_rf_some, tm_rf_none]
  grind
theorem m147 (d : Nat) (n : Int32) (K : Option Value → tm_H → Prop) (hS : tp_S G) : tm_R (d + 1) 147 [.ref 89, .int n] (G, I, J, R) K ↔ if 0 ≤ n ∧ n ≤ 100 then K (some (.int 1)) (G, up2 I 89 3 n, J, R) else K (some (.int 0)) (G, I, J, R) := by
  rw [e147]
  simp only [r147_0, r147_1, r147_2, r147_4, r147_7, r147_10, r147_11, r147_12, r147_13, r147_14, r147_17, r147_18, sh_89 hS, m117, tm_z0, tm_z1, tm_in, or_true, true_or, tm_cs0, tm_cs1, tm_cs2, tm_cs3, tm_cs4, true_and, and_true, and_self, Option.toList_some, Option.toList_none, List.cons_append, List.nil_append, tm_rf_some, tm_rf_none]
  grind
theorem m148 (d : Nat) (n : Int32) (K : Option Value → tm_H → Prop) (hS : tp_S G) : tm_R (d + 1) 148 [.ref 89, .int n] (G, I, J, R) K ↔ if 0 ≤ n ∧ n ≤ 50 then K (some (.int 1)) (G, up2 I 89 4 n, J, R) else K (some (.int 0)) (G, I, J, R) := by
  rw [e148]
  simp only [r148_0, r148_1, r148_2, r148_4, r148_7, r148_10, r148_11, r148_12, r148_13, r148_14, r148_17, r148_18, sh_89 hS, m117, tm_z0, tm_z1, tm_in, or_true, true_or, tm_cs0, tm_cs1, tm_cs2, tm_cs3, tm_cs4, true_and, and_true, and_self, Option.toList_some, Option.toList_none, List.cons_append, List.nil_append, tm_rf_some, tm_rf_none]
  grind
theorem m134 (d : Nat) (x : Int32) (K : Option Value → tm_H → Prop) (hS : tp_S G) {r : Nat} (hr : I 89 1 = nI r) (hr10 : r ≤ 10) : tm_R (d + 1) 134 [.ref 89, .int x] (G, I, J, R) K ↔ K (some (.int (if tm_in x r then 1 else 0))) (G, I, J, R) := by
  have h1 : (0 ≤ x ∧ x ≤ I 89 1 - 1) ↔ tm_in x r := q_inI3 hr (by omega)
  rw [e134]
  simp only [r134_0, r134_1, r134_2, r134_3, r134_6, r134_7, r134_8, r134_11, sh_89 hS, m117, h1, tm_in, or_true, true_or, tm_cs0, tm_cs1, tm_cs2, tm_cs3, tm_cs4, true_and, and_true, and_self, Option.toList_some, Option.toList_none, List.cons_append, List.nil_append, tm_rf_some, tm_rf_none]
  by_cases hx : tm_in x r
  · simp [hx]
  · simp [hx]
theorem m146 (d : Nat) (x y w : Int32) (K : Option Value → tm_H → Prop) (hS : tp_S G) (hR : tp_R R) {r : Nat} (hr : I 89 1 = nI r) (hr10 : r ≤ 10) : tm_R (d + 2) 146 [.ref 89, .int x, .int y, .int w] (G, I, J, R) K ↔ if tm_in x r ∧ tm_in y r ∧ x ≠ y ∧ 0 ≤ w ∧ w ≤ 2 then K (some (.int 1)) (G, up2 (up2 I 106 (10 * tm_ix x + tm_ix y) w) 106 (10 * tm_ix y + tm_ix x) w, J, R) else K (some (.int 0)) (G, I, J, R) := by
  rw [e146]
  by_cases hx : tm_in x r
  · by_cases hy : tm_in y r
    · have hxl := q_of hx
      have hyl := q_of hy
      have ex : 10 * x + y = nI (10 * tm_ix x + tm_ix y) := by rw [hxl.1, hyl.1, show (10 : Int32) = nI 10 from rfl, pk_mul, nI_add, q_ix (by omega), q_ix (by omega)]
      have ey : 10 * y + x = nI (10 * tm_ix y + tm_ix x) := by rw [hxl.1, hyl.1, show (10 : Int32) = nI 10 from rfl, pk_mul, nI_add, q_ix (by omega), q_ix (by omega)]
      have ix : tm_in (nI (10 * tm_ix x + tm_ix y)) 100 := q_in (by omega) (by decide)
      have iy : tm_in (nI (10 * tm_ix y + tm_ix x)) 100 := q_in (by omega) (by decide)
      simp only [r146_0, r146_1, r146_2, r146_5, r146_8, r146_9, r146_10, r146_13, r146_16, r146_17, r146_18, r146_21, r146_22, r146_23, r146_24, r146_27, r146_30, r146_31, r146_32, r146_33, r146_36, r146_38, r146_39, r146_40, r146_41, r146_42, r146_43, r146_44, r146_45, r146_48, r146_50, r146_51, r146_52, r146_53, r146_54, r146_55, r146_56, r146_57, sh_89 hS, sh_106 hS, rf_89_28 hR, m134 _ _ _ hS hr hr10, hx, hy, m117, ex, ey, q_ix (show 10 * tm_ix x + tm_ix y < 2147483648 by omega), q_ix (show 10 * tm_ix y + tm_ix x < 2147483648 by omega), ix, iy, if_true, if_false, tm_z0, tm_z1, tm_in, or_true, true_or, tm_cs0, tm_cs1, tm_cs2, tm_cs3, tm_cs4, true_and, and_true, and_self, Option.toList_some, Option.toList_none, List.cons_append, List.nil_append, tm_rf_some, tm_rf_none]
      grind
    · have hn : ¬ (tm_in x r ∧ tm_in y r ∧ x ≠ y ∧ 0 ≤ w ∧ w ≤ 2) := fun q => hy q.2.1
      rw [if_neg hn]
      simp only [r146_0, r146_1, r146_2, r146_5, r146_8, r146_9, r146_10, r146_13, r146_16, r146_17, r146_18, r146_21, r146_22, r146_23, r146_24, r146_27, r146_30, r146_31, r146_32, r146_33, r146_36, r146_38, r146_39, r146_40, r146_41, r146_42, r146_43, r146_44, r146_45, r146_48, r146_50, r146_51, r146_52, r146_53, r146_54, r146_55, r146_56, r146_57, sh_89 hS, m134 _ _ _ hS hr hr10, if_pos hx, if_neg hy, m117, tm_z0, tm_z1, tm_in, or_true, true_or, tm_cs0, tm_cs1, tm_cs2, tm_cs3, tm_cs4, true_and, and_true, and_self, Option.toList_some, Option.toList_none, List.cons_append, List.nil_append, tm_rf_some, tm_rf_none]
      simp
  · have hn : ¬ (tm_in x r ∧ tm_in y r ∧ x ≠ y ∧ 0 ≤ w ∧ w ≤ 2) := fun q => hx q.1
    rw [if_neg hn]
    simp only [r146_0, r146_1, r146_2, r146_5, r146_8, r146_9, r146_10, r146_13, r146_16, r146_17, r146_18, r146_21, r146_22, r146_23, r146_24, r146_27, r146_30, r146_31, r146_32, r146_33, r146_36, r146_38, r146_39, r146_40, r146_41, r146_42, r146_43, r146_44, r146_45, r146_48, r146_50, r146_51, r146_52, r146_53, r146_54, r146_55, r146_56, r146_57, sh_89 hS, m134 _ _ _ hS hr hr10, if_neg hx, m117, tm_z0, tm_z1, tm_in, or_true, true_or, tm_cs0, tm_cs1, tm_cs2, tm_cs3, tm_cs4, true_and, and_true, and_self, Option.toList_some, Option.toList_none, List.cons_append, List.nil_append, tm_rf_some, tm_rf_none]
    simp
/-- the reference's count of a row: places b below a, from b on -/
theorem m173_in (d : Nat) (v : Int32) (K : Option Value → tm_H → Prop) (hS : tp_S G) (hR : tp_R R) (a : Nat) (ha : a < 10) : ∀ (n b t p : Nat), b + n = a → (tm_A d 173 19 [some (.ref 89), some (.int v), some (.int (nI t)), some (.int (nI p)), some (.int (nI a)), some (.int (nI b))] [] (G, I, J, R) K ↔ tm_A d 173 82 [some (.ref 89), some (.int v), some (.int (nI (t + p_cr (fun b => I 106 (10 * a + b)) 1 b n))), some (.int (nI (p + p_cr (fun b => I 106 (10 * a + b)) 2 b n))), some (.int (nI a)), some (.int (nI a))] [] (G, I, J, R) K) := by
  intro n
  induction n with
  | zero =>
    intro b t p hb
    have hb : b = a := by omega
    subst hb
    have hc : nI b ≤ nI b := Int32.le_refl _
    rw [r173_19]
    simp only [r173_21, r173_23, hc, if_true, p_cr, Nat.add_zero]
  | succ n ih =>
    intro b t p hb
    have hc : ¬ nI a ≤ nI b := fun q => by
      have := (q_le (a := a) (b := b) rfl rfl (by omega) (by omega)).mp q
      omega
    have ei : (10 : Int32) * nI a + nI b = nI (10 * a + b) := by rw [show (10 : Int32) = nI 10 from rfl, pk_mul, nI_add]
    have hin : tm_in (nI (10 * a + b)) 100 := q_in (by omega) (by decide)
    rw [r173_19]
    simp only [r173_0, r173_1, r173_2, r173_3, r173_4, r173_5, r173_7, r173_9, r173_10, r173_13, r173_16, r173_17, r173_21, r173_23, r173_26, r173_27, r173_28, r173_31, r173_33, r173_35, r173_36, r173_38, r173_39, r173_40, r173_41, r173_44, r173_45, r173_48, r173_49, r173_50, r173_51, r173_52, r173_53, r173_56, r173_58, r173_60, r173_61, r173_63, r173_64, r173_65, r173_66, r173_69, r173_70, r173_73, r173_74, r173_75, r173_76, r173_79, r173_85, r173_88, r173_89, r173_128, r173_129, r173_132, r173_133, r173_134, r173_137, r173_138, r173_139, r173_142, r173_143, r173_144, r173_147, r173_148, r173_149, r173_150, r173_151, r173_152, r173_153, hc, if_false, sh_89 hS, sh_106 hS, rf_89_28 hR, ei, q_ix (show 10 * a + b < 2147483648 by omega), hin, nI_1, tm_in, or_true, true_or, tm_cs0, tm_cs1, tm_cs2, tm_cs3, tm_cs4, true_and, and_true, and_self, Option.toList_some, Option.toList_none, List.cons_append, List.nil_append, tm_rf_some, tm_rf_none]
    simp only [show nI t + 0 = nI t from nI_add t 0, show nI p + 0 = nI p from nI_add p 0]
    rw [ih (b + 1) (t + 1) (p + 1) (by omega), ih (b + 1) (t + 1) p (by omega), ih (b + 1) t (p + 1) (by omega), ih (b + 1) t p (by omega)]
    simp only [p_cr]
    by_cases h1 : I 106 (10 * a + b) = 1
    · have h2 : ¬ I 106 (10 * a + b) = 2 := by rw [h1]; decide
      simp only [h1, not_true, if_true, if_false, Nat.add_assoc, Nat.zero_add, show ¬ (1 : Int32) = 2 by decide, not_false_eq_true]
    · by_cases h2 : I 106 (10 * a + b) = 2
      · simp only [h2, not_true, if_true, if_false, Nat.add_assoc, Nat.zero_add, show ¬ (2 : Int32) = 1 by decide, not_false_eq_true]
      · simp only [h1, h2, not_false_eq_true, if_true, if_false, Nat.zero_add]
def p_mt (f : Nat → Int32) (w : Int32) : Nat → Nat → Nat
  | _, 0 => 0
  | a, n + 1 => p_cr (fun b => f (10 * a + b)) w 0 a + p_mt f w (a + 1) n
theorem m173_out (d : Nat) (v : Int32) (K : Option Value → tm_H → Prop) (hS : tp_S G) (hR : tp_R R) {r : Nat} (hr : I 89 1 = nI r) (hr10 : r ≤ 10) (F : Nat → Nat → Prop) (hE : ∀ (t p : Nat) (o : Option Value), tm_A d 173 88 [some (.ref 89), some (.int v), some (.int (nI t)), some (.int (nI p)), some (.int (nI r)), o] [] (G, I, J, R) K ↔ F t p) : ∀ (n a t p : Nat) (o : Option Value), a + n = r → (tm_A d 173 7 [some (.ref 89), some (.int v), some (.int (nI t)), some (.int (nI p)), some (.int (nI a)), o] [] (G, I, J, R) K ↔ F (t + p_mt (I 106) 1 a n) (p + p_mt (I 106) 2 a n)) := by
  intro n
  induction n with
  | zero =>
    intro a t p o ha
    have ha : a = r := by omega
    subst ha
    have hc : I 89 1 ≤ nI a := by rw [hr]; exact Int32.le_refl _
    rw [r173_7]
    simp only [r173_9, r173_10, r173_13, hc, if_true, sh_89 hS, p_mt, Nat.add_zero, hE, tm_in, or_true, true_or, tm_cs0, tm_cs1, tm_cs2, tm_cs3, tm_cs4, true_and, and_true, and_self, Option.toList_some, Option.toList_none, List.cons_append, List.nil_append, tm_rf_some, tm_rf_none]
  | succ n ih =>
    intro a t p o ha
    have hc : ¬ I 89 1 ≤ nI a := fun q => by
      have := (q_le (a := r) (b := a) hr rfl (by omega) (by omega)).mp q
      omega
    rw [r173_7]
    simp only [r173_9, r173_10, r173_13, hc, if_false, sh_89 hS, r173_16, r173_17, tm_in, or_true, true_or, tm_cs0, tm_cs1, tm_cs2, tm_cs3, tm_cs4, true_and, and_true, and_self, Option.toList_some, Option.toList_none, List.cons_append, List.nil_append, tm_rf_some, tm_rf_none]
    rw [show (0 : Int32) = nI 0 from rfl, m173_in d v K hS hR a (by omega) a 0 t p (by omega)]
    simp only [r173_82, r173_85, nI_1]
    rw [ih (a + 1) _ _ _ (by omega)]
    simp only [p_mt, Nat.add_assoc]
theorem m173 (d : Nat) (v : Int32) (K : Option Value → tm_H → Prop) (hS : tp_S G) (hR : tp_R R) {r : Nat} (hr : I 89 1 = nI r) (hr10 : r ≤ 10) : tm_R d 173 [.ref 89, .int v] (G, I, J, R) K ↔ K (some (.int (if v = 0 then I 89 0 else if v = 1 then I 89 1 else if v = 2 then I 89 2 else if v = 3 then I 89 6 else if v = 4 then nI (p_mt (I 106) 1 0 r) else if v = 5 then nI (p_mt (I 106) 2 0 r) else -1))) (G, I, J, R) := by
  rw [e173]
  simp only [r173_0, r173_1, r173_2, r173_3, r173_4, r173_5]
  rw [show (0 : Int32) = nI 0 from rfl, m173_out d v K hS hR hr hr10 (fun t p => K (some (.int (if v = 0 then I 89 0 else if v = 1 then I 89 1 else if v = 2 then I 89 2 else if v = 3 then I 89 6 else if v = 4 then nI t else if v = 5 then nI p else -1))) (G, I, J, R)) ?_ r 0 0 0 _ (by omega), Nat.zero_add, Nat.zero_add]
  · rfl
  · intro t p o
    rw [r173_88, r173_89]
    rcases q_sw6 v with rfl | rfl | rfl | rfl | rfl | rfl | hv
    · rw [show tm_tsw 63 0 5 #[39, 44, 49, 54, 59, 61] 89 0 = 128 by decide]
      simp only [r173_128, r173_129, r173_132, r173_133, r173_134, r173_137, r173_138, r173_139, r173_142, r173_143, r173_144, r173_147, r173_148, r173_149, r173_150, r173_151, r173_152, r173_153, sh_89 hS, tm_in, or_true, true_or, tm_cs0, tm_cs1, tm_cs2, tm_cs3, tm_cs4, true_and, and_true, and_self, Option.toList_some, Option.toList_none, List.cons_append, List.nil_append, tm_rf_some, tm_rf_none]
      simp
    · rw [show tm_tsw 63 0 5 #[39, 44, 49, 54, 59, 61] 89 1 = 133 by decide]
      simp only [r173_128, r173_129, r173_132, r173_133, r173_134, r173_137, r173_138, r173_139, r173_142, r173_143, r173_144, r173_147, r173_148, r173_149, r173_150, r173_151, r173_152, r173_153, sh_89 hS, tm_in, or_true, true_or, tm_cs0, tm_cs1, tm_cs2, tm_cs3, tm_cs4, true_and, and_true, and_self, Option.toList_some, Option.toList_none, List.cons_append, List.nil_append, tm_rf_some, tm_rf_none]
      simp
    · rw [show tm_tsw 63 0 5 #[39, 44, 49, 54, 59, 61] 89 2 = 138 by decide]
      simp only [r173_128, r173_129, r173_132, r173_133, r173_134, r173_137, r173_138, r173_139, r173_142, r173_143, r173_144, r173_147, r173_148, r173_149, r173_150, r173_151, r173_152, r173_153, sh_89 hS, tm_in, or_true, true_or, tm_cs0, tm_cs1, tm_cs2, tm_cs3, tm_cs4, true_and, and_true, and_self, Option.toList_some, Option.toList_none, List.cons_append, List.nil_append, tm_rf_some, tm_rf_none]
      simp
    · rw [show tm_tsw 63 0 5 #[39, 44, 49, 54, 59, 61] 89 3 = 143 by decide]
      simp only [r173_128, r173_129, r173_132, r173_133, r173_134, r173_137, r173_138, r173_139, r173_142, r173_143, r173_144, r173_147, r173_148, r173_149, r173_150, r173_151, r173_152, r173_153, sh_89 hS, tm_in, or_true, true_or, tm_cs0, tm_cs1, tm_cs2, tm_cs3, tm_cs4, true_and, and_true, and_self, Option.toList_some, Option.toList_none, List.cons_append, List.nil_append, tm_rf_some, tm_rf_none]
      simp
    · rw [show tm_tsw 63 0 5 #[39, 44, 49, 54, 59, 61] 89 4 = 148 by decide]
      simp only [r173_128, r173_129, r173_132, r173_133, r173_134, r173_137, r173_138, r173_139, r173_142, r173_143, r173_144, r173_147, r173_148, r173_149, r173_150, r173_151, r173_152, r173_153, sh_89 hS, tm_in, or_true, true_or, tm_cs0, tm_cs1, tm_cs2, tm_cs3, tm_cs4, true_and, and_true, and_self, Option.toList_some, Option.toList_none, List.cons_append, List.nil_append, tm_rf_some, tm_rf_none]
      simp
    · rw [show tm_tsw 63 0 5 #[39, 44, 49, 54, 59, 61] 89 5 = 150 by decide]
      simp only [r173_128, r173_129, r173_132, r173_133, r173_134, r173_137, r173_138, r173_139, r173_142, r173_143, r173_144, r173_147, r173_148, r173_149, r173_150, r173_151, r173_152, r173_153, sh_89 hS, tm_in, or_true, true_or, tm_cs0, tm_cs1, tm_cs2, tm_cs3, tm_cs4, true_and, and_true, and_self, Option.toList_some, Option.toList_none, List.cons_append, List.nil_append, tm_rf_some, tm_rf_none]
      simp
    · have hd : tm_tsw 63 0 5 #[39, 44, 49, 54, 59, 61] 89 v = 152 := by unfold tm_tsw; rw [if_pos hv]; rfl
      have n0 : ¬ v = 0 := fun q => by subst q; revert hv; decide
      have n1 : ¬ v = 1 := fun q => by subst q; revert hv; decide
      have n2 : ¬ v = 2 := fun q => by subst q; revert hv; decide
      have n3 : ¬ v = 3 := fun q => by subst q; revert hv; decide
      have n4 : ¬ v = 4 := fun q => by subst q; revert hv; decide
      have n5 : ¬ v = 5 := fun q => by subst q; revert hv; decide
      rw [hd]
      simp only [r173_128, r173_129, r173_132, r173_133, r173_134, r173_137, r173_138, r173_139, r173_142, r173_143, r173_144, r173_147, r173_148, r173_149, r173_150, r173_151, r173_152, r173_153, sh_89 hS, n0, n1, n2, n3, n4, n5, if_false, tm_in, or_true, true_or, tm_cs0, tm_cs1, tm_cs2, tm_cs3, tm_cs4, true_and, and_true, and_self, Option.toList_some, Option.toList_none, List.cons_append, List.nil_append, tm_rf_some, tm_rf_none]
end MD2
