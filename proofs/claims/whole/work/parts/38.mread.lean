/-! The reference: feeding, bytes, digits. -/
section MFEED
variable {G : tm_G} {I : Nat → Nat → Int32} {J : Nat → Nat → Int64} {R : Nat → Nat → Option Nat}
theorem m119 (d : Nat) (a b c e f : Int32) {k : Nat} (hk : k < 20) (h : tm_H) (K : Option Value → tm_H → Prop) : tm_R d 119 [.int a, .int b, .int c, .int e, .int f, .int (nI k)] h K ↔ K (some (.int (p_20 a b c e f k))) h := by
  have n4 : ((4 : Int32) ≤ nI k) ↔ 4 ≤ k := q_le (a := 4) (b := k) rfl rfl (by decide) (by omega)
  have n8 : ((8 : Int32) ≤ nI k) ↔ 8 ≤ k := q_le (a := 8) (b := k) rfl rfl (by decide) (by omega)
  have n12 : ((12 : Int32) ≤ nI k) ↔ 12 ≤ k := q_le (a := 12) (b := k) rfl rfl (by decide) (by omega)
  have n16 : ((16 : Int32) ≤ nI k) ↔ 16 ≤ k := q_le (a := 16) (b := k) rfl rfl (by decide) (by omega)
  have hb : k % 4 < 4 := Nat.mod_lt _ (by decide)
  unfold p_20 p_bt
  rw [e119]
  by_cases h4 : k < 4
  · simp only [r119_0, r119_2, r119_3, r119_6, r119_7, r119_10, r119_12, r119_14, r119_17, r119_18, r119_21, r119_23, r119_25, r119_28, r119_29, r119_32, r119_34, r119_36, r119_39, r119_40, r119_43, r119_45, r119_47, r119_49, r119_51, r119_53, r119_55, r119_56, r119_57, r119_58, r119_59, r119_60, r119_63, r119_64, n4, n8, n12, n16, show ¬ 4 ≤ k by omega, h4, if_true, if_false, p_bt_r k hk, show ¬ (4 : Int32) = 0 by decide, ne_eq, not_false_eq_true, tm_in, or_true, true_or, tm_cs0, tm_cs1, tm_cs2, tm_cs3, tm_cs4, true_and, and_true, and_self, Option.toList_some, Option.toList_none, List.cons_append, List.nil_append, tm_rf_some, tm_rf_none]
  · by_cases h8 : k < 8
    · simp only [r119_0, r119_2, r119_3, r119_6, r119_7, r119_10, r119_12, r119_14, r119_17, r119_18, r119_21, r119_23, r119_25, r119_28, r119_29, r119_32, r119_34, r119_36, r119_39, r119_40, r119_43, r119_45, r119_47, r119_49, r119_51, r119_53, r119_55, r119_56, r119_57, r119_58, r119_59, r119_60, r119_63, r119_64, n4, n8, n12, n16, show 4 ≤ k by omega, show ¬ 8 ≤ k by omega, h4, h8, if_true, if_false, p_bt_r k hk, show ¬ (4 : Int32) = 0 by decide, ne_eq, not_false_eq_true, tm_in, or_true, true_or, tm_cs0, tm_cs1, tm_cs2, tm_cs3, tm_cs4, true_and, and_true, and_self, Option.toList_some, Option.toList_none, List.cons_append, List.nil_append, tm_rf_some, tm_rf_none]
    · by_cases h12 : k < 12
      · simp only [r119_0, r119_2, r119_3, r119_6, r119_7, r119_10, r119_12, r119_14, r119_17, r119_18, r119_21, r119_23, r119_25, r119_28, r119_29, r119_32, r119_34, r119_36, r119_39, r119_40, r119_43, r119_45, r119_47, r119_49, r119_51, r119_53, r119_55, r119_56, r119_57, r119_58, r119_59, r119_60, r119_63, r119_64, n4, n8, n12, n16, show 4 ≤ k by omega, show 8 ≤ k by omega, show ¬ 12 ≤ k by omega, h4, h8, h12, if_true, if_false, p_bt_r k hk, show ¬ (4 : Int32) = 0 by decide, ne_eq, not_false_eq_true, tm_in, or_true, true_or, tm_cs0, tm_cs1, tm_cs2, tm_cs3, tm_cs4, true_and, and_true, and_self, Option.toList_some, Option.toList_none, List.cons_append, List.nil_append, tm_rf_some, tm_rf_none]
      · by_cases h16 : k < 16
        · simp only [r119_0, r119_2, r119_3, r119_6, r119_7, r119_10, r119_12, r119_14, r119_17, r119_18, r119_21, r119_23, r119_25, r119_28, r119_29, r119_32, r119_34, r119_36, r119_39, r119_40, r119_43, r119_45, r119_47, r119_49, r119_51, r119_53, r119_55, r119_56, r119_57, r119_58, r119_59, r119_60, r119_63, r119_64, n4, n8, n12, n16, show 4 ≤ k by omega, show 8 ≤ k by omega, show 12 ≤ k by omega, show ¬ 16 ≤ k by omega, h4, h8, h12, h16, if_true, if_false, p_bt_r k hk, show ¬ (4 : Int32) = 0 by decide, ne_eq, not_false_eq_true, tm_in, or_true, true_or, tm_cs0, tm_cs1, tm_cs2, tm_cs3, tm_cs4, true_and, and_true, and_self, Option.toList_some, Option.toList_none, List.cons_append, List.nil_append, tm_rf_some, tm_rf_none]
        · simp only [r119_0, r119_2, r119_3, r119_6, r119_7, r119_10, r119_12, r119_14, r119_17, r119_18, r119_21, r119_23, r119_25, r119_28, r119_29, r119_32, r119_34, r119_36, r119_39, r119_40, r119_43, r119_45, r119_47, r119_49, r119_51, r119_53, r119_55, r119_56, r119_57, r119_58, r119_59, r119_60, r119_63, r119_64, n4, n8, n12, n16, show 4 ≤ k by omega, show 8 ≤ k by omega, show 12 ≤ k by omega, show 16 ≤ k by omega, h4, h8, h12, h16, if_true, if_false, p_bt_r k hk, show ¬ (4 : Int32) = 0 by decide, ne_eq, not_false_eq_true, tm_in, or_true, true_or, tm_cs0, tm_cs1, tm_cs2, tm_cs3, tm_cs4, true_and, and_true, and_self, Option.toList_some, Option.toList_none, List.cons_append, List.nil_append, tm_rf_some, tm_rf_none]
theorem m120_l (d : Nat) (a b c e f : Int32) (K : Option Value → tm_H → Prop) : ∀ (k i m : Nat) (o : Option Value), i + k = 20 → (tm_A (d + 1) 120 6 [some (.ref 89), some (.int a), some (.int b), some (.int c), some (.int e), some (.int f), some (.int (nI m)), some (.int (nI i)), o] [] (G, I, J, R) K ↔ tm_A (d + 1) 120 44 [some (.ref 89), some (.int a), some (.int b), some (.int c), some (.int e), some (.int f), some (.int (nI (m + p_nz (p_20 a b c e f) k i))), some (.int (nI 20)), o] [] (G, I, J, R) K) := by
  intro k
  induction k with
  | zero =>
    intro i m o hi
    have hi : i = 20 := by omega
    subst hi
    have hc : (20 : Int32) ≤ nI 20 := by decide
    rw [r120_6]
    simp only [r120_8, r120_10, hc, if_true, p_nz, Nat.add_zero, tm_in, or_true, true_or, tm_cs0, tm_cs1, tm_cs2, tm_cs3, tm_cs4, true_and, and_true, and_self, Option.toList_some, Option.toList_none, List.cons_append, List.nil_append, tm_rf_some, tm_rf_none]
  | succ k ih =>
    intro i m o hi
    have hc : ¬ (20 : Int32) ≤ nI i := fun z => by
      have := (q_le (a := 20) (b := i) rfl rfl (by decide) (by omega)).mp z
      omega
    rw [r120_6]
    simp only [r120_8, r120_10, r120_13, r120_15, r120_16, r120_17, r120_18, r120_20, r120_22, r120_24, r120_27, r120_30, r120_31, r120_34, r120_35, r120_36, r120_38, r120_41, hc, if_false, m119 _ _ _ _ _ _ (show i < 20 by omega), nI_1, Int32.add_zero, tm_in, or_true, true_or, tm_cs0, tm_cs1, tm_cs2, tm_cs3, tm_cs4, true_and, and_true, and_self, Option.toList_some, Option.toList_none, List.cons_append, List.nil_append, tm_rf_some, tm_rf_none]
    rw [p_nz]
    by_cases h0 : p_20 a b c e f i = 0
    · simp only [h0, if_true, Nat.zero_add]
      exact ih (i + 1) m o (by omega)
    · simp only [h0, if_false]
      rw [← Nat.add_assoc]
      exact ih (i + 1) (m + 1) o (by omega)
theorem m120_m (d : Nat) (a b c e f : Int32) (K : Option Value → tm_H → Prop) (hS : tp_S G) (hR : tp_R R) : ∀ (k i n : Nat) (t : Nat → Int32) (o q : Option Value), i + k = 20 → n + p_nz (p_20 a b c e f) k i ≤ 100 → (tm_A (d + 1) 120 61 [some (.ref 89), some (.int a), some (.int b), some (.int c), some (.int e), some (.int f), q, some (.int (nI i)), o] [] (G, tp_w I 90 89 6 t n, J, R) K ↔ K (some (.int (nI (p_app (p_20 a b c e f) k i (t, n)).2))) (G, tp_w I 90 89 6 (p_app (p_20 a b c e f) k i (t, n)).1 (p_app (p_20 a b c e f) k i (t, n)).2, J, R)) := by
  intro k
  induction k with
  | zero =>
    intro i n t o q hi hn
    have hi : i = 20 := by omega
    subst hi
    have hc : (20 : Int32) ≤ nI 20 := by decide
    rw [r120_61]
    simp only [r120_63, r120_65, r120_114, r120_115, r120_118, hc, if_true, p_app, sh_89 hS, tw_c (show 89 ≠ 90 by decide), tm_in, or_true, true_or, tm_cs0, tm_cs1, tm_cs2, tm_cs3, tm_cs4, true_and, and_true, and_self, Option.toList_some, Option.toList_none, List.cons_append, List.nil_append, tm_rf_some, tm_rf_none]
  | succ k ih =>
    intro i n t o q hi hn
    have hc : ¬ (20 : Int32) ≤ nI i := fun z => by
      have := (q_le (a := 20) (b := i) rfl rfl (by decide) (by omega)).mp z
      omega
    rw [r120_61]
    simp only [r120_63, r120_65, r120_68, r120_69, r120_70, r120_71, r120_73, r120_75, r120_77, r120_80, r120_82, r120_84, hc, if_false, m119 _ _ _ _ _ _ (show i < 20 by omega), tm_in, or_true, true_or, tm_cs0, tm_cs1, tm_cs2, tm_cs3, tm_cs4, true_and, and_true, and_self, Option.toList_some, Option.toList_none, List.cons_append, List.nil_append, tm_rf_some, tm_rf_none]
    rw [p_app, p_st]
    rw [p_nz] at hn
    by_cases h0 : p_20 a b c e f i = 0
    · simp only [h0, if_true, r120_108, r120_111, nI_1]
      rw [if_pos h0] at hn
      exact ih (i + 1) n t _ _ (by omega) (by omega)
    · rw [if_neg h0] at hn
      have hin : tm_in (nI n) 100 := q_in (by omega) (by decide)
      simp only [h0, if_false, r120_87, r120_88, r120_91, r120_92, r120_95, r120_97, r120_98, r120_99, r120_99i, r120_100, r120_103, r120_104, r120_105, r120_108, r120_111, sh_89 hS, sh_90 hS, rf_89_5 hR, tw_c (show 89 ≠ 90 by decide), hin, q_ix (show n < 2147483648 by omega), tw_ua, tw_uc (show 89 ≠ 90 by decide), nI_1, show 3 ≤ 90 by decide, tm_in, or_true, true_or, tm_cs0, tm_cs1, tm_cs2, tm_cs3, tm_cs4, true_and, and_true, and_self, Option.toList_some, Option.toList_none, List.cons_append, List.nil_append, tm_rf_some, tm_rf_none]
      exact ih (i + 1) (n + 1) _ _ _ (by omega) (by omega)
theorem m120 (d : Nat) (x0 x1 x2 x3 x4 : Int32) (K : Option Value → tm_H → Prop) (hS : tp_S G) (hR : tp_R R) {n : Nat} {b : Nat → Int32} (hb : I 90 = b) (hn : I 89 6 = nI n) (hn100 : n ≤ 100) : tm_R (d + 1) 120 [.ref 89, .int x0, .int x1, .int x2, .int x3, .int x4] (G, I, J, R) K ↔ if n + p_nz (p_20 x0 x1 x2 x3 x4) 20 0 ≤ 100 then K (some (.int (nI (p_app (p_20 x0 x1 x2 x3 x4) 20 0 (b, n)).2))) (G, tp_w I 90 89 6 (p_app (p_20 x0 x1 x2 x3 x4) 20 0 (b, n)).1 (p_app (p_20 x0 x1 x2 x3 x4) 20 0 (b, n)).2, J, R) else K (some (.int (-1))) (G, I, J, R) := by
  have l := p_nz_le (p_20 x0 x1 x2 x3 x4) 20 0
  rw [e120]
  simp only [r120_0, r120_1, r120_3, r120_4]
  have := m120_l (G := G) (I := I) (J := J) (R := R) d x0 x1 x2 x3 x4 K 20 0 0 none rfl
  rw [nI_0] at this
  rw [this, Nat.zero_add]
  simp only [r120_44, r120_45, r120_48, r120_50, r120_51, r120_53, sh_89 hS, hn, nI_add, tm_in, or_true, true_or, tm_cs0, tm_cs1, tm_cs2, tm_cs3, tm_cs4, true_and, and_true, and_self, Option.toList_some, Option.toList_none, List.cons_append, List.nil_append, tm_rf_some, tm_rf_none]
  by_cases h : n + p_nz (p_20 x0 x1 x2 x3 x4) 20 0 ≤ 100
  · have z : nI (n + p_nz (p_20 x0 x1 x2 x3 x4) 20 0) ≤ 100 := (q_le (b := 100) rfl rfl (by omega) (by decide)).mpr h
    have s : tp_w I 90 89 6 b n = I := tw_self hb hn
    rw [if_pos h, if_pos z]
    simp only [r120_58, r120_59]
    have := m120_m (G := G) (I := I) (J := J) (R := R) d x0 x1 x2 x3 x4 K hS hR 20 0 n b none (some (.int (nI (p_nz (p_20 x0 x1 x2 x3 x4) 20 0)))) rfl h
    rw [s, nI_0] at this
    exact this
  · have z : ¬ nI (n + p_nz (p_20 x0 x1 x2 x3 x4) 20 0) ≤ 100 := fun z => h ((q_le (b := 100) rfl rfl (by omega) (by decide)).mp z)
    simp only [h, z, if_false, r120_56, r120_57]
end MFEED
abbrev p_M : Type := Int32 × Int32 × Int32 × Int32 × (Nat → Int32) × (Nat → Int32) × (Nat → Int32)
/-- what the reference has read: bits, names' number, upper, value, fields, names, lengths -/
def tp_mr (I : Nat → Nat → Int32) (M : p_M) : Nat → Nat → Int32 := fun b k => if b = 89 then (if k = 7 then M.1 else if k = 8 then M.2.1 else if k = 10 then M.2.2.1 else if k = 13 then M.2.2.2.1 else I b k) else if b = 91 then M.2.2.2.2.1 k else if b = 92 then M.2.2.2.2.2.1 k else if b = 93 then M.2.2.2.2.2.2 k else I b k
section MR
variable {I : Nat → Nat → Int32} {M : p_M} {h m u x y : Int32} {F N L : Nat → Int32} {i : Nat}
theorem mr_7 : tp_mr I M 89 7 = M.1 := by simp [tp_mr]
theorem mr_8 : tp_mr I M 89 8 = M.2.1 := by simp [tp_mr]
theorem mr_10 : tp_mr I M 89 10 = M.2.2.1 := by simp [tp_mr]
theorem mr_13 : tp_mr I M 89 13 = M.2.2.2.1 := by simp [tp_mr]
theorem mr_6 : tp_mr I M 89 6 = I 89 6 := by simp [tp_mr]
theorem mr_90 : tp_mr I M 90 = I 90 := by funext k; simp [tp_mr]
theorem mr_91 : tp_mr I M 91 = M.2.2.2.2.1 := by funext k; simp [tp_mr]
theorem mr_92 : tp_mr I M 92 = M.2.2.2.2.2.1 := by funext k; simp [tp_mr]
theorem mr_93 : tp_mr I M 93 = M.2.2.2.2.2.2 := by funext k; simp [tp_mr]
theorem mr_u7 : up2 (tp_mr I (h, m, u, x, F, N, L)) 89 7 y = tp_mr I (y, m, u, x, F, N, L) := by
  funext b k; simp only [up2, tp_mr]; grind
theorem mr_u8 : up2 (tp_mr I (h, m, u, x, F, N, L)) 89 8 y = tp_mr I (h, y, u, x, F, N, L) := by
  funext b k; simp only [up2, tp_mr]; grind
theorem mr_u10 : up2 (tp_mr I (h, m, u, x, F, N, L)) 89 10 y = tp_mr I (h, m, y, x, F, N, L) := by
  funext b k; simp only [up2, tp_mr]; grind
theorem mr_u13 : up2 (tp_mr I (h, m, u, x, F, N, L)) 89 13 y = tp_mr I (h, m, u, y, F, N, L) := by
  funext b k; simp only [up2, tp_mr]; grind
theorem mr_u91 : up2 (tp_mr I (h, m, u, x, F, N, L)) 91 i y = tp_mr I (h, m, u, x, p_upf F i y, N, L) := by
  funext b k; simp only [up2, tp_mr, p_upf]; grind
theorem mr_u92 : up2 (tp_mr I (h, m, u, x, F, N, L)) 92 i y = tp_mr I (h, m, u, x, F, p_upf N i y, L) := by
  funext b k; simp only [up2, tp_mr, p_upf]; grind
theorem mr_u93 : up2 (tp_mr I (h, m, u, x, F, N, L)) 93 i y = tp_mr I (h, m, u, x, F, N, p_upf L i y) := by
  funext b k; simp only [up2, tp_mr, p_upf]; grind
theorem mr_self : tp_mr I (I 89 7, I 89 8, I 89 10, I 89 13, I 91, I 92, I 93) = I := by
  funext b k; simp only [tp_mr]; grind
theorem mr_mr {M' : p_M} : tp_mr (tp_mr I M) M' = tp_mr I M' := by
  funext b k; simp only [tp_mr]; grind
theorem mr_o {b : Nat} (h1 : b ≠ 89) (h2 : b < 91 ∨ 93 < b) : tp_mr I M b = I b := by
  funext k; simp only [tp_mr]; grind
theorem mr_o9 {k : Nat} (h1 : k ≠ 7 ∧ k ≠ 8 ∧ k ≠ 10 ∧ k ≠ 13) : tp_mr I M 89 k = I 89 k := by
  simp only [tp_mr]; grind
end MR
