/-! Feeding bytes, both sides. -/
def tp_w (I : Nat → Nat → Int32) (a c k : Nat) (b : Nat → Int32) (n : Nat) : Nat → Nat → Int32 := fun x j => if x = a then b j else if x = c ∧ j = k then nI n else I x j
section TPW
variable {I : Nat → Nat → Int32} {a c k : Nat} {b : Nat → Int32} {n : Nat}
theorem tw_a : tp_w I a c k b n a = b := by funext j; simp [tp_w]
theorem tw_c (h : c ≠ a) : tp_w I a c k b n c k = nI n := by simp [tp_w, h]
theorem tw_ua {i : Nat} {x : Int32} : up2 (tp_w I a c k b n) a i x = tp_w I a c k (p_upf b i x) n := by
  funext y j; simp only [up2, tp_w, p_upf]; grind
theorem tw_uc (h : c ≠ a) {n' : Nat} : up2 (tp_w I a c k b n) c k (nI n') = tp_w I a c k b n' := by
  funext y j; simp only [up2, tp_w]; grind
theorem tw_self {b : Nat → Int32} (hb : I a = b) (hn : I c k = nI n) : tp_w I a c k b n = I := by
  funext y j; simp only [tp_w]; grind
theorem tw_o {y : Nat} (h1 : y ≠ a) (h2 : y ≠ c) : tp_w I a c k b n y = I y := by
  funext j; simp only [tp_w]; grind
theorem tw_c' {j : Nat} (h : c ≠ a) (h2 : j ≠ k) : tp_w I a c k b n c j = I c j := by
  simp only [tp_w]; grind
end TPW
/-- byte i of a number, the highest first -/
def p_bt (x : Int32) (i : Nat) : Int32 := (x >>> (nI (24 - 8 * i) &&& 31)) &&& 255
theorem tb_255 (k : Nat) (h : k < 32) : tb 255 k = decide (k < 8) := (by decide +kernel : ∀ k, k < 32 → tb 255 k = decide (k < 8)) k h
theorem tb_su : ∀ n, n < 32 → (((nI n).toUInt32 &&& Int32.toUInt32 31).toBitVec % 32).toNat = n := by decide +kernel
theorem p_bt_u (x : Int32) (n : Nat) (hn : n ≤ 24) : ((x.toUInt32 >>> ((nI n).toUInt32 &&& Int32.toUInt32 31)).toInt32) &&& 255 = (x >>> (nI n &&& 31)) &&& 255 := by
  apply tb_ext
  intro k hk
  rw [tb_and, tb_and, tb_255 k hk]
  by_cases h : k < 8
  · rw [tb_shr (by omega) (by omega)]
    have : tb ((x.toUInt32 >>> ((nI n).toUInt32 &&& Int32.toUInt32 31)).toInt32) k = tb x (n + k) := by
      unfold tb
      show (x.toUInt32 >>> ((nI n).toUInt32 &&& Int32.toUInt32 31)).toBitVec.getLsbD k = _
      rw [UInt32.toBitVec_shiftRight, BitVec.ushiftRight_eq', BitVec.getLsbD_ushiftRight, tb_su n (by omega)]
      rfl
    rw [this]
  · simp [h]
theorem p_bt_m : ∀ i, i < 4 → (8 : Int32) * (3 - nI i) = nI (24 - 8 * i) := by decide
theorem p_bt_r : ∀ k, k < 20 → (24 : Int32) - 8 * (nI k - nI k / 4 * 4) = nI (24 - 8 * (k % 4)) := by decide
/-- how many of k are not 0, from i on -/
def p_nz (f : Nat → Int32) : Nat → Nat → Nat
  | 0, _ => 0
  | k + 1, i => (if f i = 0 then 0 else 1) + p_nz f k (i + 1)
def p_st (x : Int32) (D : (Nat → Int32) × Nat) : (Nat → Int32) × Nat := if x = 0 then D else (p_upf D.1 D.2 x, D.2 + 1)
def p_app (f : Nat → Int32) : Nat → Nat → (Nat → Int32) × Nat → (Nat → Int32) × Nat
  | 0, _, D => D
  | k + 1, i, D => p_app f k (i + 1) (p_st (f i) D)
theorem p_nz_le (f : Nat → Int32) : ∀ k i, p_nz f k i ≤ k
  | 0, _ => Nat.le_refl 0
  | k + 1, i => by
    have := p_nz_le f k (i + 1)
    rw [p_nz]
    split <;> omega
theorem p_app_n (f : Nat → Int32) : ∀ (k i : Nat) (D : (Nat → Int32) × Nat), (p_app f k i D).2 = D.2 + p_nz f k i
  | 0, _, _ => rfl
  | k + 1, i, D => by
    rw [p_app, p_app_n f k (i + 1), p_nz, p_st]
    split <;> simp <;> omega
section FEED
variable {G : tm_G} {I : Nat → Nat → Int32} {J : Nat → Nat → Int64} {R : Nat → Nat → Option Nat}
theorem c69 (d : Nat) (x : Int32) {i : Nat} (hi : i < 4) (h : tm_H) (K : Option Value → tm_H → Prop) : tm_R d 69 [.int x, .int (nI i)] h K ↔ K (some (.int (p_bt x i))) h := by
  rw [e69]
  simp only [r69_0, r69_1, r69_3, r69_4, r69_5, r69_6, r69_7, r69_8, r69_11, r69_12, p_bt_m i hi, p_bt_u x _ (show 24 - 8 * i ≤ 24 by omega), tm_in, or_true, true_or, tm_cs0, tm_cs1, tm_cs2, tm_cs3, tm_cs4, true_and, and_true, and_self, Option.toList_some, Option.toList_none, List.cons_append, List.nil_append, tm_rf_some, tm_rf_none]
  rfl
theorem c70_l (d : Nat) (x : Int32) (h : tm_H) (K : Option Value → tm_H → Prop) : ∀ (k i m : Nat), i + k = 4 → (tm_A (d + 1) 70 4 [some (.int x), some (.int (nI m)), some (.int (nI i))] [] h K ↔ K (some (.int (nI (m + p_nz (p_bt x) k i)))) h) := by
  intro k
  induction k with
  | zero =>
    intro i m hi
    have hi : i = 4 := by omega
    subst hi
    have hc : (4 : Int32) ≤ nI 4 := by decide
    rw [r70_4]
    simp only [r70_0, r70_1, r70_2, r70_3, r70_5, r70_6, r70_9, r70_10, r70_11, r70_14, r70_17, r70_20, r70_23, r70_26, r70_27, hc, if_true, p_nz, Nat.add_zero, tm_in, or_true, true_or, tm_cs0, tm_cs1, tm_cs2, tm_cs3, tm_cs4, true_and, and_true, and_self, Option.toList_some, Option.toList_none, List.cons_append, List.nil_append, tm_rf_some, tm_rf_none]
  | succ k ih =>
    intro i m hi
    have hc : ¬ (4 : Int32) ≤ nI i := fun z => by
      have := (q_le (a := 4) (b := i) rfl rfl (by decide) (by omega)).mp z
      omega
    rw [r70_4]
    simp only [r70_0, r70_1, r70_2, r70_3, r70_5, r70_6, r70_9, r70_10, r70_11, r70_14, r70_17, r70_20, r70_23, r70_26, r70_27, hc, if_false, c69 _ x (show i < 4 by omega), nI_1, tm_in, or_true, true_or, tm_cs0, tm_cs1, tm_cs2, tm_cs3, tm_cs4, true_and, and_true, and_self, Option.toList_some, Option.toList_none, List.cons_append, List.nil_append, tm_rf_some, tm_rf_none]
    rw [p_nz]
    by_cases h0 : p_bt x i = 0
    · simp only [h0, if_true, Nat.zero_add]
      exact ih (i + 1) m (by omega)
    · simp only [h0, if_false]
      rw [← Nat.add_assoc]
      exact ih (i + 1) (m + 1) (by omega)
theorem c70 (d : Nat) (x : Int32) (h : tm_H) (K : Option Value → tm_H → Prop) : tm_R (d + 1) 70 [.int x] h K ↔ K (some (.int (nI (p_nz (p_bt x) 4 0)))) h := by
  rw [e70]
  simp only [r70_0, r70_1, r70_2, r70_3]
  rw [show nI (p_nz (p_bt x) 4 0) = nI (0 + p_nz (p_bt x) 4 0) by rw [Nat.zero_add]]
  exact c70_l d x h K 4 0 0 rfl
theorem c72_l (d : Nat) (x : Int32) (K : Option Value → tm_H → Prop) (hS : tp_S G) (hR : tp_R R) : ∀ (k i n : Nat) (b : Nat → Int32) (o : Option Value), i + k = 4 → n + p_nz (p_bt x) k i ≤ 100 → (tm_A (d + 1) 72 2 [some (.ref 4), some (.int x), some (.int (nI i)), o] [] (G, tp_w I 5 4 1 b n, J, R) K ↔ K none (G, tp_w I 5 4 1 (p_app (p_bt x) k i (b, n)).1 (p_app (p_bt x) k i (b, n)).2, J, R)) := by
  intro k
  induction k with
  | zero =>
    intro i n b o hi hn
    have hi : i = 4 := by omega
    subst hi
    have hc : (4 : Int32) ≤ nI 4 := by decide
    rw [r72_2]
    simp only [r72_0, r72_1, r72_3, r72_4, r72_7, r72_8, r72_9, r72_12, r72_13, r72_14, r72_17, r72_18, r72_21, r72_23, r72_26, r72_27, r72_30, r72_31, r72_34, r72_35, r72_36, r72_37, r72_37i, r72_38, r72_41, r72_42, r72_43, r72_46, r72_49, r72_52, hc, if_true, p_app, tm_in, or_true, true_or, tm_cs0, tm_cs1, tm_cs2, tm_cs3, tm_cs4, true_and, and_true, and_self, Option.toList_some, Option.toList_none, List.cons_append, List.nil_append, tm_rf_some, tm_rf_none]
  | succ k ih =>
    intro i n b o hi hn
    have hc : ¬ (4 : Int32) ≤ nI i := fun z => by
      have := (q_le (a := 4) (b := i) rfl rfl (by decide) (by omega)).mp z
      omega
    rw [r72_2]
    simp only [r72_3, r72_4, r72_7, r72_8, r72_9, r72_12, r72_13, r72_14, hc, if_false, c69 _ x (show i < 4 by omega), tm_in, or_true, true_or, tm_cs0, tm_cs1, tm_cs2, tm_cs3, tm_cs4, true_and, and_true, and_self, Option.toList_some, Option.toList_none, List.cons_append, List.nil_append, tm_rf_some, tm_rf_none]
    rw [p_app, p_st]
    rw [p_nz] at hn
    by_cases h0 : p_bt x i = 0
    · simp only [h0, if_true, r72_46, r72_49, nI_1]
      rw [if_pos h0] at hn
      exact ih (i + 1) n b _ (by omega) (by omega)
    · rw [if_neg h0] at hn
      have z1 : ¬ (100 : Int32) ≤ nI n := fun z => by
        have := (q_le (a := 100) (b := n) rfl rfl (by decide) (by omega)).mp z
        omega
      have hin : tm_in (nI n) 100 := q_in (by omega) (by decide)
      simp only [h0, if_false, r72_17, r72_18, r72_21, r72_23, r72_26, r72_27, r72_30, r72_31, r72_34, r72_35, r72_36, r72_37, r72_37i, r72_38, r72_41, r72_42, r72_43, r72_46, r72_49, sh_4 hS, sh_5 hS, rf_4_0 hR, tw_c (show 4 ≠ 5 by decide), z1, hin, q_ix (show n < 2147483648 by omega), tw_ua, tw_uc (show 4 ≠ 5 by decide), nI_1, show 3 ≤ 5 by decide, tm_in, or_true, true_or, tm_cs0, tm_cs1, tm_cs2, tm_cs3, tm_cs4, true_and, and_true, and_self, Option.toList_some, Option.toList_none, List.cons_append, List.nil_append, tm_rf_some, tm_rf_none]
      exact ih (i + 1) (n + 1) _ _ (by omega) (by omega)
theorem c72 (d : Nat) (x : Int32) (K : Option Value → tm_H → Prop) (hS : tp_S G) (hR : tp_R R) {n : Nat} {b : Nat → Int32} (hn : n + p_nz (p_bt x) 4 0 ≤ 100) : tm_R (d + 1) 72 [.ref 4, .int x] (G, tp_w I 5 4 1 b n, J, R) K ↔ K none (G, tp_w I 5 4 1 (p_app (p_bt x) 4 0 (b, n)).1 (p_app (p_bt x) 4 0 (b, n)).2, J, R) := by
  rw [e72]
  simp only [r72_0, r72_1]
  exact c72_l d x K hS hR 4 0 n b none rfl hn
/-- the twenty bytes -/
def p_20 (a b c d e : Int32) (k : Nat) : Int32 := p_bt (if k < 4 then a else if k < 8 then b else if k < 12 then c else if k < 16 then d else e) (k % 4)
theorem p_20_n (a b c d e : Int32) : p_nz (p_bt a) 4 0 + p_nz (p_bt b) 4 0 + p_nz (p_bt c) 4 0 + p_nz (p_bt d) 4 0 + p_nz (p_bt e) 4 0 = p_nz (p_20 a b c d e) 20 0 := by
  simp only [p_nz, p_20, Nat.reduceAdd, Nat.reduceMod, Nat.reduceLT, if_true, if_false, Nat.zero_add, Nat.add_zero]
  omega
theorem p_20_a (a b c d e : Int32) (D : (Nat → Int32) × Nat) : p_app (p_bt e) 4 0 (p_app (p_bt d) 4 0 (p_app (p_bt c) 4 0 (p_app (p_bt b) 4 0 (p_app (p_bt a) 4 0 D)))) = p_app (p_20 a b c d e) 20 0 D := by
  simp only [p_app, p_20, Nat.reduceAdd, Nat.reduceMod, Nat.reduceLT, if_true, if_false, Nat.zero_add, Nat.add_zero]
theorem c87 (d : Nat) (x0 x1 x2 x3 x4 : Int32) (K : Option Value → tm_H → Prop) (hS : tp_S G) (hR : tp_R R) {n : Nat} {b : Nat → Int32} (hb : I 5 = b) (hn : I 4 1 = nI n) (hn100 : n ≤ 100) : tm_R (d + 2) 87 [.ref 3, .int x0, .int x1, .int x2, .int x3, .int x4] (G, I, J, R) K ↔ if n + p_nz (p_20 x0 x1 x2 x3 x4) 20 0 ≤ 100 then K (some (.int (nI (p_app (p_20 x0 x1 x2 x3 x4) 20 0 (b, n)).2))) (G, tp_w I 5 4 1 (p_app (p_20 x0 x1 x2 x3 x4) 20 0 (b, n)).1 (p_app (p_20 x0 x1 x2 x3 x4) 20 0 (b, n)).2, J, R) else K (some (.int (-1))) (G, I, J, R) := by
  have t := p_20_n x0 x1 x2 x3 x4
  have l := p_nz_le (p_20 x0 x1 x2 x3 x4) 20 0
  rw [e87]
  simp only [r87_0, r87_1, r87_4, r87_5, r87_8, r87_9, r87_10, r87_13, r87_14, r87_16, r87_19, r87_20, r87_22, r87_25, r87_26, r87_28, r87_29, r87_32, r87_35, r87_37, r87_38, r87_40, sh_3 hS, sh_4 hS, rf_3_0 hR, c70, c71 _ _ hS, hn, nI_add, t, tm_in, or_true, true_or, tm_cs0, tm_cs1, tm_cs2, tm_cs3, tm_cs4, true_and, and_true, and_self, Option.toList_some, Option.toList_none, List.cons_append, List.nil_append, tm_rf_some, tm_rf_none]
  by_cases h : n + p_nz (p_20 x0 x1 x2 x3 x4) 20 0 ≤ 100
  · have z : nI (n + p_nz (p_20 x0 x1 x2 x3 x4) 20 0) ≤ 100 := (q_le (b := 100) rfl rfl (by omega) (by decide)).mpr h
    have s : I = tp_w I 5 4 1 b n := (tw_self hb hn).symm
    rw [if_pos h, if_pos z, s]
    have i1 : tp_w (tp_w I 5 4 1 b n) 5 4 1 = tp_w I 5 4 1 := by
      funext b' n' y j
      simp only [tp_w]
      grind
    rw [i1, ← p_20_a]
    simp only [r87_45, r87_46, r87_49, r87_50, r87_53, r87_54, r87_57, r87_58, r87_61, r87_62, r87_65, r87_66, r87_69, r87_70, r87_73, r87_75, r87_78, r87_79, r87_82, r87_84, r87_87, r87_88, r87_91, r87_94, sh_3 hS, sh_4 hS, rf_3_0 hR, tm_in, or_true, true_or, tm_cs0, tm_cs1, tm_cs2, tm_cs3, tm_cs4, true_and, and_true, and_self, Option.toList_some, Option.toList_none, List.cons_append, List.nil_append, tm_rf_some, tm_rf_none]
    rw [c72 _ _ _ hS hR (by omega)]
    simp only [r87_45, r87_46, r87_49, r87_50, r87_53, r87_54, r87_57, r87_58, r87_61, r87_62, r87_65, r87_66, r87_69, r87_70, r87_73, r87_75, r87_78, r87_79, r87_82, r87_84, r87_87, r87_88, r87_91, r87_94, sh_3 hS, sh_4 hS, rf_3_0 hR, tm_in, or_true, true_or, tm_cs0, tm_cs1, tm_cs2, tm_cs3, tm_cs4, true_and, and_true, and_self, Option.toList_some, Option.toList_none, List.cons_append, List.nil_append, tm_rf_some, tm_rf_none]
    rw [c72 _ _ _ hS hR (by simp only [p_app_n]; omega)]
    simp only [r87_45, r87_46, r87_49, r87_50, r87_53, r87_54, r87_57, r87_58, r87_61, r87_62, r87_65, r87_66, r87_69, r87_70, r87_73, r87_75, r87_78, r87_79, r87_82, r87_84, r87_87, r87_88, r87_91, r87_94, sh_3 hS, sh_4 hS, rf_3_0 hR, tm_in, or_true, true_or, tm_cs0, tm_cs1, tm_cs2, tm_cs3, tm_cs4, true_and, and_true, and_self, Option.toList_some, Option.toList_none, List.cons_append, List.nil_append, tm_rf_some, tm_rf_none]
    rw [c72 _ _ _ hS hR (by simp only [p_app_n]; omega)]
    simp only [r87_45, r87_46, r87_49, r87_50, r87_53, r87_54, r87_57, r87_58, r87_61, r87_62, r87_65, r87_66, r87_69, r87_70, r87_73, r87_75, r87_78, r87_79, r87_82, r87_84, r87_87, r87_88, r87_91, r87_94, sh_3 hS, sh_4 hS, rf_3_0 hR, tm_in, or_true, true_or, tm_cs0, tm_cs1, tm_cs2, tm_cs3, tm_cs4, true_and, and_true, and_self, Option.toList_some, Option.toList_none, List.cons_append, List.nil_append, tm_rf_some, tm_rf_none]
    rw [c72 _ _ _ hS hR (by simp only [p_app_n]; omega)]
    simp only [r87_45, r87_46, r87_49, r87_50, r87_53, r87_54, r87_57, r87_58, r87_61, r87_62, r87_65, r87_66, r87_69, r87_70, r87_73, r87_75, r87_78, r87_79, r87_82, r87_84, r87_87, r87_88, r87_91, r87_94, sh_3 hS, sh_4 hS, rf_3_0 hR, tm_in, or_true, true_or, tm_cs0, tm_cs1, tm_cs2, tm_cs3, tm_cs4, true_and, and_true, and_self, Option.toList_some, Option.toList_none, List.cons_append, List.nil_append, tm_rf_some, tm_rf_none]
    rw [c72 _ _ _ hS hR (by simp only [p_app_n]; omega)]
    simp only [r87_45, r87_46, r87_49, r87_50, r87_53, r87_54, r87_57, r87_58, r87_61, r87_62, r87_65, r87_66, r87_69, r87_70, r87_73, r87_75, r87_78, r87_79, r87_82, r87_84, r87_87, r87_88, r87_91, r87_94, sh_3 hS, sh_4 hS, rf_3_0 hR, c71 _ _ hS, tw_c (show 4 ≠ 5 by decide), tm_in, or_true, true_or, tm_cs0, tm_cs1, tm_cs2, tm_cs3, tm_cs4, true_and, and_true, and_self, Option.toList_some, Option.toList_none, List.cons_append, List.nil_append, tm_rf_some, tm_rf_none]
  · have z : ¬ nI (n + p_nz (p_20 x0 x1 x2 x3 x4) 20 0) ≤ 100 := fun z => h ((q_le (b := 100) rfl rfl (by omega) (by decide)).mp z)
    simp only [h, z, if_false, r87_43, r87_44]
end FEED
