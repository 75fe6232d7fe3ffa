/-! The class: keys of groups. -/
def p_cv (x : Option Int) : Int32 := match x with
  | none => 1000
  | some c => iI c
abbrev p_rw (rest : Nat) : Nat → Nat := fun j => if rest.testBit j = true then 0 else 1
section CGP
variable {G : tm_G} {I : Nat → Nat → Int32} {J : Nat → Nat → Int64} {R : Nat → Nat → Option Nat} {m oc : Nat} {C : Nat → Nat → Int}
/-- what the class's grouping rests on -/
def cg_tab (I : Nat → Nat → Int32) (C : Nat → Nat → Int) (m : Nat) : Prop := (∀ r s, r < s → s < m → I (60 + 1 * r) s = iI (C r s)) ∧ iv_low I ∧ m ≤ 10 ∧ ∀ r s, r < s → s < m → C r s = 1000 ∨ (-36 ≤ C r s ∧ C r s ≤ 19)
theorem c24 (d : Nat) {r : Nat} (hr : r < 10) (h : tm_H) (K : Option Value → tm_H → Prop) : tm_R d 24 [.int (nI r)] h K ↔ K (some (.int (nI (4 * (9 - r))))) h := by
  have e : (4 : Int32) * (9 - nI r) = nI (4 * (9 - r)) := (by decide : ∀ r, r < 10 → (4 : Int32) * (9 - nI r) = nI (4 * (9 - r))) r hr
  rw [e24]
  simp only [r24_0, r24_1, r24_3, r24_4, r24_5, r24_6, e, tm_in, or_true, true_or, tm_cs0, tm_cs1, tm_cs2, tm_cs3, tm_cs4, true_and, and_true, and_self, Option.toList_some, Option.toList_none, List.cons_append, List.nil_append, tm_rf_some, tm_rf_none]
theorem c61 (d : Nat) (K : Option Value → tm_H → Prop) (hS : tp_S G) (hR : tp_R R) {a b : Nat} (ha : a < 10) (hb : b < 10) : tm_R d 61 [.ref 58, .int (nI a), .int (nI b)] (G, I, J, R) K ↔ K (some (.int (I (60 + 1 * a) b))) (G, I, J, R) := by
  have n1 : ¬ nI a < 0 := nI_pos (by omega)
  have n2 : ¬ nI b < 0 := nI_pos (by omega)
  have n3 : ¬ (10 : Int32) ≤ nI a := fun q => by
    have := (q_le (a := 10) (b := a) rfl rfl (by decide) (by omega)).mp q
    omega
  have n4 : ¬ (10 : Int32) ≤ nI b := fun q => by
    have := (q_le (a := 10) (b := b) rfl rfl (by decide) (by omega)).mp q
    omega
  have i1 : tm_in (nI a) 10 := q_in ha (by decide)
  have i2 : tm_in (nI b) 10 := q_in hb (by decide)
  rw [e61]
  simp only [r61_0, r61_1, r61_4, r61_5, r61_7, r61_10, r61_11, r61_14, r61_15, r61_17, r61_20, r61_21, r61_24, r61_25, r61_26, r61_27, r61_30, r61_31, r61_34, r61_35, r61_36, r61_37, r61_38, r61_41, r61_44, n1, n2, n3, n4, if_false, show ¬ (1 : Int32) = 0 by decide, sh_58 hS, sh_59 hS, rf_58_0 hR, rf_P hR ha, sh_P hS ha, i1, i2, q_ix (show a < 2147483648 by omega), q_ix (show b < 2147483648 by omega), tm_in, or_true, true_or, tm_cs0, tm_cs1, tm_cs2, tm_cs3, tm_cs4, true_and, and_true, and_self, Option.toList_some, Option.toList_none, List.cons_append, List.nil_append, tm_rf_some, tm_rf_none]
theorem c62 (d : Nat) (K : Option Value → tm_H → Prop) (hS : tp_S G) (hR : tp_R R) {a : Nat} (ha : a < 10) : tm_R d 62 [.ref 58, .int (nI a)] (G, I, J, R) K ↔ K (some (.int (I 70 a))) (G, I, J, R) := by
  have n1 : ¬ nI a < 0 := nI_pos (by omega)
  have n3 : ¬ (10 : Int32) ≤ nI a := fun q => by
    have := (q_le (a := 10) (b := a) rfl rfl (by decide) (by omega)).mp q
    omega
  have i1 : tm_in (nI a) 10 := q_in ha (by decide)
  rw [e62]
  simp only [r62_0, r62_1, r62_4, r62_5, r62_7, r62_10, r62_11, r62_14, r62_15, r62_16, r62_19, r62_20, n1, n3, if_false, sh_58 hS, sh_70 hS, rf_58_1 hR, i1, q_ix (show a < 2147483648 by omega), tm_in, or_true, true_or, tm_cs0, tm_cs1, tm_cs2, tm_cs3, tm_cs4, true_and, and_true, and_self, Option.toList_some, Option.toList_none, List.cons_append, List.nil_append, tm_rf_some, tm_rf_none]
theorem c26_l (d : Nat) (K : Option Value → tm_H → Prop) (hS : tp_S G) (hR : tp_R R) (hT : cg_tab I C m) {t rest : Nat} (ht : t < m) : ∀ (n r : Nat) (c : Int) (o : Option Value), r + n = t → (tm_A (d + 1) 26 5 [some (.int (nI t)), some (.int (nI rest)), some (.ref 58), some (.int (iI c)), some (.int (nI r)), o] [] (G, I, J, R) K ↔ K (some (.int (p_cv (p_jn (p_rw rest) C (fun _ _ => false) t 0 n r c)))) (G, I, J, R)) := by
  obtain ⟨t1, t2, t3, t4⟩ := hT
  intro n
  induction n with
  | zero =>
    intro r c o hr
    have : r = t := by omega
    subst this
    have hc : nI r ≤ nI r := Int32.le_refl _
    rw [r26_5]
    simp only [r26_7, r26_8, r26_57, r26_58, hc, if_true, p_jn, p_cv]
  | succ n ih =>
    intro r c o hr
    have hc : ¬ nI t ≤ nI r := fun z => by
      have := (q_le (a := t) (b := r) rfl rfl (by omega) (by omega)).mp z
      omega
    have hbit : (nI rest >>> (nI r &&& 31)) &&& 1 = 1 ↔ rest.testBit r = true := by
      rw [tb_bit (by omega), tb_nI _ _ (by omega)]
    rw [r26_5, p_jn]
    simp only [r26_7, r26_8, r26_11, r26_12, r26_14, r26_15, r26_16, r26_17, r26_18, hc, if_false, hbit]
    by_cases h1 : rest.testBit r = true
    · have hC := t4 r t (by omega) ht
      have e1 := t1 r t (by omega) ht
      have hC1 : iI (C r t) = 1000 ↔ C r t = 1000 := iI_eq (b := 1000) (by omega) (by omega)
      have hw : p_rw rest r = 0 := by show (if rest.testBit r = true then 0 else 1) = 0; rw [if_pos h1]
      rw [if_pos hw]
      simp only [h1, not_true, if_false, r26_21, r26_21n, r26_22, r26_24, r26_25, r26_28, r26_31, r26_32, r26_34, r26_36, r26_39, sh_58 hS, c61 _ _ hS hR (show r < 10 by omega) (show t < 10 by omega), e1, hC1, tm_in, or_true, true_or, tm_cs0, tm_cs1, tm_cs2, tm_cs3, tm_cs4, true_and, and_true, and_self, Option.toList_some, Option.toList_none, List.cons_append, List.nil_append, tm_rf_some, tm_rf_none]
      by_cases h2 : C r t = 1000
      · simp only [h2, not_true, if_true, if_false, r26_42, r26_45, p_cv]
      · simp only [h2, not_false_eq_true, if_true, if_false, r26_46, r26_47, r26_49, r26_50, r26_51, r26_54, iI_add, nI_1]
        exact ih (r + 1) _ _ (by omega)
    · have hw : ¬ p_rw rest r = 0 := by show ¬ (if rest.testBit r = true then 0 else 1) = 0; rw [if_neg h1]; decide
      rw [if_neg hw]
      have hz : ¬ (0 : Int32) = 1000 := by decide
      simp only [h1, not_false_eq_true, if_true, r26_31, r26_32, r26_34, r26_36, r26_39, hz, r26_46, r26_47, r26_49, r26_50, r26_51, r26_54, Int32.add_zero, nI_1, Bool.false_eq_true, if_false]
      exact ih (r + 1) _ _ (by omega)
theorem c26 (d : Nat) (K : Option Value → tm_H → Prop) (hS : tp_S G) (hR : tp_R R) (hT : cg_tab I C m) {t rest : Nat} (ht : t < m) : tm_R (d + 1) 26 [.int (nI t), .int (nI rest), .ref 58] (G, I, J, R) K ↔ K (some (.int (p_cv (p_jn (p_rw rest) C (fun _ _ => false) t 0 t 0 0)))) (G, I, J, R) := by
  rw [e26]
  simp only [r26_0, r26_1, r26_2, r26_3]
  exact c26_l d K hS hR hT ht t 0 0 none (by omega)
/-- the key of a group, as the row has it -/
def cg_kr (C : Nat → Nat → Int) (oc m : Nat) (y : Nat → Int64) (g : Nat) : Prop := (gp_nb C m g → y g = lI (gp_key C oc m g (fun _ => p_low 10 g))) ∧ (¬ gp_nb C m g → y g = lI gp_NV)
theorem low_up {t rest : Nat} (ht : t < 10) (h1 : 1 ≤ rest) (hr : rest < 2 ^ t) : p_low 10 (2 ^ t + rest) = p_low 10 rest ∧ p_low 10 rest < t := by
  have h2t : (2 : Nat) ^ t ≤ 2 ^ 9 := Nat.pow_le_pow_right (by decide) (by omega)
  have l1 := low_gp h1 (show rest < 1024 by omega)
  have l2 := low_gp (s := 2 ^ t + rest) (by omega) (by omega)
  have hlt : p_low 10 rest < t := by
    apply Nat.lt_of_not_le
    intro z
    have := l1.1
    rw [bit_lt hr z] at this
    exact absurd this (by decide)
  refine ⟨gp_low_u l2 ⟨?_, fun r hr2 => ?_⟩, hlt⟩
  · rw [bit_pow hr, l1.1]; simp
  · rw [bit_pow hr]
    have hne : ¬ r = t := by omega
    simp only [hne, decide_false, Bool.false_or]
    exact l1.2 r hr2
theorem low_pow {t : Nat} (ht : t < 10) : p_low 10 (2 ^ t) = t := by
  have h2t : (2 : Nat) ^ t ≤ 2 ^ 9 := Nat.pow_le_pow_right (by decide) (by omega)
  have hp : 0 < (2 : Nat) ^ t := Nat.pow_pos (by decide)
  exact gp_low_u (low_gp (s := 2 ^ t) (by omega) (by omega)) ⟨Nat.testBit_two_pow_self, fun r hr => by rw [Nat.testBit_two_pow_of_ne (by omega)]; decide⟩
theorem p16 (t : Nat) : (2 : Int) ^ (4 * (9 - t)) = 16 ^ (9 - t) := by rw [Int.pow_mul]; rfl
theorem gp_nb_const {g l : Nat} (hm : m ≤ 10) (hC : ∀ j r, -1000 ≤ C j r ∧ C j r ≤ 1000) (hoc : oc ≤ 100) (hl : l ≤ 9) : -288230376151711744 < gp_key C oc m g (fun _ => l) ∧ gp_key C oc m g (fun _ => l) < 288230376151711744 := gp_key_bd hm hC (by omega) (fun r _ _ => by show l ≤ 15; omega)
theorem c25_l (d : Nat) (K : Option Value → tm_H → Prop) (hS : tp_S G) (hR : tp_R R) (hT : cg_tab I C m) (hC : ∀ j r, -1000 ≤ C j r ∧ C j r ≤ 1000) (hoc : oc ≤ 100) {t : Nat} (ht : t < m) (o3 : Option Value) : ∀ (n rest : Nat) (y : Nat → Int64) (o6 o7 o8 o9 : Option Value), rest + n = 2 ^ t → 1 ≤ rest → (∀ g, 1 ≤ g → g < 2 ^ t + rest → cg_kr C oc m y g) → (∀ y', (∀ g, 1 ≤ g → g < 2 ^ t + 2 ^ t → cg_kr C oc m y' g) → K none (G, I, upr J 72 y', R)) → tm_A (d + 2) 25 28 [some (.ref 71), some (.int (nI t)), some (.ref 58), o3, some (.int (nI (2 ^ t))), some (.int (nI rest)), o6, o7, o8, o9] [] (G, I, upr J 72 y, R) K := by
  have t2 := hT.2.1
  have t3 := hT.2.2.1
  have t4 := hT.2.2.2
  have h2t : (2 : Nat) ^ t ≤ 2 ^ 9 := Nat.pow_le_pow_right (by decide) (by omega)
  intro n
  induction n with
  | zero =>
    intro rest y o6 o7 o8 o9 hr h1 hy hK
    have : rest = 2 ^ t := by omega
    subst this
    have hc : nI (2 ^ t) ≤ nI (2 ^ t) := Int32.le_refl _
    rw [r25_28]
    simp only [r25_30, r25_32, r25_132, hc, if_true]
    exact hK y hy
  | succ n ih =>
    intro rest y o6 o7 o8 o9 hr h1 hy hK
    have hrl : rest < 2 ^ t := by omega
    have hc : ¬ nI (2 ^ t) ≤ nI rest := fun z => by
      have := (q_le (a := 2 ^ t) (b := rest) rfl rfl (by omega) (by omega)).mp z
      omega
    have ir : tm_in (nI rest) 1024 := q_in (by omega) (by decide)
    have ib : tm_in (nI (2 ^ t + rest)) 1024 := q_in (by omega) (by decide)
    have eor : nI (2 ^ t) ||| nI rest = nI (2 ^ t + rest) := by rw [nI_or, or_pow hrl]
    obtain ⟨lu, llt⟩ := low_up (show t < 10 by omega) h1 hrl
    have el : I 74 rest = nI (p_low 10 rest) := t2 rest h1 (by omega)
    have hkr := hy rest h1 (by omega)
    have hnb := gp_nb_up (C := C) (m := m) ht hrl
    have kb := gp_nb_const (C := C) (m := m) (g := rest) (l := p_low 10 rest) t3 hC hoc (by omega)
    have ed : (nI (p_low 10 rest)).toInt64 <<< ((nI (4 * (9 - t))).toInt64 &&& 63) = lI ((p_low 10 rest : Int) * 16 ^ (9 - t)) := by
      rw [← iI_nat, lI_i (by omega) (by omega), lI_shl _ (by omega), p16]
    have hyr : (upr J 72 y) 72 rest = y rest := by rw [upr_at]
    have fin : ∀ (v : Int64) (o6 o7 o8 o9 : Option Value), cg_kr C oc m (fun k => if k = 2 ^ t + rest then v else y k) (2 ^ t + rest) → tm_A (d + 2) 25 125 [some (.ref 71), some (.int (nI t)), some (.ref 58), o3, some (.int (nI (2 ^ t))), some (.int (nI rest)), o6, o7, o8, o9] [.long v, .int (nI (2 ^ t + rest)), .ref 72] (G, I, upr J 72 y, R) K := fun v o6 o7 o8 o9 hv => by
      simp only [r25_125, r25_126, r25_129, sh_72 hS, ib, q_ix (show 2 ^ t + rest < 2147483648 by omega), up2_upr, nI_1, show 3 ≤ 72 by decide, tm_in, or_true, true_or, tm_cs0, tm_cs1, tm_cs2, tm_cs3, tm_cs4, true_and, and_true, and_self, Option.toList_some, Option.toList_none, List.cons_append, List.nil_append, tm_rf_some, tm_rf_none]
      refine ih (rest + 1) _ _ _ _ _ (by omega) (by omega) (fun g hg1 hg2 => ?_) hK
      by_cases e : g = 2 ^ t + rest
      · rw [e]; exact hv
      · have := hy g hg1 (by omega)
        unfold cg_kr
        simp only [e, if_false]
        exact this
    rw [r25_28]
    simp only [r25_30, r25_32, r25_35, r25_36, r25_38, r25_38n, r25_39, r25_42, r25_44, r25_46, r25_49, hc, if_false, sh_71 hS, c26 _ _ hS hR hT ht, tm_in, or_true, true_or, tm_cs0, tm_cs1, tm_cs2, tm_cs3, tm_cs4, true_and, and_true, and_self, Option.toList_some, Option.toList_none, List.cons_append, List.nil_append, tm_rf_some, tm_rf_none]
    have t74 : ∀ (ls : tm_Lo) (st : List Value) (K' : Option Value → tm_H → Prop), True := fun _ _ _ => trivial
    cases hj : p_jn (p_rw rest) C (fun _ _ => false) t 0 t 0 0 with
    | none =>
      obtain ⟨i, hi1, hi2, hi3⟩ := p_jn_none t 0 0 hj
      have hbad : rest.testBit i = true ∧ C i t = 1000 := by
        rcases hi3 with ⟨a, b⟩ | ⟨a, b⟩
        · refine ⟨?_, b⟩
          by_cases z : rest.testBit i = true
          · exact z
          · have a' : (if rest.testBit i = true then 0 else 1) = 0 := a
            rw [if_neg z] at a'
            exact absurd a' (by decide)
        · exact absurd b (by decide)
      have hnn : ¬ gp_nb C m (2 ^ t + rest) := fun z => (hnb.mp z).2 i (by omega) hbad.1 hbad.2
      have e1000 : p_cv none = 1000 := rfl
      simp only [e1000, if_true, r25_66, r25_67, r25_70, r25_71, r25_73, r25_74, r25_77, r25_79, r25_80, r25_81, r25_82, r25_85, r25_86, r25_88, r25_89, r25_92, r25_94, r25_96, r25_97, r25_99, r25_102, r25_105, sh_71 hS, sh_74 hS, rf_71_2 hR, rf_71_0 hR, ir, q_ix (show rest < 2147483648 by omega), el, c24 _ (show t < 10 by omega), eor, show ¬ (1 : Int32) = 0 by decide, if_false, tm_in, or_true, true_or, tm_cs0, tm_cs1, tm_cs2, tm_cs3, tm_cs4, true_and, and_true, and_self, Option.toList_some, Option.toList_none, List.cons_append, List.nil_append, tm_rf_some, tm_rf_none]
      exact fin _ _ _ _ _ ⟨fun z => absurd z hnn, fun _ => by show (if 2 ^ t + rest = 2 ^ t + rest then _ else _) = _; rw [if_pos rfl]; exact lI_nv⟩
    | some c =>
      obtain ⟨hsum, hok⟩ := p_jn_some t 0 0 c hj
      have hsum' : gp_s (fun j => if rest.testBit j = true then C j t else 0) t = c := by
        have e0 : gp_s (fun i => if p_rw rest i = 0 then C i t else 0) 0 = 0 := rfl
        rw [Nat.zero_add] at hsum
        have e1 : gp_s (fun i => if p_rw rest i = 0 then C i t else 0) t = gp_s (fun j => if rest.testBit j = true then C j t else 0) t := gp_s_congr (fun j _ => by
          by_cases z : rest.testBit j = true
          · have e : p_rw rest j = 0 := if_pos z
            rw [if_pos e, if_pos z]
          · have e : p_rw rest j = 1 := if_neg z
            rw [if_neg (by rw [e]; decide), if_neg z])
        omega
      have hnc : ∀ j, j < t → rest.testBit j = true → C j t ≠ 1000 := fun j hj2 hb => (hok j (by omega) (by omega)).1 (by show (if rest.testBit j = true then 0 else 1) = 0; rw [if_pos hb])
      have hbd := gp_s_bd (g := fun j => if rest.testBit j = true then C j t else 0) (B := 36) t (fun r hr2 => by
        show -(36 : Int) ≤ (if rest.testBit r = true then C r t else 0) ∧ (if rest.testBit r = true then C r t else 0) ≤ 36
        by_cases z : rest.testBit r = true
        · rw [if_pos z]
          have := (t4 r t hr2 ht).resolve_left (hnc r hr2 z)
          omega
        · rw [if_neg z]; omega)
      rw [hsum'] at hbd
      have ht36 : t * 36 ≤ 360 := by omega
      have hc1000 : ¬ p_cv (some c) = 1000 := fun z => by
        have := (iI_eq (a := c) (b := 1000) (by omega) (by omega)).mp z
        omega
      have hcmp : lg_cmp (y rest) 1152921504606846976 = 0 ↔ ¬ gp_nb C m rest := by
        rw [lg_cmp_0, lI_nv]
        by_cases z : gp_nb C m rest
        · rw [hkr.1 z, lI_eq (by omega) (by unfold gp_NV; omega)]
          constructor
          · intro w; unfold gp_NV at w; omega
          · intro w; exact absurd z w
        · rw [hkr.2 z]
          exact ⟨fun _ => z, fun _ => rfl⟩
      simp only [hc1000, if_false, r25_52, r25_53, r25_56, r25_58, r25_59, r25_62, r25_63, sh_71 hS, sh_72 hS, rf_71_0 hR, ir, q_ix (show rest < 2147483648 by omega), hyr, tm_in, or_true, true_or, tm_cs0, tm_cs1, tm_cs2, tm_cs3, tm_cs4, true_and, and_true, and_self, Option.toList_some, Option.toList_none, List.cons_append, List.nil_append, tm_rf_some, tm_rf_none]
      by_cases hnr : gp_nb C m rest
      · have hnn : gp_nb C m (2 ^ t + rest) := hnb.mpr ⟨hnr, hnc⟩
        have hcz : ¬ lg_cmp (y rest) 1152921504606846976 = 0 := fun z => hcmp.mp z hnr
        have e40 : (iI c).toInt64 <<< ((40 : Int32).toInt64 &&& 63) = lI (c * 1099511627776) := by
          rw [lI_i (by omega) (by omega), show (40 : Int32) = nI 40 from rfl, lI_shl _ (by decide)]
          rfl
        have hcv : p_cv (some c) = iI c := rfl
        rw [if_pos hcz]
        simp only [r25_70, r25_71, r25_73, r25_74, r25_77, r25_79, r25_80, r25_81, r25_82, r25_85, r25_86, r25_88, r25_89, r25_92, r25_94, r25_96, r25_97, r25_99, sh_71 hS, sh_74 hS, rf_71_2 hR, rf_71_0 hR, ir, q_ix (show rest < 2147483648 by omega), el, c24 _ (show t < 10 by omega), eor, if_true, r25_108, r25_109, r25_112, r25_114, r25_115, r25_117, r25_118, r25_120, r25_121, r25_122, r25_124, sh_72 hS, hyr, hcv, e40, ed, hkr.1 hnr, lI_add, tm_in, or_true, true_or, tm_cs0, tm_cs1, tm_cs2, tm_cs3, tm_cs4, true_and, and_true, and_self, Option.toList_some, Option.toList_none, List.cons_append, List.nil_append, tm_rf_some, tm_rf_none]
        refine fin _ _ _ _ _ ⟨fun _ => ?_, fun z => absurd hnn z⟩
        show (if 2 ^ t + rest = 2 ^ t + rest then _ else _) = _
        rw [if_pos rfl, lu, gp_key_up ht hrl (show p_low 10 rest ≠ t by omega), hsum']
      · have hnn : ¬ gp_nb C m (2 ^ t + rest) := fun z => hnr (hnb.mp z).1
        have hcz : lg_cmp (y rest) 1152921504606846976 = 0 := hcmp.mpr hnr
        rw [if_neg (fun z => z hcz)]
        simp only [r25_66, r25_67, r25_70, r25_71, r25_73, r25_74, r25_77, r25_79, r25_80, r25_81, r25_82, r25_85, r25_86, r25_88, r25_89, r25_92, r25_94, r25_96, r25_97, r25_99, r25_102, r25_105, sh_71 hS, sh_74 hS, rf_71_2 hR, rf_71_0 hR, ir, q_ix (show rest < 2147483648 by omega), el, c24 _ (show t < 10 by omega), eor, show ¬ (1 : Int32) = 0 by decide, if_false, tm_in, or_true, true_or, tm_cs0, tm_cs1, tm_cs2, tm_cs3, tm_cs4, true_and, and_true, and_self, Option.toList_some, Option.toList_none, List.cons_append, List.nil_append, tm_rf_some, tm_rf_none]
        exact fin _ _ _ _ _ ⟨fun z => absurd z hnn, fun _ => by show (if 2 ^ t + rest = 2 ^ t + rest then _ else _) = _; rw [if_pos rfl]; exact lI_nv⟩
end CGP
