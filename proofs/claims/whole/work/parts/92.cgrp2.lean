/-! The class: keys up to a report, torn groups, the least of a set. -/
section CG2
variable {G : tm_G} {I : Nat → Nat → Int32} {J : Nat → Nat → Int64} {R : Nat → Nat → Option Nat} {m oc : Nat} {C : Nat → Nat → Int}
theorem c25 (d : Nat) (K : Option Value → tm_H → Prop) (hS : tp_S G) (hR : tp_R R) (hT : cg_tab I C m) (hC : ∀ j r, -1000 ≤ C j r ∧ C j r ≤ 1000) (hoc : oc ≤ 100) {t : Nat} (ht : t < m) {y : Nat → Int64} (hy : ∀ g, 1 ≤ g → g < 2 ^ t → cg_kr C oc m y g) (hK : ∀ y', (∀ g, 1 ≤ g → g < 2 ^ (t + 1) → cg_kr C oc m y' g) → K none (G, I, upr J 72 y', R)) : tm_R (d + 2) 25 [.ref 71, .int (nI t), .ref 58, .int (nI oc)] (G, I, upr J 72 y, R) K := by
  have t3 := hT.2.2.1
  have h2t : (2 : Nat) ^ t ≤ 2 ^ 9 := Nat.pow_le_pow_right (by decide) (by omega)
  have hp : 0 < (2 : Nat) ^ t := Nat.pow_pos (by decide)
  have ib : tm_in (nI (2 ^ t)) 1024 := q_in (by omega) (by decide)
  have e40 : (nI oc).toInt64 <<< ((40 : Int32).toInt64 &&& 63) = lI ((oc : Int) * 1099511627776) := by
    rw [← iI_nat, lI_i (by omega) (by omega), show (40 : Int32) = nI 40 from rfl, lI_shl _ (by decide)]
    rfl
  have ed : (nI t).toInt64 <<< ((nI (4 * (9 - t))).toInt64 &&& 63) = lI ((t : Int) * 16 ^ (9 - t)) := by
    rw [← iI_nat, lI_i (by omega) (by omega), lI_shl _ (by omega), p16]
  rw [e25]
  simp only [r25_0, r25_1, r25_2, r25_3, r25_5, r25_6, r25_9, r25_11, r25_12, r25_13, r25_15, r25_16, r25_17, r25_18, r25_19, r25_22, r25_23, r25_24, r25_25, r25_26, nI_1s (show t < 31 by omega), sh_71 hS, sh_72 hS, rf_71_0 hR, e40, ed, lI_add, c24 _ (show t < 10 by omega), ib, q_ix (show 2 ^ t < 2147483648 by omega), up2_upr, show 3 ≤ 72 by decide, tm_in, or_true, true_or, tm_cs0, tm_cs1, tm_cs2, tm_cs3, tm_cs4, true_and, and_true, and_self, Option.toList_some, Option.toList_none, List.cons_append, List.nil_append, tm_rf_some, tm_rf_none]
  rw [show (1 : Int32) = nI 1 from rfl]
  refine c25_l d K hS hR hT hC hoc ht _ (2 ^ t - 1) 1 _ _ _ _ _ (by omega) (by decide) (fun g h1 h2 => ?_) (fun y' h => hK y' (fun g h1 h2 => h g h1 (by rw [Nat.pow_succ] at h2; omega)))
  by_cases e : g = 2 ^ t
  · subst e
    have hnb : gp_nb C m (2 ^ t) := fun j r hj hr h3 h4 => by
      have e3 : t = j := by
        rw [Nat.testBit_two_pow] at h3
        simpa using h3
      have e4 : t = r := by
        rw [Nat.testBit_two_pow] at h4
        simpa using h4
      omega
    refine ⟨fun _ => ?_, fun z => absurd hnb z⟩
    show (if 2 ^ t = 2 ^ t then _ else _) = _
    rw [if_pos rfl, low_pow (by omega), gp_key_1 ht]
  · have := hy g h1 (by omega)
    unfold cg_kr
    simp only [e, if_false]
    exact this
/-- a group that lacks a partner of one of its members -/
def tn1 (pt : Nat → Nat) (r g : Nat) : Bool := g.testBit r && decide (sdf (pt r) g ≠ 0)
def tns (pt : Nat → Nat) : Nat → Nat → Bool
  | 0, _ => false
  | r + 1, g => tns pt r g || tn1 pt r g
theorem c27_in (d : Nat) (K : Option Value → tm_H → Prop) (hS : tp_S G) (hR : tp_R R) (hm : m ≤ 10) (h71 : I 71 5 = nI m) {pt : Nat → Nat} {r : Nat} (hr : r < m) (hpt : pt r < 1024) {y0 : Nat → Int64} (o1 : Option Value) : ∀ (n s : Nat) (y : Nat → Int64), s + n = 2 ^ m → 1 ≤ s → (∀ g, 1 ≤ g → g < s → y g = if tn1 pt r g = true then lI gp_NV else y0 g) → (∀ g, s ≤ g → y g = y0 g) → (∀ y' o, (∀ g, 1 ≤ g → g < 2 ^ m → y' g = if tn1 pt r g = true then lI gp_NV else y0 g) → tm_A d 27 69 [some (.ref 71), o1, some (.int (nI r)), some (.int (nI (pt r))), o] [] (G, I, upr J 72 y', R) K) → tm_A d 27 19 [some (.ref 71), o1, some (.int (nI r)), some (.int (nI (pt r))), some (.int (nI s))] [] (G, I, upr J 72 y, R) K := by
  have h2m : (2 : Nat) ^ m ≤ 2 ^ 10 := Nat.pow_le_pow_right (by decide) hm
  have sz : ∀ x, sdf 0 x = 0 := fun x => by unfold sdf; simp
  intro n
  induction n with
  | zero =>
    intro s y hs h1 hy hy2 hK
    have : s = 2 ^ m := by omega
    subst this
    have hc : nI (2 ^ m) ≤ nI (2 ^ m) := Int32.le_refl _
    rw [r27_19]
    simp only [r27_21, r27_22, r27_23, r27_26, r27_27, sh_71 hS, h71, nI_1s (show m < 31 by omega), hc, if_true, tm_in, or_true, true_or, tm_cs0, tm_cs1, tm_cs2, tm_cs3, tm_cs4, true_and, and_true, and_self, Option.toList_some, Option.toList_none, List.cons_append, List.nil_append, tm_rf_some, tm_rf_none]
    exact hK y _ hy
  | succ n ih =>
    intro s y hs h1 hy hy2 hK
    have hc : ¬ nI (2 ^ m) ≤ nI s := fun z => by
      have := (q_le (a := 2 ^ m) (b := s) rfl rfl (by omega) (by omega)).mp z
      omega
    have is : tm_in (nI s) 1024 := q_in (by omega) (by decide)
    rw [r27_19]
    simp only [r27_21, r27_22, r27_23, r27_26, r27_27, r27_30, r27_31, sh_71 hS, h71, nI_1s (show m < 31 by omega), hc, if_false, tm_in, or_true, true_or, tm_cs0, tm_cs1, tm_cs2, tm_cs3, tm_cs4, true_and, and_true, and_self, Option.toList_some, Option.toList_none, List.cons_append, List.nil_append, tm_rf_some, tm_rf_none]
    by_cases hz : pt r = 0
    · have hz' : nI (pt r) = 0 := by rw [hz]; rfl
      rw [if_pos hz']
      refine hK y _ (fun g hg1 hg2 => ?_)
      have : tn1 pt r g = false := by unfold tn1; rw [hz, sz]; simp
      rw [this]
      by_cases hgs : g < s
      · have := hy g hg1 hgs
        rw [‹tn1 pt r g = false›] at this
        exact this
      · rw [hy2 g (by omega)]; rfl
    · have hz' : ¬ nI (pt r) = 0 := nI_ne0 (by omega) (by omega)
      have hbit : (nI s >>> (nI r &&& 31)) &&& 1 = 1 ↔ s.testBit r = true := by rw [tb_bit (by omega), tb_nI _ _ (by omega)]
      have hsl : sdf (pt r) s < 1024 := lt_of_bits (t := 10) (fun k hk => by rw [sdf_t, bit_lt (t := 10) hpt hk]; rfl)
      have hsd : nI (sdf (pt r) s) = 0 ↔ sdf (pt r) s = 0 := nI_eq (b := 0) (by omega) (by omega)
      have nxt : ∀ y', (∀ g, g ≠ s → y' g = y g) → (y' s = if tn1 pt r s = true then lI gp_NV else y0 s) → tm_A d 27 63 [some (.ref 71), o1, some (.int (nI r)), some (.int (nI (pt r))), some (.int (nI s))] [] (G, I, upr J 72 y', R) K := fun y' a1 a2 => by
        simp only [r27_63, r27_66, nI_1]
        refine ih (s + 1) y' (by omega) (by omega) (fun g hg1 hg2 => ?_) (fun g hg => ?_) hK
        · by_cases e : g = s
          · rw [e]; exact a2
          · rw [a1 g e]; exact hy g hg1 (by omega)
        · rw [a1 g (by omega)]; exact hy2 g (by omega)
      rw [if_neg hz']
      simp only [r27_34, r27_36, r27_37, r27_38, r27_39, r27_40, r27_41, hbit]
      by_cases hb : s.testBit r = true
      · simp only [hb, not_true, if_false, r27_44, r27_45, r27_47, r27_48, r27_49, r27_50, nI_sdf, hsd]
        by_cases hd : sdf (pt r) s = 0
        · rw [if_pos hd]
          refine nxt y (fun _ _ => rfl) ?_
          have : tn1 pt r s = false := by unfold tn1; rw [hd]; simp
          rw [this, hy2 s (Nat.le_refl s)]; rfl
        · rw [if_neg hd]
          simp only [r27_53, r27_54, r27_57, r27_59, r27_62, sh_71 hS, sh_72 hS, rf_71_0 hR, is, q_ix (show s < 2147483648 by omega), up2_upr, show 3 ≤ 72 by decide, tm_in, or_true, true_or, tm_cs0, tm_cs1, tm_cs2, tm_cs3, tm_cs4, true_and, and_true, and_self, Option.toList_some, Option.toList_none, List.cons_append, List.nil_append, tm_rf_some, tm_rf_none]
          refine nxt _ (fun g hg => if_neg hg) ?_
          have : tn1 pt r s = true := by unfold tn1; rw [hb]; simp [hd]
          rw [this, if_pos rfl, if_pos rfl]
          exact lI_nv
      · simp only [hb, not_false_eq_true, if_true, Bool.false_eq_true]
        refine nxt y (fun _ _ => rfl) ?_
        have : tn1 pt r s = false := by unfold tn1; simp [hb]
        rw [this, hy2 s (Nat.le_refl s)]; rfl
theorem c27_l (d : Nat) (K : Option Value → tm_H → Prop) (hS : tp_S G) (hR : tp_R R) (hm : m ≤ 10) (h71 : I 71 5 = nI m) {pt : Nat → Nat} (hpt : ∀ r, r < m → I 70 r = nI (pt r) ∧ pt r < 1024) {y0 : Nat → Int64} : ∀ (n r : Nat) (y : Nat → Int64) (o3 o4 : Option Value), r + n = m → (∀ g, 1 ≤ g → g < 2 ^ m → y g = if tns pt r g = true then lI gp_NV else y0 g) → (∀ y', (∀ g, 1 ≤ g → g < 2 ^ m → y' g = if tns pt m g = true then lI gp_NV else y0 g) → K none (G, I, upr J 72 y', R)) → tm_A (d + 1) 27 2 [some (.ref 71), some (.ref 58), some (.int (nI r)), o3, o4] [] (G, I, upr J 72 y, R) K := by
  intro n
  induction n with
  | zero =>
    intro r y o3 o4 hr hy hK
    have : r = m := by omega
    subst this
    have hc : nI r ≤ nI r := Int32.le_refl _
    rw [r27_2]
    simp only [r27_3, r27_4, r27_7, r27_75, sh_71 hS, h71, hc, if_true, tm_in, or_true, true_or, tm_cs0, tm_cs1, tm_cs2, tm_cs3, tm_cs4, true_and, and_true, and_self, Option.toList_some, Option.toList_none, List.cons_append, List.nil_append, tm_rf_some, tm_rf_none]
    exact hK y hy
  | succ n ih =>
    intro r y o3 o4 hr hy hK
    have hc : ¬ nI m ≤ nI r := fun z => by
      have := (q_le (a := m) (b := r) rfl rfl (by omega) (by omega)).mp z
      omega
    obtain ⟨p1, p2⟩ := hpt r (by omega)
    have hp : 0 < (2 : Nat) ^ m := Nat.pow_pos (by decide)
    rw [r27_2]
    simp only [r27_3, r27_4, r27_7, r27_10, r27_10n, r27_11, r27_12, r27_15, r27_16, r27_17, sh_71 hS, sh_58 hS, h71, hc, if_false, c62 _ _ hS hR (show r < 10 by omega), p1, tm_in, or_true, true_or, tm_cs0, tm_cs1, tm_cs2, tm_cs3, tm_cs4, true_and, and_true, and_self, Option.toList_some, Option.toList_none, List.cons_append, List.nil_append, tm_rf_some, tm_rf_none]
    rw [show (1 : Int32) = nI 1 from rfl]
    refine c27_in (d + 1) K hS hR hm h71 (show r < m by omega) p2 (y0 := y) _ (2 ^ m - 1) 1 y (by omega) (by decide) (fun g h1 h2 => by omega) (fun g _ => rfl) (fun y' o h => ?_)
    simp only [r27_69, r27_72, nI_1]
    refine ih (r + 1) y' _ _ (by omega) (fun g h1 h2 => ?_) hK
    rw [h g h1 h2, hy g h1 h2, tns]
    cases tns pt r g <;> cases tn1 pt r g <;> rfl
/-- the least of one set: the loop over its lowest report's groups -/
theorem c28_l (d : Nat) (K : Option Value → tm_H → Prop) (hS : tp_S G) (hR : tp_R R) {y z : Nat → Int64} {KK LL : Nat → Int} (h72 : J 72 = y) (h73 : J 73 = z) {l oth : Nat} (hl : l < 10) (ho : oth < 1024) (hy : ∀ g, g < 1024 → g.testBit l = true → (∀ k, g.testBit k = true → oth.testBit k = true ∨ k = l) → y g = lI (KK g) ∧ -1152921504606846976 ≤ KK g ∧ KK g ≤ 1152921504606846976) (hz : ∀ U, (∀ k, U.testBit k = true → oth.testBit k = true) → z U = lI (LL U) ∧ -1152921504606846976 ≤ LL U ∧ LL U ≤ 1152921504606846976) (o1 : Option Value) : ∀ (n : Nat) (jv : Int32) (F : Int) (o8 o9 o10 o11 : Option Value), n ≤ 2 ^ sbc 10 oth → (∀ t, n = t + 1 → jv = nI (sbm 10 oth t)) → -2305843009213693952 ≤ F ∧ F ≤ 1152921504606846976 → (∀ F', F' ≤ F → (∀ t, t < n → KK (sbm 10 oth t ||| 2 ^ l) ≠ gp_NV → LL (sdf oth (sbm 10 oth t)) ≠ gp_NV → F' ≤ KK (sbm 10 oth t ||| 2 ^ l) + LL (sdf oth (sbm 10 oth t))) → (F' = F ∨ ∃ t, t < n ∧ KK (sbm 10 oth t ||| 2 ^ l) ≠ gp_NV ∧ LL (sdf oth (sbm 10 oth t)) ≠ gp_NV ∧ F' = KK (sbm 10 oth t ||| 2 ^ l) + LL (sdf oth (sbm 10 oth t))) → K (some (.long (lI F'))) (G, I, J, R)) → tm_A (d + 1) 28 31 [some (.ref 71), o1, some (.int (nI (2 ^ l))), some (.int (nI oth)), some (.int jv), some (.long (lI F)), none, some (.int (nI n)), o8, o9, o10, o11] [] (G, I, J, R) K := by
  have hsb := (sbc_bc oth ho).2
  have h2p : (2 : Nat) ^ sbc 10 oth ≤ 2 ^ 10 := Nat.pow_le_pow_right (by decide) hsb
  have h2l : (2 : Nat) ^ l ≤ 2 ^ 9 := Nat.pow_le_pow_right (by decide) (by omega)
  intro n
  induction n with
  | zero =>
    intro jv F o8 o9 o10 o11 hn hj hF hK
    have hc : nI 0 ≤ 0 := by decide
    rw [r28_31]
    simp only [r28_33, r28_104, r28_106, hc, if_true]
    exact hK F (Int.le_refl _) (fun t ht => by omega) (Or.inl rfl)
  | succ t ih =>
    intro jv F o8 o9 o10 o11 hn hj hF hK
    have ej := hj t rfl
    subst ej
    have hc : ¬ nI (t + 1) ≤ 0 := nI_nle (by omega) (by omega)
    have hs := sbm_lt 10 oth t
    have hsub : ∀ k, (sbm 10 oth t).testBit k = true → oth.testBit k = true := fun k hk => by
      have := sbm_sub 10 oth t
      have h2 : (sbm 10 oth t &&& oth).testBit k = true := by rw [this]; exact hk
      rw [Nat.testBit_and] at h2
      simp at h2
      exact h2.2
    have hgl : (sbm 10 oth t ||| 2 ^ l) < 1024 := lt_of_bits (t := 10) (fun k hk => by rw [Nat.testBit_or, bit_lt (t := 10) hs hk, Nat.testBit_two_pow_of_ne (by omega)]; rfl)
    have hul : sdf oth (sbm 10 oth t) < 1024 := lt_of_bits (t := 10) (fun k hk => by rw [sdf_t, bit_lt (t := 10) ho hk]; rfl)
    obtain ⟨k1, k2, k3⟩ := hy (sbm 10 oth t ||| 2 ^ l) hgl (by rw [Nat.testBit_or, Nat.testBit_two_pow_self]; simp) (fun k hk => by
      rw [Nat.testBit_or, Nat.testBit_two_pow] at hk
      simp at hk
      rcases hk with a | a
      · exact Or.inl (hsub k a)
      · exact Or.inr a.symm)
    obtain ⟨l1, l2, l3⟩ := hz (sdf oth (sbm 10 oth t)) (fun k hk => by rw [sdf_t] at hk; simp at hk; exact hk.1)
    have ig : tm_in (nI (sbm 10 oth t ||| 2 ^ l)) 1024 := q_in hgl (by decide)
    have iu : tm_in (nI (sdf oth (sbm 10 oth t))) 1024 := q_in hul (by decide)
    have yg : J 72 (sbm 10 oth t ||| 2 ^ l) = lI (KK (sbm 10 oth t ||| 2 ^ l)) := by rw [h72]; exact k1
    have zu : J 73 (sdf oth (sbm 10 oth t)) = lI (LL (sdf oth (sbm 10 oth t))) := by rw [h73]; exact l1
    generalize hgg : (sbm 10 oth t ||| 2 ^ l) = g at *
    generalize huu : sdf oth (sbm 10 oth t) = U at *
    have cg : lg_cmp (lI (KK g)) 1152921504606846976 = 0 ↔ KK g = gp_NV := by
      rw [lg_cmp_0, lI_nv]
      exact lI_eq (by omega) (by unfold gp_NV; omega)
    have cu : lg_cmp (lI (LL U)) 1152921504606846976 = 0 ↔ LL U = gp_NV := by
      rw [lg_cmp_0, lI_nv]
      exact lI_eq (by omega) (by unfold gp_NV; omega)
    have nxt : ∀ (F1 : Int) (o8 o9 o10 o11 : Option Value), -2305843009213693952 ≤ F1 ∧ F1 ≤ 1152921504606846976 → F1 ≤ F → (KK g ≠ gp_NV → LL U ≠ gp_NV → F1 ≤ KK g + LL U) → (F1 = F ∨ (KK g ≠ gp_NV ∧ LL U ≠ gp_NV ∧ F1 = KK g + LL U)) → tm_A (d + 1) 28 90 [some (.ref 71), o1, some (.int (nI (2 ^ l))), some (.int (nI oth)), some (.int (nI (sbm 10 oth t))), some (.long (lI F1)), none, some (.int (nI (t + 1))), o8, o9, o10, o11] [] (G, I, J, R) K := fun F1 o8 o9 o10 o11 b1 b2 b3 b4 => by
      simp only [r28_90, r28_92, r28_93, r28_94, r28_95, r28_96, r28_98, r28_101, pk_m1]
      refine ih _ F1 _ _ _ _ (by omega) (fun u hu => ?_) b1 (fun F' c1 c2 c3 => hK F' (by omega) (fun t' ht' a1 a2 => ?_) ?_)
      · subst hu
        have hpos := sbm_pos 10 oth (u + 1) (by omega) (by omega)
        have e1 : nI (sbm 10 oth (u + 1)) - 1 = nI (sbm 10 oth (u + 1) - 1) := pk_sub (a := sbm 10 oth (u + 1)) (b := 1) hpos
        rw [e1, nI_and, sbm_step 10 oth u (by omega)]
      · by_cases e : t' = t
        · subst e
          rw [hgg] at a1 ⊢
          rw [huu] at a2 ⊢
          have := b3 a1 a2
          omega
        · exact c2 t' (by omega) a1 a2
      · rcases c3 with c3 | ⟨t', a, b, c, e⟩
        · rcases b4 with b4 | ⟨x1, x2, x3⟩
          · exact Or.inl (by omega)
          · exact Or.inr ⟨t, by omega, by rw [hgg]; exact x1, by rw [huu]; exact x2, by rw [hgg, huu]; omega⟩
        · exact Or.inr ⟨t', by omega, b, c, e⟩
    rw [r28_31]
    simp only [r28_33, r28_36, r28_37, r28_40, r28_42, r28_43, r28_44, r28_45, r28_47, r28_48, r28_51, r28_52, r28_54, r28_55, r28_56, r28_57, r28_58, r28_60, r28_62, r28_65, r28_66, hc, if_false, sh_71 hS, sh_72 hS, sh_73 hS, rf_71_0 hR, rf_71_1 hR, nI_or, hgg, ig, q_ix (show g < 2147483648 by omega), yg, nI_sdf, huu, iu, q_ix (show U < 2147483648 by omega), zu, cg, tm_in, or_true, true_or, tm_cs0, tm_cs1, tm_cs2, tm_cs3, tm_cs4, true_and, and_true, and_self, Option.toList_some, Option.toList_none, List.cons_append, List.nil_append, tm_rf_some, tm_rf_none]
    by_cases h1 : KK g = gp_NV
    · rw [if_pos h1]
      exact nxt F _ _ _ _ hF (Int.le_refl _) (fun z => absurd h1 z) (Or.inl rfl)
    · rw [if_neg h1]
      simp only [r28_69, r28_71, r28_74, r28_75, cu]
      by_cases h2 : LL U = gp_NV
      · rw [if_pos h2]
        exact nxt F _ _ _ _ hF (Int.le_refl _) (fun _ z => absurd h2 z) (Or.inl rfl)
      · rw [if_neg h2]
        have hlt : lI (KK g + LL U) < lI F ↔ KK g + LL U < F := lI_lt (by omega) (by omega)
        simp only [r28_78, r28_80, r28_82, r28_84, r28_85, r28_88, lI_add, hlt, tm_in, or_true, true_or, tm_cs0, tm_cs1, tm_cs2, tm_cs3, tm_cs4, true_and, and_true, and_self, Option.toList_some, Option.toList_none, List.cons_append, List.nil_append, tm_rf_some, tm_rf_none]
        by_cases h3 : KK g + LL U < F
        · rw [if_pos h3]
          exact nxt _ _ _ _ _ (by omega) (by omega) (fun _ _ => Int.le_refl _) (Or.inr ⟨h1, h2, rfl⟩)
        · rw [if_neg h3]
          exact nxt F _ _ _ _ hF (Int.le_refl _) (fun _ _ => by omega) (Or.inl rfl)
end CG2
