/-! The reference: the search through all groupings. -/
def iI (z : Int) : Int32 := Int32.ofInt z
theorem iI_add (a b : Int) : iI a + iI b = iI (a + b) := (Int32.ofInt_add a b).symm
theorem iI_toInt {z : Int} (h1 : -1000000000 ≤ z) (h2 : z ≤ 1000000000) : (iI z).toInt = z := Int32.toInt_ofInt_of_le (by omega) (by omega)
theorem iI_nat (n : Nat) : iI (n : Int) = nI n := Int32.ofInt_eq_ofNat
theorem iI_eq {a b : Int} (ha : -1000000000 ≤ a ∧ a ≤ 1000000000) (hb : -1000000000 ≤ b ∧ b ≤ 1000000000) : iI a = iI b ↔ a = b := by
  constructor
  · intro h
    have := congrArg Int32.toInt h
    rw [iI_toInt ha.1 ha.2, iI_toInt hb.1 hb.2] at this
    exact this
  · intro h; rw [h]
theorem iI_le {a b : Int} (ha : -1000000000 ≤ a ∧ a ≤ 1000000000) (hb : -1000000000 ≤ b ∧ b ≤ 1000000000) : iI a ≤ iI b ↔ a ≤ b := by
  rw [Int32.le_iff_toInt_le, iI_toInt ha.1 ha.2, iI_toInt hb.1 hb.2]
theorem iI_of (x : Int32) : iI x.toInt = x := Int32.ofInt_toInt x
/-- joining the k-th to the group g -/
def p_jn (w : Nat → Nat) (C : Nat → Nat → Int) (Tb : Nat → Nat → Bool) (k g : Nat) : Nat → Nat → Int → Option Int
  | 0, _, c => some c
  | n + 1, j, c => if w j = g then (if C j k = 1000 then none else p_jn w C Tb k g n (j + 1) (c + C j k)) else if Tb j k = true then none else p_jn w C Tb k g n (j + 1) c
theorem p_jn_none {w : Nat → Nat} {C : Nat → Nat → Int} {Tb : Nat → Nat → Bool} {k g : Nat} : ∀ n j c, p_jn w C Tb k g n j c = none → ∃ i, j ≤ i ∧ i < j + n ∧ ((w i = g ∧ C i k = 1000) ∨ (w i ≠ g ∧ Tb i k = true))
  | 0, _, _, h => by cases h
  | n + 1, j, c, h => by
    rw [p_jn] at h
    have st : ∀ c', p_jn w C Tb k g n (j + 1) c' = none → ∃ i, j ≤ i ∧ i < j + (n + 1) ∧ ((w i = g ∧ C i k = 1000) ∨ (w i ≠ g ∧ Tb i k = true)) := fun c' hc => by
      obtain ⟨i, a, b, e⟩ := p_jn_none n (j + 1) c' hc
      exact ⟨i, by omega, by omega, e⟩
    by_cases h1 : w j = g
    · rw [if_pos h1] at h
      by_cases h2 : C j k = 1000
      · exact ⟨j, by omega, by omega, Or.inl ⟨h1, h2⟩⟩
      · rw [if_neg h2] at h
        exact st _ h
    · rw [if_neg h1] at h
      by_cases h2 : Tb j k = true
      · exact ⟨j, by omega, by omega, Or.inr ⟨h1, h2⟩⟩
      · rw [if_neg h2] at h
        exact st _ h
theorem p_jn_some {w : Nat → Nat} {C : Nat → Nat → Int} {Tb : Nat → Nat → Bool} {k g : Nat} : ∀ n j c c', p_jn w C Tb k g n j c = some c' → gp_s (fun i => if w i = g then C i k else 0) (j + n) = gp_s (fun i => if w i = g then C i k else 0) j + (c' - c) ∧ ∀ i, j ≤ i → i < j + n → (w i = g → C i k ≠ 1000) ∧ (w i ≠ g → ¬ Tb i k = true)
  | 0, j, c, c', h => by
    have : c = c' := Option.some.inj h
    subst this
    exact ⟨by rw [Nat.add_zero]; omega, fun i a b => by omega⟩
  | n + 1, j, c, c', h => by
    rw [p_jn] at h
    by_cases h1 : w j = g
    · rw [if_pos h1] at h
      by_cases h2 : C j k = 1000
      · rw [if_pos h2] at h; cases h
      · rw [if_neg h2] at h
        obtain ⟨a, b⟩ := p_jn_some n (j + 1) _ c' h
        refine ⟨?_, fun i hi1 hi2 => ?_⟩
        · rw [show j + (n + 1) = j + 1 + n by omega, a, gp_s, if_pos h1]
          omega
        · by_cases e : i = j
          · subst e; exact ⟨fun _ => h2, fun z => absurd h1 z⟩
          · exact b i (by omega) (by omega)
    · rw [if_neg h1] at h
      by_cases h2 : Tb j k = true
      · rw [if_pos h2] at h; cases h
      · rw [if_neg h2] at h
        obtain ⟨a, b⟩ := p_jn_some n (j + 1) _ c' h
        refine ⟨?_, fun i hi1 hi2 => ?_⟩
        · rw [show j + (n + 1) = j + 1 + n by omega, a, gp_s, if_neg h1]
          omega
        · by_cases e : i = j
          · subst e; exact ⟨fun z => absurd z h1, fun _ => h2⟩
          · exact b i (by omega) (by omega)
def p_jv (x : Option Int) : Int32 := match x with
  | none => 1000000
  | some c => iI c
/-- the search's cells: found, its cost, its groups, its way, the way -/
def tp_dp (I : Nat → Nat → Int32) (fd bc bg : Int32) (bw way : Nat → Int32) : Nat → Nat → Int32 := fun b k => if b = 89 then (if k = 34 then fd else if k = 32 then bc else if k = 33 then bg else I 89 k) else if b = 109 then bw k else if b = 108 then way k else I b k
section DPH
variable {I : Nat → Nat → Int32} {fd bc bg v : Int32} {bw way : Nat → Int32} {i : Nat}
theorem dp_34 : tp_dp I fd bc bg bw way 89 34 = fd := by simp [tp_dp]
theorem dp_32 : tp_dp I fd bc bg bw way 89 32 = bc := by simp [tp_dp]
theorem dp_33 : tp_dp I fd bc bg bw way 89 33 = bg := by simp [tp_dp]
theorem dp_89 {k : Nat} (h : k < 32) : tp_dp I fd bc bg bw way 89 k = I 89 k := by
  unfold tp_dp
  rw [if_pos rfl, if_neg (by omega), if_neg (by omega), if_neg (by omega)]
theorem dp_109 : tp_dp I fd bc bg bw way 109 = bw := by funext k; simp [tp_dp]
theorem dp_108 : tp_dp I fd bc bg bw way 108 = way := by funext k; simp [tp_dp]
theorem dp_o {b : Nat} (h1 : b ≠ 89) (h2 : b ≠ 109) (h3 : b ≠ 108) : tp_dp I fd bc bg bw way b = I b := by funext k; simp [tp_dp, h1, h2, h3]
theorem dp_u34 : up2 (tp_dp I fd bc bg bw way) 89 34 v = tp_dp I v bc bg bw way := by
  funext b k; simp only [up2, tp_dp]; grind
theorem dp_u32 : up2 (tp_dp I fd bc bg bw way) 89 32 v = tp_dp I fd v bg bw way := by
  funext b k; simp only [up2, tp_dp]; grind
theorem dp_u33 : up2 (tp_dp I fd bc bg bw way) 89 33 v = tp_dp I fd bc v bw way := by
  funext b k; simp only [up2, tp_dp]; grind
theorem dp_u109 : up2 (tp_dp I fd bc bg bw way) 109 i v = tp_dp I fd bc bg (p_upf bw i v) way := by
  funext b k; simp only [up2, tp_dp, p_upf]; grind
theorem dp_u108 : up2 (tp_dp I fd bc bg bw way) 108 i v = tp_dp I fd bc bg bw (p_upf way i v) := by
  funext b k; simp only [up2, tp_dp, p_upf]; grind
theorem dp_scr {b k : Nat} (h : ¬ scr b k) : tp_dp I fd bc bg bw way b k = I b k := by
  unfold scr at h
  by_cases hb : b = 89
  · subst hb
    rw [dp_89 (by omega)]
  · rw [dp_o hb (by omega) (by omega)]
end DPH
section DFS
variable {G : tm_G} {I : Nat → Nat → Int32} {J : Nat → Nat → Int64} {R : Nat → Nat → Option Nat} {m oc : Nat} {C : Nat → Nat → Int} {T : Nat → Nat → Prop} {Tb : Nat → Nat → Bool}
/-- what the search rests on -/
def dp_tab (I : Nat → Nat → Int32) (C : Nat → Nat → Int) (Tb : Nat → Nat → Bool) (m oc : Nat) : Prop := I 89 26 = nI m ∧ m ≤ 10 ∧ I 89 3 = nI oc ∧ oc ≤ 100 ∧ (∀ r, r < m → I 105 r = nI r) ∧ (∀ j k, j < m → k < m → (I 106 (10 * j + k) = 1 ↔ Tb j k = true)) ∧ (∀ j k, j < k → k < m → I 107 (10 * j + k) = iI (C j k)) ∧ ∀ j k, -1000 ≤ C j k ∧ C j k ≤ 1000
theorem m154_l (d : Nat) (K : Option Value → tm_H → Prop) (hS : tp_S G) (hR : tp_R R) (hT : dp_tab I C Tb m oc) {k g : Nat} (hk : k < m) (hg : g ≤ 10) {w : Nat → Nat} (hw : ∀ j, j < k → w j ≤ 10) {fd bc bg : Int32} {bw way : Nat → Int32} (hway : ∀ j, j < k → way j = nI (w j)) : ∀ (n j : Nat) (c : Int) (o : Option Value), j + n = k → (tm_A d 154 5 [some (.ref 89), some (.int (nI k)), some (.int (nI g)), some (.int (iI c)), some (.int (nI j)), o] [] (G, tp_dp I fd bc bg bw way, J, R) K ↔ K (some (.int (p_jv (p_jn w C Tb k g n j c)))) (G, tp_dp I fd bc bg bw way, J, R)) := by
  obtain ⟨t1, t2, t3, t4, t5, t6, t7, t8⟩ := hT
  have i105 : tp_dp I fd bc bg bw way 105 = I 105 := dp_o (by decide) (by decide) (by decide)
  have i106 : tp_dp I fd bc bg bw way 106 = I 106 := dp_o (by decide) (by decide) (by decide)
  have i107 : tp_dp I fd bc bg bw way 107 = I 107 := dp_o (by decide) (by decide) (by decide)
  intro n
  induction n with
  | zero =>
    intro j c o hj
    have : j = k := by omega
    subst this
    have hc : nI j ≤ nI j := Int32.le_refl _
    rw [r154_5]
    simp only [r154_7, r154_8, r154_108, r154_109, hc, if_true, p_jn, p_jv]
  | succ n ih =>
    intro j c o hj
    have hc : ¬ nI k ≤ nI j := fun z => by
      have := (q_le (a := k) (b := j) rfl rfl (by omega) (by omega)).mp z
      omega
    have ij : tm_in (nI j) 10 := q_in (by omega) (by decide)
    have ik : tm_in (nI k) 10 := q_in (by omega) (by decide)
    have e1 : (10 : Int32) * nI j + nI k = nI (10 * j + k) := by rw [show (10 : Int32) = nI 10 from rfl, pk_mul, nI_add]
    have i1 : tm_in (nI (10 * j + k)) 100 := q_in (by omega) (by decide)
    have hwj := hw j (by omega)
    have hwe : nI (w j) = nI g ↔ w j = g := nI_eq (by omega) (by omega)
    have hTT := t6 j k (by omega) hk
    have hC1 : iI (C j k) = 1000 ↔ C j k = 1000 := iI_eq (b := 1000) (by have := t8 j k; omega) (by omega)
    rw [r154_5]
    simp only [r154_7, r154_8, r154_11, r154_12, r154_15, r154_17, r154_18, r154_21, r154_23, r154_24, r154_25, r154_26, r154_29, r154_30, r154_31, r154_32, r154_33, r154_34, hc, if_false, sh_89 hS, sh_105 hS, sh_106 hS, rf_89_27 hR, rf_89_28 hR, i105, i106, ij, ik, q_ix (show j < 2147483648 by omega), q_ix (show k < 2147483648 by omega), t5 j (by omega), t5 k hk, e1, i1, q_ix (show 10 * j + k < 2147483648 by omega), hTT, tm_in, or_true, true_or, tm_cs0, tm_cs1, tm_cs2, tm_cs3, tm_cs4, true_and, and_true, and_self, Option.toList_some, Option.toList_none, List.cons_append, List.nil_append, tm_rf_some, tm_rf_none]
    have rest : ∀ b : Int32, (b = 0 ↔ ¬ Tb j k = true) → (tm_A d 154 42 [some (.ref 89), some (.int (nI k)), some (.int (nI g)), some (.int (iI c)), some (.int (nI j)), o] [.int b] (G, tp_dp I fd bc bg bw way, J, R) K ↔ K (some (.int (p_jv (p_jn w C Tb k g (n + 1) j c)))) (G, tp_dp I fd bc bg bw way, J, R)) := fun b hbb => by
      simp only [r154_42, r154_44, r154_45, r154_48, r154_50, r154_51, r154_52, sh_89 hS, sh_108 hS, rf_89_30 hR, dp_108, ij, q_ix (show j < 2147483648 by omega), hway j (by omega), hwe, tm_in, or_true, true_or, tm_cs0, tm_cs1, tm_cs2, tm_cs3, tm_cs4, true_and, and_true, and_self, Option.toList_some, Option.toList_none, List.cons_append, List.nil_append, tm_rf_some, tm_rf_none]
      rw [p_jn]
      by_cases h1 : w j = g
      · rw [if_pos h1]
        simp only [h1, not_true, if_false, r154_55, r154_56, r154_59, r154_61, r154_63, r154_64, r154_65, r154_66, r154_67, r154_70, sh_89 hS, sh_107 hS, rf_89_29 hR, i107, e1, i1, q_ix (show 10 * j + k < 2147483648 by omega), t7 j k (by omega) hk, hC1, tm_in, or_true, true_or, tm_cs0, tm_cs1, tm_cs2, tm_cs3, tm_cs4, true_and, and_true, and_self, Option.toList_some, Option.toList_none, List.cons_append, List.nil_append, tm_rf_some, tm_rf_none]
        by_cases h2 : C j k = 1000
        · simp only [h2, not_true, if_true, if_false, r154_73, r154_75, p_jv]
        · simp only [h2, not_false_eq_true, if_true, if_false, r154_76, r154_77, r154_78, r154_81, r154_83, r154_85, r154_86, r154_87, r154_88, r154_89, r154_90, r154_91, sh_89 hS, sh_107 hS, rf_89_29 hR, i107, e1, i1, q_ix (show 10 * j + k < 2147483648 by omega), t7 j k (by omega) hk, iI_add, r154_102, r154_105, nI_1, tm_in, or_true, true_or, tm_cs0, tm_cs1, tm_cs2, tm_cs3, tm_cs4, true_and, and_true, and_self, Option.toList_some, Option.toList_none, List.cons_append, List.nil_append, tm_rf_some, tm_rf_none]
          exact ih (j + 1) _ _ (by omega)
      · rw [if_neg h1]
        simp only [h1, not_false_eq_true, if_true, r154_94, r154_96, hbb]
        by_cases h2 : Tb j k = true
        · simp only [h2, not_true, if_true, if_false, r154_99, r154_101, p_jv]
        · simp only [h2, not_false_eq_true, if_true, if_false, r154_102, r154_105, nI_1, Bool.false_eq_true]
          exact ih (j + 1) _ _ (by omega)
    by_cases hb : Tb j k = true
    · have := rest 1 ⟨fun z => absurd z (by decide), fun z => absurd hb z⟩
      simp only [hb, not_true, if_false, r154_37, r154_38]
      exact this
    · have := rest 0 ⟨fun _ => hb, fun _ => rfl⟩
      simp only [hb, not_false_eq_true, if_true, r154_41, Bool.false_eq_true]
      exact this
theorem m154 (d : Nat) (K : Option Value → tm_H → Prop) (hS : tp_S G) (hR : tp_R R) (hT : dp_tab I C Tb m oc) {k g : Nat} (hk : k < m) (hg : g ≤ 10) {w : Nat → Nat} (hw : ∀ j, j < k → w j ≤ 10) {fd bc bg : Int32} {bw way : Nat → Int32} (hway : ∀ j, j < k → way j = nI (w j)) : tm_R d 154 [.ref 89, .int (nI k), .int (nI g)] (G, tp_dp I fd bc bg bw way, J, R) K ↔ K (some (.int (p_jv (p_jn w C Tb k g k 0 0)))) (G, tp_dp I fd bc bg bw way, J, R) := by
  rw [e154]
  simp only [r154_0, r154_1, r154_2, r154_3]
  exact m154_l (I := I) d K hS hR hT hk hg hw hway k 0 0 none (by omega)
/-- the best so far, as the reference has it -/
def dp_st (C : Nat → Nat → Int) (T : Nat → Nat → Prop) (o : Int) (m : Nat) (B : Option (Nat → Nat)) (fd bc bg : Int32) (bw : Nat → Int32) : Prop := (B = none ∧ fd = 0) ∨ ∃ b w g, B = some b ∧ fd = 1 ∧ gp_val C T m (gp_all m) b ∧ gp_rel m g w b ∧ bc = iI (gp_cost C o m (gp_all m) b) ∧ bg = nI g ∧ ∀ j, j < m → bw j = nI (w j)
theorem m155_c (d : Nat) (K : Option Value → tm_H → Prop) (hS : tp_S G) (hR : tp_R R) (h26 : I 89 26 = nI m) (hm : m ≤ 10) {fd bc bg : Int32} {way : Nat → Int32} (o1 o2 o3 o5 : Option Value) : ∀ (n j : Nat) (bw : Nat → Int32), j + n = m → (∀ i, i < j → bw i = way i) → (∀ bw', (∀ i, i < m → bw' i = way i) → K none (G, tp_dp I fd bc bg bw' way, J, R)) → tm_A d 155 41 [some (.ref 89), o1, o2, o3, some (.int (nI j)), o5] [] (G, tp_dp I fd bc bg bw way, J, R) K := by
  have i26 : ∀ bw, tp_dp I fd bc bg bw way 89 26 = nI m := fun bw => by rw [dp_89 (by decide)]; exact h26
  intro n
  induction n with
  | zero =>
    intro j bw hj hb hK
    have : j = m := by omega
    subst this
    have hc : nI j ≤ nI j := Int32.le_refl _
    rw [r155_41]
    simp only [r155_43, r155_44, r155_47, r155_70, sh_89 hS, i26, hc, if_true, tm_in, or_true, true_or, tm_cs0, tm_cs1, tm_cs2, tm_cs3, tm_cs4, true_and, and_true, and_self, Option.toList_some, Option.toList_none, List.cons_append, List.nil_append, tm_rf_some, tm_rf_none]
    exact hK bw hb
  | succ n ih =>
    intro j bw hj hb hK
    have hc : ¬ nI m ≤ nI j := fun z => by
      have := (q_le (a := m) (b := j) rfl rfl (by omega) (by omega)).mp z
      omega
    have ij : tm_in (nI j) 10 := q_in (by omega) (by decide)
    rw [r155_41]
    simp only [r155_43, r155_44, r155_47, r155_50, r155_51, r155_54, r155_56, r155_57, r155_60, r155_62, r155_63, r155_64, r155_67, sh_89 hS, sh_108 hS, sh_109 hS, rf_89_30 hR, rf_89_31 hR, i26, hc, if_false, ij, q_ix (show j < 2147483648 by omega), dp_108, dp_u109, nI_1, show 3 ≤ 109 by decide, tm_in, or_true, true_or, tm_cs0, tm_cs1, tm_cs2, tm_cs3, tm_cs4, true_and, and_true, and_self, Option.toList_some, Option.toList_none, List.cons_append, List.nil_append, tm_rf_some, tm_rf_none]
    refine ih (j + 1) _ (by omega) (fun i hi => ?_) hK
    unfold p_upf
    by_cases e : i = j
    · rw [if_pos e, e]
    · rw [if_neg e]
      exact hb i (by omega)
end DFS
