/-! The reference: reading names. -/
section MNM
variable {G : tm_G} {I : Nat → Nat → Int32} {J : Nat → Nat → Int64} {R : Nat → Nat → Option Nat}
theorem m122r (d : Nat) (K : Option Value → tm_H → Prop) (hS : tp_S G) (hR : tp_R R) {n p : Nat} (hn : I 89 6 = nI n) (hn100 : n ≤ 100) (hp : p ≤ 1000) {M : p_M} : tm_R d 122 [.ref 89, .int (nI p)] (G, tp_mr I M, J, R) K ↔ K (some (.int (if p < n then I 90 p else -1))) (G, tp_mr I M, J, R) := by
  have := m122 (I := tp_mr I M) (J := J) d K hS hR (n := n) (p := p) (by rw [mr_6]; exact hn) hn100 hp
  rw [mr_90] at this
  exact this
theorem m128_l (d : Nat) (K : Option Value → tm_H → Prop) (hS : tp_S G) (hR : tp_R R) {h m u x : Int32} {F N L : Nat → Int32} {i j a : Nat} (hi : i < 3) (hj : j < 3) (hL : L i = nI a) (ha : a ≤ 6) : ∀ (k t : Nat), t + k = a → (tm_A d 128 19 [some (.ref 89), some (.int (nI i)), some (.int (nI j)), some (.int (nI t))] [] (G, tp_mr I (h, m, u, x, F, N, L), J, R) K ↔ K (some (.int (if p_eqn (fun t => N (6 * i + t)) (fun t => N (6 * j + t)) k t = true then 1 else 0))) (G, tp_mr I (h, m, u, x, F, N, L), J, R)) := by
  have i3 : tm_in (nI i) 3 := q_in hi (by decide)
  intro k
  induction k with
  | zero =>
    intro t ht
    have : t = a := by omega
    subst this
    have hc : nI t ≤ nI t := Int32.le_refl _
    rw [r128_19]
    simp only [r128_0, r128_1, r128_4, r128_5, r128_6, r128_7, r128_10, r128_11, r128_12, r128_15, r128_16, r128_17, r128_18, r128_20, r128_21, r128_24, r128_25, r128_26, r128_29, r128_30, r128_33, r128_35, r128_36, r128_37, r128_38, r128_39, r128_40, r128_41, r128_44, r128_46, r128_47, r128_48, r128_49, r128_50, r128_51, r128_54, r128_55, r128_56, r128_59, r128_62, r128_63, sh_89 hS, sh_93 hS, rf_89_12 hR, mr_93, i3, q_ix (show i < 2147483648 by omega), hL, hc, if_true, p_eqn, tm_z1, tm_in, or_true, true_or, tm_cs0, tm_cs1, tm_cs2, tm_cs3, tm_cs4, true_and, and_true, and_self, Option.toList_some, Option.toList_none, List.cons_append, List.nil_append, tm_rf_some, tm_rf_none]
  | succ k ih =>
    intro t ht
    have hc : ¬ nI a ≤ nI t := fun z => by
      have := (q_le (a := a) (b := t) rfl rfl (by omega) (by omega)).mp z
      omega
    have e1 : (6 : Int32) * nI i + nI t = nI (6 * i + t) := by rw [show (6 : Int32) = nI 6 from rfl, pk_mul, nI_add]
    have e2 : (6 : Int32) * nI j + nI t = nI (6 * j + t) := by rw [show (6 : Int32) = nI 6 from rfl, pk_mul, nI_add]
    have i1 : tm_in (nI (6 * i + t)) 18 := q_in (by omega) (by decide)
    have i2 : tm_in (nI (6 * j + t)) 18 := q_in (by omega) (by decide)
    rw [r128_19]
    simp only [r128_0, r128_1, r128_4, r128_5, r128_6, r128_7, r128_10, r128_11, r128_12, r128_15, r128_16, r128_17, r128_18, r128_20, r128_21, r128_24, r128_25, r128_26, r128_29, r128_30, r128_33, r128_35, r128_36, r128_37, r128_38, r128_39, r128_40, r128_41, r128_44, r128_46, r128_47, r128_48, r128_49, r128_50, r128_51, r128_54, r128_55, r128_56, r128_59, r128_62, r128_63, sh_89 hS, sh_92 hS, sh_93 hS, rf_89_11 hR, rf_89_12 hR, mr_92, mr_93, i3, i1, i2, e1, e2, q_ix (show i < 2147483648 by omega), q_ix (show 6 * i + t < 2147483648 by omega), q_ix (show 6 * j + t < 2147483648 by omega), hL, hc, if_false, nI_1, tm_z0, tm_in, or_true, true_or, tm_cs0, tm_cs1, tm_cs2, tm_cs3, tm_cs4, true_and, and_true, and_self, Option.toList_some, Option.toList_none, List.cons_append, List.nil_append, tm_rf_some, tm_rf_none]
    rw [p_eqn]
    by_cases hq : N (6 * i + t) = N (6 * j + t)
    · simp only [hq, if_true]
      exact ih (t + 1) (by omega)
    · simp only [hq, if_false, Bool.false_eq_true]
theorem m128 (d : Nat) (K : Option Value → tm_H → Prop) (hS : tp_S G) (hR : tp_R R) {h m u x : Int32} {F N L : Nat → Int32} {i j a : Nat} (hi : i < 3) (hj : j < 3) (hL : L i = nI a) (ha : a ≤ 6) : tm_R d 128 [.ref 89, .int (nI i), .int (nI j)] (G, tp_mr I (h, m, u, x, F, N, L), J, R) K ↔ K (some (.int (if L i = L j ∧ p_eqn (fun t => N (6 * i + t)) (fun t => N (6 * j + t)) a 0 = true then 1 else 0))) (G, tp_mr I (h, m, u, x, F, N, L), J, R) := by
  have i3 : tm_in (nI i) 3 := q_in hi (by decide)
  have j3 : tm_in (nI j) 3 := q_in hj (by decide)
  rw [e128]
  simp only [r128_0, r128_1, r128_4, r128_5, r128_6, r128_7, r128_10, r128_11, r128_12, r128_15, r128_16, r128_17, r128_18, sh_89 hS, sh_93 hS, rf_89_12 hR, mr_93, i3, j3, q_ix (show i < 2147483648 by omega), q_ix (show j < 2147483648 by omega), tm_z0, tm_in, or_true, true_or, tm_cs0, tm_cs1, tm_cs2, tm_cs3, tm_cs4, true_and, and_true, and_self, Option.toList_some, Option.toList_none, List.cons_append, List.nil_append, tm_rf_some, tm_rf_none]
  by_cases hq : L i = L j
  · rw [if_pos hq]
    have := m128_l (G := G) (I := I) (J := J) (R := R) d K hS hR (h := h) (m := m) (u := u) (x := x) (F := F) (N := N) hi hj hL ha a 0 (by omega)
    rw [nI_0] at this
    rw [this]
    simp only [hq, true_and]
  · rw [if_neg hq, if_neg (fun z => hq z.1)]
theorem m129_in (d : Nat) (K : Option Value → tm_H → Prop) (hS : tp_S G) (hR : tp_R R) {n : Nat} (hn : I 89 6 = nI n) (hn100 : n ≤ 100) {h u x v : Int32} {F L : Nat → Int32} {i : Nat} (hi : i ≤ 3) (f o : Option Value) : ∀ (k q p : Nat) (v : Int32) (N : Nat → Int32), n ≤ p + k → p ≤ n → q ≤ p → (tm_A (d + 1) 129 9 [some (.ref 89), f, some (.int (nI p)), some (.int (nI q)), o] [] (G, tp_mr I (h, nI i, u, x, F, N, L), J, R) K ↔ tm_A (d + 1) 129 63 [some (.ref 89), f, some (.int (nI (p_rn (p_pk (I 90) n) k v q p).2.2)), some (.int (nI (p_rn (p_pk (I 90) n) k v q p).2.1)), o] [] (G, tp_mr I (h, nI i, u, x, F, p_lt (p_pk (I 90) n) i k N q p, L), J, R) K) := by
  have st : ∀ (q p : Nat) (N : Nat → Int32), p ≤ n → q ≤ p → (tm_A (d + 1) 129 9 [some (.ref 89), f, some (.int (nI p)), some (.int (nI q)), o] [] (G, tp_mr I (h, nI i, u, x, F, N, L), J, R) K ↔ if 97 ≤ p_pk (I 90) n p ∧ p_pk (I 90) n p ≤ 122 then tm_A (d + 1) 129 9 [some (.ref 89), f, some (.int (nI (p + 1))), some (.int (nI (q + 1))), o] [] (G, tp_mr I (h, nI i, u, x, F, if q < 6 ∧ i < 3 then p_upf N (6 * i + q) (p_pk (I 90) n p) else N, L), J, R) K else tm_A (d + 1) 129 63 [some (.ref 89), f, some (.int (nI p)), some (.int (nI q)), o] [] (G, tp_mr I (h, nI i, u, x, F, N, L), J, R) K) := by
    intro q p N hp hq
    have := p_bk (b := I 90) (n := n) (p := p) (fun x => 97 ≤ x ∧ x ≤ 122) (by decide) (by decide)
    rw [r129_9]
    simp only [r129_10, r129_11, r129_14, r129_17, sh_89 hS, m122r _ _ hS hR hn hn100 (show p ≤ 1000 by omega), m124, this, tm_in, or_true, true_or, tm_cs0, tm_cs1, tm_cs2, tm_cs3, tm_cs4, true_and, and_true, and_self, Option.toList_some, Option.toList_none, List.cons_append, List.nil_append, tm_rf_some, tm_rf_none]
    by_cases hc : 97 ≤ p_pk (I 90) n p ∧ p_pk (I 90) n p ≤ 122
    · have hl : p < n := p_pk_lt (fun z => by rw [z] at hc; exact absurd hc (by decide))
      have e9 : I 90 p = p_pk (I 90) n p := by unfold p_pk; rw [if_pos hl]
      rw [if_pos hc, if_pos hc]
      simp only [show ¬ (1 : Int32) = 0 by decide, if_false, r129_20, r129_21, r129_23]
      by_cases h6 : q < 6
      · have z6 : ¬ (6 : Int32) ≤ nI q := fun z => by
          have := (q_le (a := 6) (b := q) rfl rfl (by decide) (by omega)).mp z
          omega
        simp only [z6, if_false, r129_26, r129_27, r129_30, r129_31, sh_89 hS, mr_8, tm_in, or_true, true_or, tm_cs0, tm_cs1, tm_cs2, tm_cs3, tm_cs4, true_and, and_true, and_self, Option.toList_some, Option.toList_none, List.cons_append, List.nil_append, tm_rf_some, tm_rf_none]
        by_cases h3 : i < 3
        · have z3 : ¬ (3 : Int32) ≤ nI i := fun z => by
            have := (q_le (a := 3) (b := i) rfl rfl (by decide) (by omega)).mp z
            omega
          have e1 : (6 : Int32) * nI i + nI q = nI (6 * i + q) := by rw [show (6 : Int32) = nI 6 from rfl, pk_mul, nI_add]
          have i1 : tm_in (nI (6 * i + q)) 18 := q_in (by omega) (by decide)
          have i2 : tm_in (nI p) 100 := q_in (by omega) (by decide)
          rw [if_pos (⟨h6, h3⟩ : q < 6 ∧ i < 3)]
          simp only [z3, if_false, r129_34, r129_35, r129_38, r129_40, r129_41, r129_44, r129_45, r129_46, r129_47, r129_48, r129_51, r129_52, r129_53, r129_54, r129_57, r129_60, sh_89 hS, sh_90 hS, sh_92 hS, rf_89_5 hR, rf_89_11 hR, mr_8, mr_90, e1, i1, i2, q_ix (show p < 2147483648 by omega), q_ix (show 6 * i + q < 2147483648 by omega), e9, mr_u92, nI_1, show 3 ≤ 92 by decide, tm_in, or_true, true_or, tm_cs0, tm_cs1, tm_cs2, tm_cs3, tm_cs4, true_and, and_true, and_self, Option.toList_some, Option.toList_none, List.cons_append, List.nil_append, tm_rf_some, tm_rf_none]
        · have z3 : (3 : Int32) ≤ nI i := (q_le (a := 3) (b := i) rfl rfl (by decide) (by omega)).mpr (by omega)
          rw [if_neg (fun z : q < 6 ∧ i < 3 => h3 z.2)]
          simp only [z3, if_true, r129_54, r129_57, r129_60, nI_1, tm_in, or_true, true_or, tm_cs0, tm_cs1, tm_cs2, tm_cs3, tm_cs4, true_and, and_true, and_self, Option.toList_some, Option.toList_none, List.cons_append, List.nil_append, tm_rf_some, tm_rf_none]
      · have z6 : (6 : Int32) ≤ nI q := (q_le (a := 6) (b := q) rfl rfl (by decide) (by omega)).mpr (by omega)
        rw [if_neg (fun z : q < 6 ∧ i < 3 => h6 z.1)]
        simp only [z6, if_true, r129_54, r129_57, r129_60, nI_1, tm_in, or_true, true_or, tm_cs0, tm_cs1, tm_cs2, tm_cs3, tm_cs4, true_and, and_true, and_self, Option.toList_some, Option.toList_none, List.cons_append, List.nil_append, tm_rf_some, tm_rf_none]
    · rw [if_neg hc, if_neg hc]
      simp only [if_true]
  intro k
  induction k with
  | zero =>
    intro q p v N h1 h2 h3
    rw [st q p N h2 h3, if_neg (by rw [p_pk0 _ (by omega)]; decide), p_rn, p_lt]
  | succ k ih =>
    intro q p v N h1 h2 h3
    rw [st q p N h2 h3, p_rn, p_lt]
    by_cases hc : 97 ≤ p_pk (I 90) n p ∧ p_pk (I 90) n p ≤ 122
    · have hl : p < n := p_pk_lt (fun z => by rw [z] at hc; exact absurd hc (by decide))
      rw [if_pos hc, if_pos hc, if_pos hc]
      exact ih (q + 1) (p + 1) _ _ (by omega) (by omega) (by omega)
    · rw [if_neg hc, if_neg hc, if_neg hc]
/-- alike with one before -/
theorem m129_du (d : Nat) (K : Option Value → tm_H → Prop) (hS : tp_S G) (hR : tp_R R) {h u x nm : Int32} {F N L w : Nat → Int32} {i : Nat} (hi : i < 3) (hw : ∀ t, t < i → p_nr (w t) (L t) (fun s => N (6 * t + s))) (hnm : p_nr nm (L i) (fun s => N (6 * i + s))) (f p q : Option Value) : ∀ (k t : Nat), t + k = i → (tm_A (d + 1) 129 96 [some (.ref 89), f, p, q, some (.int (nI t))] [] (G, tp_mr I (h, nI i, u, x, F, N, L), J, R) K ↔ if p_hn w nm t k = true then K (some (.int (-1))) (G, tp_mr I (h, nI i, u, x, F, N, L), J, R) else tm_A (d + 1) 129 126 [some (.ref 89), f, p, q, some (.int (nI i))] [] (G, tp_mr I (h, nI i, u, x, F, N, L), J, R) K) := by
  intro k
  induction k with
  | zero =>
    intro t ht
    have : t = i := by omega
    subst this
    have hc : nI t ≤ nI t := Int32.le_refl _
    rw [r129_96]
    simp only [r129_98, r129_99, r129_102, sh_89 hS, mr_8, hc, if_true, p_hn, Bool.false_eq_true, if_false, tm_in, or_true, true_or, tm_cs0, tm_cs1, tm_cs2, tm_cs3, tm_cs4, true_and, and_true, and_self, Option.toList_some, Option.toList_none, List.cons_append, List.nil_append, tm_rf_some, tm_rf_none]
  | succ k ih =>
    intro t ht
    have hc : ¬ nI i ≤ nI t := fun z => by
      have := (q_le (a := i) (b := t) rfl rfl (by omega) (by omega)).mp z
      omega
    have ht' : t < i := by omega
    have hwt := hw t ht'
    have he := p_nr_eq hwt hnm
    obtain ⟨a, n, a1, a2, a3, -⟩ := hwt
    have hcond : (L t = L i ∧ p_eqn (fun s => N (6 * t + s)) (fun s => N (6 * i + s)) n 0 = true) ↔ w t = nm := by
      rw [he, p_eqn_iff]
      constructor
      · rintro ⟨z1, z2⟩
        refine ⟨z1, fun s hs _ => z2 s (by omega) ?_⟩
        rw [a3] at hs
        have := (nI_ltI (by omega) (by omega)).mp hs
        omega
      · rintro ⟨z1, z2⟩
        refine ⟨z1, fun s _ hs => z2 s ?_ (by omega)⟩
        rw [a3]
        exact (nI_ltI (by omega) (by omega)).mpr (by omega)
    rw [r129_96]
    simp only [r129_98, r129_99, r129_102, r129_105, r129_106, r129_108, r129_109, r129_112, r129_115, r129_118, r129_119, sh_89 hS, mr_8, hc, if_false, m128 _ _ hS hR (show t < 3 by omega) hi a3 a2, hcond, tm_in, or_true, true_or, tm_cs0, tm_cs1, tm_cs2, tm_cs3, tm_cs4, true_and, and_true, and_self, Option.toList_some, Option.toList_none, List.cons_append, List.nil_append, tm_rf_some, tm_rf_none]
    rw [p_hn]
    by_cases hq : w t = nm
    · simp only [hq, if_true, show ¬ (1 : Int32) = 0 by decide, if_false]
    · simp only [hq, if_false, if_true, r129_120, r129_123, nI_1]
      exact ih (t + 1) (by omega)
end MNM
