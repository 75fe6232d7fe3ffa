/-! The reference's costs of pairs are the class's. -/
theorem p_ho_pos {I : Nat → Nat → Int32} {cn : Nat → Nat} {nm : Int32} {b : Nat} (hb : p_hn (I (16 + 3 * b + 2)) nm 0 (cn b) = true) : ∀ n i, i ≤ b → b < i + n → 0 < p_ho I cn nm i n
  | 0, i, h1, h2 => by omega
  | n + 1, i, h1, h2 => by
    rw [p_ho]
    by_cases e : i = b
    · subst e
      rw [if_pos hb]
      omega
    · have := p_ho_pos hb n (i + 1) (by omega) (by omega)
      omega
theorem p_ng_end {nm : Nat → Int32} {hy : Int32 → Bool} {ho : Int32 → Nat} : ∀ n i g, (∀ j, i ≤ j → nm j = -1) → p_ng nm hy ho i n g = g
  | 0, _, _, _ => rfl
  | n + 1, i, g, h => by
    rw [p_ng, if_neg (fun z => z.1 (h i (Nat.le_refl i))), p_ng_end n (i + 1) g (fun j hj => h j (by omega))]
section PR2
variable {G : tm_G} {I : Nat → Nat → Int32} {J : Nat → Nat → Int64} {R : Nat → Nat → Option Nat} {nw rp ch n oc pr q m : Nat} {tl fa ro dy rd : Nat → Nat}
theorem m151_in (d : Nat) (K : Option Value → tm_H → Prop) (h : kw G I R nw rp ch n oc pr tl fa ro dy rd q m) {t i : Nat} (ht : t < 70) (hi : i < 3) {nm : Int32} (hnm : p_nr nm (I 102 (3 * t + i)) (fun s => I 101 (18 * t + (6 * i + s)))) (a b g : Option Value) : ∀ (k j s : Nat), j + k = m → (tm_A (d + 2) 151 53 [some (.ref 89), a, b, some (.int (nI t)), g, some (.int (nI i)), some (.int (nI s)), some (.int (nI j))] [] (G, I, J, R) K ↔ tm_A (d + 2) 151 95 [some (.ref 89), a, b, some (.int (nI t)), g, some (.int (nI i)), some (.int (nI (s + p_ho I (ck_n I) nm j k))), some (.int (nI m))] [] (G, I, J, R) K) := by
  have hS := h.1.1
  have hR := h.1.2.1
  have h0 := h
  obtain ⟨-, -, hm, h26, h105, -⟩ := h0
  intro k
  induction k with
  | zero =>
    intro j s hj
    have : j = m := by omega
    subst this
    have hc : nI j ≤ nI j := Int32.le_refl _
    rw [r151_53]
    simp only [r151_55, r151_56, r151_59, sh_89 hS, h26, hc, if_true, p_ho, Nat.add_zero, tm_in, or_true, true_or, tm_cs0, tm_cs1, tm_cs2, tm_cs3, tm_cs4, true_and, and_true, and_self, Option.toList_some, Option.toList_none, List.cons_append, List.nil_append, tm_rf_some, tm_rf_none]
  | succ k ih =>
    intro j s hj
    have hc : ¬ nI m ≤ nI j := fun z => by
      have := (q_le (a := m) (b := j) rfl rfl (by omega) (by omega)).mp z
      omega
    have i1 : tm_in (nI j) 10 := q_in (by omega) (by decide)
    rw [r151_53]
    simp only [r151_55, r151_56, r151_59, r151_62, r151_64, r151_65, r151_66, r151_69, r151_71, r151_72, r151_73, r151_75, r151_78, r151_81, r151_82, r151_85, r151_86, r151_87, r151_89, r151_92, sh_89 hS, sh_105 hS, rf_89_27 hR, h26, hc, if_false, i1, q_ix (show j < 2147483648 by omega), h105 j (by omega), m150 _ _ h (show j < m by omega) ht hi hnm, nI_1, Int32.add_zero, tm_in, or_true, true_or, tm_cs0, tm_cs1, tm_cs2, tm_cs3, tm_cs4, true_and, and_true, and_self, Option.toList_some, Option.toList_none, List.cons_append, List.nil_append, tm_rf_some, tm_rf_none]
    rw [p_ho]
    by_cases hq : p_hn (I (16 + 3 * j + 2)) nm 0 (ck_n I j) = true
    · simp only [hq, if_true, show ¬ (1 : Int32) = 0 by decide, if_false]
      rw [← Nat.add_assoc]
      exact ih (j + 1) (s + 1) (by omega)
    · simp only [hq, if_false, if_true, Nat.zero_add, Bool.false_eq_true]
      exact ih (j + 1) s (by omega)
theorem m151_l (d : Nat) (K : Option Value → tm_H → Prop) (h : kw G I R nw rp ch n oc pr tl fa ro dy rd q m) {a b t cn : Nat} (ha : a < m) (hb : b < m) (ht : t < 70) (hcn : I 100 t = nI cn) (hcn3 : cn ≤ 3) (hca : ck_n I a = cn) (hw : ∀ j, j < cn → p_nr (I (16 + 3 * a + 2) j) (I 102 (3 * t + j)) (fun s => I 101 (18 * t + (6 * j + s)))) : ∀ (k i : Nat) (g : Int32) (o6 o7 : Option Value), i + k = cn → (tm_A (d + 2) 151 17 [some (.ref 89), some (.int (nI a)), some (.int (nI b)), some (.int (nI t)), some (.int g), some (.int (nI i)), o6, o7] [] (G, I, J, R) K ↔ K (some (.int (p_ng (fun i => if i < ck_n I a then I (16 + 3 * a + 2) i else -1) (fun z => p_hn (I (16 + 3 * b + 2)) z 0 (ck_n I b)) (fun z => p_ho I (ck_n I) z 0 m) i (3 - i) g))) (G, I, J, R)) := by
  have hS := h.1.1
  have hR := h.1.2.1
  have hm := h.2.2.1
  have z := nI_m1 (y := t) (by omega)
  have i1 : tm_in (nI t) 70 := q_in (by omega) (by decide)
  intro k
  induction k with
  | zero =>
    intro i g o6 o7 hi
    have : i = cn := by omega
    subst this
    have hc : nI i ≤ nI i := Int32.le_refl _
    rw [r151_17, p_ng_end _ _ _ (fun j hj => by rw [hca, if_neg (by omega)])]
    simp only [r151_18, r151_19, r151_22, r151_24, r151_25, r151_28, r151_29, r151_30, r151_121, r151_123, z, if_false, sh_89 hS, sh_100 hS, rf_89_21 hR, i1, q_ix (show t < 2147483648 by omega), hcn, hc, if_true, tm_in, or_true, true_or, tm_cs0, tm_cs1, tm_cs2, tm_cs3, tm_cs4, true_and, and_true, and_self, Option.toList_some, Option.toList_none, List.cons_append, List.nil_append, tm_rf_some, tm_rf_none]
  | succ k ih =>
    intro i g o6 o7 hi
    have hc : ¬ nI cn ≤ nI i := fun z => by
      have := (q_le (a := cn) (b := i) rfl rfl (by omega) (by omega)).mp z
      omega
    have hnm := hw i (by omega)
    have hm1 := p_nr_m1 hnm
    have hle := p_ho_le I (ck_n I) (I (16 + 3 * a + 2) i) m 0
    rw [r151_17, show 3 - i = (3 - (i + 1)) + 1 by omega, p_ng]
    have hin : i < ck_n I a := by omega
    simp only [hin, if_true]
    simp only [r151_18, r151_19, r151_22, r151_24, r151_25, r151_28, r151_29, r151_30, r151_33, r151_34, r151_35, r151_36, r151_38, r151_41, z, if_false, sh_89 hS, sh_100 hS, rf_89_21 hR, i1, q_ix (show t < 2147483648 by omega), hcn, hc, m150 _ _ h hb ht (show i < 3 by omega) hnm, tm_in, or_true, true_or, tm_cs0, tm_cs1, tm_cs2, tm_cs3, tm_cs4, true_and, and_true, and_self, Option.toList_some, Option.toList_none, List.cons_append, List.nil_append, tm_rf_some, tm_rf_none]
    by_cases hq : p_hn (I (16 + 3 * b + 2)) (I (16 + 3 * a + 2) i) 0 (ck_n I b) = true
    · have hpos := p_ho_pos (I := I) (cn := ck_n I) hq m 0 (by omega) (by omega)
      have hqq : I (16 + 3 * a + 2) i ≠ -1 ∧ p_hn (I (16 + 3 * b + 2)) (I (16 + 3 * a + 2) i) 0 (ck_n I b) = true := ⟨hm1, hq⟩
      rw [if_pos hqq, if_pos hq]
      simp only [show ¬ (1 : Int32) = 0 by decide, not_false_eq_true, if_true, r151_47, r151_48, r151_50, r151_51]
      rw [← nI_0, m151_in d K h ht (show i < 3 by omega) hnm _ _ _ m 0 0 (by omega), Nat.zero_add]
      generalize p_ho I (ck_n I) (I (16 + 3 * a + 2) i) 0 m = ho at *
      have z0 : ¬ nI ho = 0 := nI_ne0 hpos (by omega)
      by_cases h4 : ho ≤ 4
      · have h4' : nI ho ≤ 4 := (q_le (a := ho) (b := 4) rfl rfl (by omega) (by decide)).mpr h4
        rw [if_pos (⟨hpos, h4⟩ : 0 < ho ∧ ho ≤ 4)]
        simp only [r151_95, r151_97, r151_99, r151_100, r151_103, r151_104, r151_107, r151_109, r151_111, r151_112, r151_113, r151_115, r151_118, h4', if_true, z0, not_false_eq_true, nI_1, tm_in, or_true, true_or, tm_cs0, tm_cs1, tm_cs2, tm_cs3, tm_cs4, true_and, and_true, and_self, Option.toList_some, Option.toList_none, List.cons_append, List.nil_append, tm_rf_some, tm_rf_none]
        exact ih (i + 1) _ _ _ (by omega)
      · have h4' : ¬ nI ho ≤ 4 := fun y => h4 ((q_le (a := ho) (b := 4) rfl rfl (by omega) (by decide)).mp y)
        rw [if_neg (fun y : 0 < ho ∧ ho ≤ 4 => h4 y.2)]
        simp only [r151_95, r151_97, r151_99, r151_100, r151_103, r151_104, r151_107, r151_109, r151_111, r151_112, r151_113, r151_115, r151_118, h4', if_false, nI_1, Int32.add_zero, tm_in, or_true, true_or, tm_cs0, tm_cs1, tm_cs2, tm_cs3, tm_cs4, true_and, and_true, and_self, Option.toList_some, Option.toList_none, List.cons_append, List.nil_append, tm_rf_some, tm_rf_none]
        exact ih (i + 1) _ _ _ (by omega)
    · have hqq : ¬ (I (16 + 3 * a + 2) i ≠ -1 ∧ p_hn (I (16 + 3 * b + 2)) (I (16 + 3 * a + 2) i) 0 (ck_n I b) = true) := fun y => hq y.2
      rw [if_neg hqq, if_neg hq]
      simp only [not_true, if_false, r151_44, r151_115, r151_118, nI_1]
      exact ih (i + 1) _ _ _ (by omega)
theorem m151 (d : Nat) (K : Option Value → tm_H → Prop) (h : kw G I R nw rp ch n oc pr tl fa ro dy rd q m) {a b : Nat} (ha : a < m) (hb : b < m) : tm_R (d + 2) 151 [.ref 89, .int (nI a), .int (nI b)] (G, I, J, R) K ↔ K (some (.int (p_gain I (ck_n I) m a b))) (G, I, J, R) := by
  have hS := h.1.1
  have hR := h.1.2.1
  have hm := h.2.2.1
  have e1 : (5 : Int32) * nI a + 3 = nI (5 * a + 3) := by rw [show (5 : Int32) = nI 5 from rfl, pk_mul]; exact nI_add (5 * a) 3
  have i1 : tm_in (nI (5 * a + 3)) 50 := q_in (by omega) (by decide)
  rw [e151]
  simp only [r151_0, r151_1, r151_4, r151_5, r151_6, r151_7, r151_8, r151_9, r151_10, r151_11, r151_12, r151_14, r151_15, sh_89 hS, sh_104 hS, rf_89_25 hR, e1, i1, q_ix (show 5 * a + 3 < 2147483648 by omega), tm_in, or_true, true_or, tm_cs0, tm_cs1, tm_cs2, tm_cs3, tm_cs4, true_and, and_true, and_self, Option.toList_some, Option.toList_none, List.cons_append, List.nil_append, tm_rf_some, tm_rf_none]
  unfold p_gain
  rcases kw_get h ha (show 3 < 5 by decide) with ⟨a1, a2, a3⟩ | ⟨t, ht, a1, a2, -, -, a5⟩
  · have hn0 : ck_n I a = 0 := by unfold ck_n; rw [a3 rfl]; rfl
    rw [p_ng_end _ _ _ (fun j hj => by rw [hn0, if_neg (by omega)])]
    simp only [a1, r151_17, r151_18, r151_19, r151_121, r151_123, if_true, tm_in, or_true, true_or, tm_cs0, tm_cs1, tm_cs2, tm_cs3, tm_cs4, true_and, and_true, and_self, Option.toList_some, Option.toList_none, List.cons_append, List.nil_append, tm_rf_some, tm_rf_none]
  · obtain ⟨cn, c1, c2, c3, c4, c5⟩ := a5 rfl
    have hnc : ck_n I a = cn := by unfold ck_n; rw [c3, q_ix (by omega)]
    rw [a1]
    have := m151_l (G := G) (I := I) (J := J) (R := R) d K h ha hb ht c4 c2 hnc c5 cn 0 0 none none (by omega)
    rw [nI_0] at this
    exact this
/-! Pairs. -/
theorem m152_1 (d : Nat) (K : Option Value → tm_H → Prop) (h : kw G I R nw rp ch n oc pr tl fa ro dy rd q m) {a b : Nat} (ha : a < m) (hb : b < m) : tm_A (d + 1) 152 0 [some (.ref 89), some (.int (nI a)), some (.int (nI b)), none] [] (G, I, J, R) K ↔ if I (48 + 1 * a) b = 2 ∨ p_dif I (16 + 3 * a) (16 + 3 * b) 4 then K (some (.int 1000)) (G, I, J, R) else tm_A (d + 1) 152 52 [some (.ref 89), some (.int (nI a)), some (.int (nI b)), none] [] (G, I, J, R) K := by
  have hS := h.1.1
  have hR := h.1.2.1
  have hm := h.2.2.1
  have hh := h.1.2.2.2.2.2.1
  have e1 : (10 : Int32) * nI a + nI b = nI (10 * a + b) := by rw [show (10 : Int32) = nI 10 from rfl, pk_mul, nI_add]
  have i1 : tm_in (nI (10 * a + b)) 100 := q_in (by omega) (by decide)
  have eh := (hh a b (by omega) (by omega)).1
  have ta : p_has (I (16 + 3 * a) 0) 4 ↔ tb (I (16 + 3 * a) 0) 4 = true := tb_has (k := 4) (by decide)
  have tbb : p_has (I (16 + 3 * b) 0) 4 ↔ tb (I (16 + 3 * b) 0) 4 = true := tb_has (k := 4) (by decide)
  have ga : ∀ d K, tm_R d 140 [.ref 89, .int (nI a), .int 4] (G, I, J, R) K ↔ K (some (.int (if tb (I (16 + 3 * a) 0) 4 = true then 1 else 0))) (G, I, J, R) := fun d K => m140 d K h ha (f := 4) (by decide)
  have gb : ∀ d K, tm_R d 140 [.ref 89, .int (nI b), .int 4] (G, I, J, R) K ↔ K (some (.int (if tb (I (16 + 3 * b) 0) 4 = true then 1 else 0))) (G, I, J, R) := fun d K => m140 d K h hb (f := 4) (by decide)
  simp only [r152_0, r152_1, r152_4, r152_6, r152_7, r152_8, r152_9, r152_10, r152_11, r152_12, sh_89 hS, sh_106 hS, rf_89_28 hR, e1, i1, q_ix (show 10 * a + b < 2147483648 by omega), ← eh, tm_in, or_true, true_or, tm_cs0, tm_cs1, tm_cs2, tm_cs3, tm_cs4, true_and, and_true, and_self, Option.toList_some, Option.toList_none, List.cons_append, List.nil_append, tm_rf_some, tm_rf_none]
  by_cases h1 : I (48 + 1 * a) b = 2
  · rw [if_pos h1, if_pos (Or.inl h1)]
    simp only [r152_48, r152_51]
  · rw [if_neg h1]
    simp only [r152_15, r152_16, r152_17, r152_18, r152_21, sh_89 hS, ga, tm_in, or_true, true_or, tm_cs0, tm_cs1, tm_cs2, tm_cs3, tm_cs4, true_and, and_true, and_self, Option.toList_some, Option.toList_none, List.cons_append, List.nil_append, tm_rf_some, tm_rf_none]
    by_cases h2 : tb (I (16 + 3 * a) 0) 4 = true
    · simp only [h2, if_true, show ¬ (1 : Int32) = 0 by decide, if_false, r152_24, r152_25, r152_26, r152_27, r152_30, sh_89 hS, gb, tm_in, or_true, true_or, tm_cs0, tm_cs1, tm_cs2, tm_cs3, tm_cs4, true_and, and_true, and_self, Option.toList_some, Option.toList_none, List.cons_append, List.nil_append, tm_rf_some, tm_rf_none]
      by_cases h3 : tb (I (16 + 3 * b) 0) 4 = true
      · have va : ∀ d K, tm_R d 141 [.ref 89, .int (nI a), .int 4] (G, I, J, R) K ↔ K (some (.int (I (16 + 3 * a + 1) 4))) (G, I, J, R) := fun d K => m141 d K h ha (f := 4) (by decide) (by decide) h2
        have vb : ∀ d K, tm_R d 141 [.ref 89, .int (nI b), .int 4] (G, I, J, R) K ↔ K (some (.int (I (16 + 3 * b + 1) 4))) (G, I, J, R) := fun d K => m141 d K h hb (f := 4) (by decide) (by decide) h3
        simp only [h3, if_true, show ¬ (1 : Int32) = 0 by decide, if_false, r152_33, r152_34, r152_35, r152_36, r152_39, r152_40, r152_41, r152_42, r152_45, sh_89 hS, va, vb, tm_in, or_true, true_or, tm_cs0, tm_cs1, tm_cs2, tm_cs3, tm_cs4, true_and, and_true, and_self, Option.toList_some, Option.toList_none, List.cons_append, List.nil_append, tm_rf_some, tm_rf_none]
        by_cases h4 : I (16 + 3 * a + 1) 4 = I (16 + 3 * b + 1) 4
        · have hn : ¬ (I (48 + 1 * a) b = 2 ∨ p_dif I (16 + 3 * a) (16 + 3 * b) 4) := fun z => z.elim h1 (fun y => y.2.2 h4)
          rw [if_pos h4, if_neg hn]
        · have hn : I (48 + 1 * a) b = 2 ∨ p_dif I (16 + 3 * a) (16 + 3 * b) 4 := Or.inr ⟨ta.mpr h2, tbb.mpr h3, h4⟩
          rw [if_neg h4, if_pos hn]
          simp only [r152_48, r152_51]
      · have hn : ¬ (I (48 + 1 * a) b = 2 ∨ p_dif I (16 + 3 * a) (16 + 3 * b) 4) := fun z => z.elim h1 (fun y => h3 (tbb.mp y.2.1))
        rw [if_neg hn]
        simp only [h3, if_false, if_true, Bool.false_eq_true]
    · have hn : ¬ (I (48 + 1 * a) b = 2 ∨ p_dif I (16 + 3 * a) (16 + 3 * b) 4) := fun z => z.elim h1 (fun y => h2 (ta.mp y.1))
      rw [if_neg hn]
      simp only [h2, if_false, if_true, Bool.false_eq_true]
theorem m152_2 (d : Nat) (K : Option Value → tm_H → Prop) (h : kw G I R nw rp ch n oc pr tl fa ro dy rd q m) {a b : Nat} (ha : a < m) (hb : b < m) (o : Option Value) : tm_A (d + 1) 152 52 [some (.ref 89), some (.int (nI a)), some (.int (nI b)), o] [] (G, I, J, R) K ↔ if 9 < p_da I (16 + 3 * a) (16 + 3 * b) then K (some (.int 1000)) (G, I, J, R) else tm_A (d + 1) 152 99 [some (.ref 89), some (.int (nI a)), some (.int (nI b)), some (.int (p_da I (16 + 3 * a) (16 + 3 * b)))] [] (G, I, J, R) K := by
  have hS := h.1.1
  have ta : p_has (I (16 + 3 * a) 0) 1 ↔ tb (I (16 + 3 * a) 0) 1 = true := tb_has (k := 1) (by decide)
  have tbb : p_has (I (16 + 3 * b) 0) 1 ↔ tb (I (16 + 3 * b) 0) 1 = true := tb_has (k := 1) (by decide)
  have ga : ∀ d K, tm_R d 140 [.ref 89, .int (nI a), .int 1] (G, I, J, R) K ↔ K (some (.int (if tb (I (16 + 3 * a) 0) 1 = true then 1 else 0))) (G, I, J, R) := fun d K => m140 d K h ha (f := 1) (by decide)
  have gb : ∀ d K, tm_R d 140 [.ref 89, .int (nI b), .int 1] (G, I, J, R) K ↔ K (some (.int (if tb (I (16 + 3 * b) 0) 1 = true then 1 else 0))) (G, I, J, R) := fun d K => m140 d K h hb (f := 1) (by decide)
  have h90 : ¬ (9 : Int32) < 0 := by decide
  simp only [r152_52, r152_53, r152_54, r152_55, r152_56, r152_57, r152_60, sh_89 hS, ga, tm_in, or_true, true_or, tm_cs0, tm_cs1, tm_cs2, tm_cs3, tm_cs4, true_and, and_true, and_self, Option.toList_some, Option.toList_none, List.cons_append, List.nil_append, tm_rf_some, tm_rf_none]
  by_cases h2 : tb (I (16 + 3 * a) 0) 1 = true
  · simp only [h2, if_true, show ¬ (1 : Int32) = 0 by decide, if_false, r152_63, r152_64, r152_65, r152_66, r152_69, sh_89 hS, gb, tm_in, or_true, true_or, tm_cs0, tm_cs1, tm_cs2, tm_cs3, tm_cs4, true_and, and_true, and_self, Option.toList_some, Option.toList_none, List.cons_append, List.nil_append, tm_rf_some, tm_rf_none]
    by_cases h3 : tb (I (16 + 3 * b) 0) 1 = true
    · have va : ∀ d K, tm_R d 141 [.ref 89, .int (nI a), .int 1] (G, I, J, R) K ↔ K (some (.int (I (16 + 3 * a + 1) 1))) (G, I, J, R) := fun d K => m141 d K h ha (f := 1) (by decide) (by decide) h2
      have vb : ∀ d K, tm_R d 141 [.ref 89, .int (nI b), .int 1] (G, I, J, R) K ↔ K (some (.int (I (16 + 3 * b + 1) 1))) (G, I, J, R) := fun d K => m141 d K h hb (f := 1) (by decide) (by decide) h3
      have hda : p_da I (16 + 3 * a) (16 + 3 * b) = (if 0 ≤ I (16 + 3 * a + 1) 1 - I (16 + 3 * b + 1) 1 then I (16 + 3 * a + 1) 1 - I (16 + 3 * b + 1) 1 else 0 - (I (16 + 3 * a + 1) 1 - I (16 + 3 * b + 1) 1)) := by
        unfold p_da
        by_cases h4 : I (16 + 3 * a + 1) 1 = I (16 + 3 * b + 1) 1
        · have hn : ¬ p_dif I (16 + 3 * a) (16 + 3 * b) 1 := fun y => y.2.2 h4
          rw [if_neg hn, h4, Int32.sub_self]
          rfl
        · have hn : p_dif I (16 + 3 * a) (16 + 3 * b) 1 := ⟨ta.mpr h2, tbb.mpr h3, h4⟩
          rw [if_pos hn]
      rw [hda]
      simp only [h3, if_true, show ¬ (1 : Int32) = 0 by decide, if_false, r152_72, r152_73, r152_74, r152_75, r152_78, r152_79, r152_80, r152_81, r152_84, r152_85, r152_88, r152_89, r152_90, r152_92, sh_89 hS, va, vb, tm_in, or_true, true_or, tm_cs0, tm_cs1, tm_cs2, tm_cs3, tm_cs4, true_and, and_true, and_self, Option.toList_some, Option.toList_none, List.cons_append, List.nil_append, tm_rf_some, tm_rf_none]
      generalize (if 0 ≤ I (16 + 3 * a + 1) 1 - I (16 + 3 * b + 1) 1 then I (16 + 3 * a + 1) 1 - I (16 + 3 * b + 1) 1 else 0 - (I (16 + 3 * a + 1) 1 - I (16 + 3 * b + 1) 1)) = da
      by_cases h5 : (9 : Int32) < da
      · rw [if_neg (Int32.not_le.mpr h5), if_pos h5]
        simp only [r152_95, r152_98]
      · rw [if_pos (Int32.not_lt.mp h5), if_neg h5]
    · have hda : p_da I (16 + 3 * a) (16 + 3 * b) = 0 := by
        unfold p_da
        rw [if_neg (fun y : p_dif I (16 + 3 * a) (16 + 3 * b) 1 => h3 (tbb.mp y.2.1))]
      rw [hda]
      simp only [h3, if_false, if_true, Bool.false_eq_true, h90]
  · have hda : p_da I (16 + 3 * a) (16 + 3 * b) = 0 := by
      unfold p_da
      rw [if_neg (fun y : p_dif I (16 + 3 * a) (16 + 3 * b) 1 => h2 (ta.mp y.1))]
    rw [hda]
    simp only [h2, if_false, if_true, Bool.false_eq_true, h90]
theorem m152_3 (d : Nat) (K : Option Value → tm_H → Prop) (h : kw G I R nw rp ch n oc pr tl fa ro dy rd q m) {a b : Nat} (ha : a < m) (hb : b < m) (c : Int32) : tm_A (d + 1) 152 99 [some (.ref 89), some (.int (nI a)), some (.int (nI b)), some (.int c)] [] (G, I, J, R) K ↔ tm_A (d + 1) 152 141 [some (.ref 89), some (.int (nI a)), some (.int (nI b)), some (.int (c + (if p_dif I (16 + 3 * a) (16 + 3 * b) 0 then 6 else 0)))] [] (G, I, J, R) K := by
  have hS := h.1.1
  have ta : p_has (I (16 + 3 * a) 0) 0 ↔ tb (I (16 + 3 * a) 0) 0 = true := tb_has (k := 0) (by decide)
  have tbb : p_has (I (16 + 3 * b) 0) 0 ↔ tb (I (16 + 3 * b) 0) 0 = true := tb_has (k := 0) (by decide)
  have ga : ∀ d K, tm_R d 140 [.ref 89, .int (nI a), .int 0] (G, I, J, R) K ↔ K (some (.int (if tb (I (16 + 3 * a) 0) 0 = true then 1 else 0))) (G, I, J, R) := fun d K => m140 d K h ha (f := 0) (by decide)
  have gb : ∀ d K, tm_R d 140 [.ref 89, .int (nI b), .int 0] (G, I, J, R) K ↔ K (some (.int (if tb (I (16 + 3 * b) 0) 0 = true then 1 else 0))) (G, I, J, R) := fun d K => m140 d K h hb (f := 0) (by decide)
  simp only [r152_99, r152_100, r152_101, r152_102, r152_103, r152_106, sh_89 hS, ga, tm_in, or_true, true_or, tm_cs0, tm_cs1, tm_cs2, tm_cs3, tm_cs4, true_and, and_true, and_self, Option.toList_some, Option.toList_none, List.cons_append, List.nil_append, tm_rf_some, tm_rf_none]
  by_cases h2 : tb (I (16 + 3 * a) 0) 0 = true
  · simp only [h2, if_true, show ¬ (1 : Int32) = 0 by decide, if_false, r152_109, r152_110, r152_111, r152_112, r152_115, sh_89 hS, gb, tm_in, or_true, true_or, tm_cs0, tm_cs1, tm_cs2, tm_cs3, tm_cs4, true_and, and_true, and_self, Option.toList_some, Option.toList_none, List.cons_append, List.nil_append, tm_rf_some, tm_rf_none]
    by_cases h3 : tb (I (16 + 3 * b) 0) 0 = true
    · have va : ∀ d K, tm_R d 141 [.ref 89, .int (nI a), .int 0] (G, I, J, R) K ↔ K (some (.int (I (16 + 3 * a + 1) 0))) (G, I, J, R) := fun d K => m141 d K h ha (f := 0) (by decide) (by decide) h2
      have vb : ∀ d K, tm_R d 141 [.ref 89, .int (nI b), .int 0] (G, I, J, R) K ↔ K (some (.int (I (16 + 3 * b + 1) 0))) (G, I, J, R) := fun d K => m141 d K h hb (f := 0) (by decide) (by decide) h3
      simp only [h3, if_true, show ¬ (1 : Int32) = 0 by decide, if_false, r152_118, r152_119, r152_120, r152_121, r152_124, r152_125, r152_126, r152_127, r152_130, sh_89 hS, va, vb, tm_in, or_true, true_or, tm_cs0, tm_cs1, tm_cs2, tm_cs3, tm_cs4, true_and, and_true, and_self, Option.toList_some, Option.toList_none, List.cons_append, List.nil_append, tm_rf_some, tm_rf_none]
      by_cases h4 : I (16 + 3 * a + 1) 0 = I (16 + 3 * b + 1) 0
      · have hn : ¬ p_dif I (16 + 3 * a) (16 + 3 * b) 0 := fun y => y.2.2 h4
        rw [if_pos h4, if_neg hn]
        simp only [r152_138, r152_139, r152_140]
      · have hn : p_dif I (16 + 3 * a) (16 + 3 * b) 0 := ⟨ta.mpr h2, tbb.mpr h3, h4⟩
        rw [if_neg h4, if_pos hn]
        simp only [r152_133, r152_135, r152_138, r152_139, r152_140]
    · rw [if_neg (fun y : p_dif I (16 + 3 * a) (16 + 3 * b) 0 => h3 (tbb.mp y.2.1))]
      simp only [h3, if_false, if_true, Bool.false_eq_true, r152_138, r152_139, r152_140]
  · rw [if_neg (fun y : p_dif I (16 + 3 * a) (16 + 3 * b) 0 => h2 (ta.mp y.1))]
    simp only [h2, if_false, if_true, Bool.false_eq_true, r152_138, r152_139, r152_140]
theorem m152_4 (d : Nat) (K : Option Value → tm_H → Prop) (h : kw G I R nw rp ch n oc pr tl fa ro dy rd q m) {a b : Nat} (ha : a < m) (hb : b < m) (c : Int32) : tm_A (d + 1) 152 141 [some (.ref 89), some (.int (nI a)), some (.int (nI b)), some (.int c)] [] (G, I, J, R) K ↔ tm_A (d + 1) 152 195 [some (.ref 89), some (.int (nI a)), some (.int (nI b)), some (.int (c + (if p_np I (16 + 3 * a) (16 + 3 * b) then 4 else 0)))] [] (G, I, J, R) K := by
  have hS := h.1.1
  have ta : p_has (I (16 + 3 * a) 0) 2 ↔ tb (I (16 + 3 * a) 0) 2 = true := tb_has (k := 2) (by decide)
  have tbb : p_has (I (16 + 3 * b) 0) 2 ↔ tb (I (16 + 3 * b) 0) 2 = true := tb_has (k := 2) (by decide)
  have ga : ∀ d K, tm_R d 140 [.ref 89, .int (nI a), .int 2] (G, I, J, R) K ↔ K (some (.int (if tb (I (16 + 3 * a) 0) 2 = true then 1 else 0))) (G, I, J, R) := fun d K => m140 d K h ha (f := 2) (by decide)
  have gb : ∀ d K, tm_R d 140 [.ref 89, .int (nI b), .int 2] (G, I, J, R) K ↔ K (some (.int (if tb (I (16 + 3 * b) 0) 2 = true then 1 else 0))) (G, I, J, R) := fun d K => m140 d K h hb (f := 2) (by decide)
  simp only [r152_141, r152_142, r152_143, r152_144, r152_145, r152_148, sh_89 hS, ga, tm_in, or_true, true_or, tm_cs0, tm_cs1, tm_cs2, tm_cs3, tm_cs4, true_and, and_true, and_self, Option.toList_some, Option.toList_none, List.cons_append, List.nil_append, tm_rf_some, tm_rf_none]
  by_cases h2 : tb (I (16 + 3 * a) 0) 2 = true
  · simp only [h2, if_true, show ¬ (1 : Int32) = 0 by decide, if_false, r152_151, r152_152, r152_153, r152_154, r152_157, sh_89 hS, gb, tm_in, or_true, true_or, tm_cs0, tm_cs1, tm_cs2, tm_cs3, tm_cs4, true_and, and_true, and_self, Option.toList_some, Option.toList_none, List.cons_append, List.nil_append, tm_rf_some, tm_rf_none]
    by_cases h3 : tb (I (16 + 3 * b) 0) 2 = true
    · have va : ∀ d K, tm_R d 141 [.ref 89, .int (nI a), .int 2] (G, I, J, R) K ↔ K (some (.int (I (16 + 3 * a + 1) 2))) (G, I, J, R) := fun d K => m141 d K h ha (f := 2) (by decide) (by decide) h2
      have vb : ∀ d K, tm_R d 141 [.ref 89, .int (nI b), .int 2] (G, I, J, R) K ↔ K (some (.int (I (16 + 3 * b + 1) 2))) (G, I, J, R) := fun d K => m141 d K h hb (f := 2) (by decide) (by decide) h3
      simp only [h3, if_true, show ¬ (1 : Int32) = 0 by decide, if_false, r152_160, r152_161, r152_162, r152_163, r152_166, r152_167, r152_168, r152_171, sh_89 hS, va, m142 _ _ h hb h3, tm_in, or_true, true_or, tm_cs0, tm_cs1, tm_cs2, tm_cs3, tm_cs4, true_and, and_true, and_self, Option.toList_some, Option.toList_none, List.cons_append, List.nil_append, tm_rf_some, tm_rf_none]
      by_cases h4 : I (16 + 3 * b) 1 < I (16 + 3 * a + 1) 2
      · have hn : p_np I (16 + 3 * a) (16 + 3 * b) := ⟨ta.mpr h2, tbb.mpr h3, Or.inr h4⟩
        rw [if_pos h4, if_pos hn]
        simp only [r152_188, r152_189, r152_192, r152_193, r152_194]
      · rw [if_neg h4]
        simp only [r152_174, r152_175, r152_176, r152_177, r152_180, r152_181, r152_182, r152_185, sh_89 hS, vb, m142 _ _ h ha h2, tm_in, or_true, true_or, tm_cs0, tm_cs1, tm_cs2, tm_cs3, tm_cs4, true_and, and_true, and_self, Option.toList_some, Option.toList_none, List.cons_append, List.nil_append, tm_rf_some, tm_rf_none]
        by_cases h5 : I (16 + 3 * a) 1 < I (16 + 3 * b + 1) 2
        · have hn : p_np I (16 + 3 * a) (16 + 3 * b) := ⟨ta.mpr h2, tbb.mpr h3, Or.inl h5⟩
          rw [if_neg (Int32.not_le.mpr h5), if_pos hn]
          simp only [r152_188, r152_189, r152_192, r152_193, r152_194]
        · have hn : ¬ p_np I (16 + 3 * a) (16 + 3 * b) := fun y => y.2.2.elim h5 h4
          rw [if_pos (Int32.not_lt.mp h5), if_neg hn]
          simp only [r152_192, r152_193, r152_194]
    · rw [if_neg (fun y : p_np I (16 + 3 * a) (16 + 3 * b) => h3 (tbb.mp y.2.1))]
      simp only [h3, if_false, if_true, Bool.false_eq_true, r152_192, r152_193, r152_194]
  · rw [if_neg (fun y : p_np I (16 + 3 * a) (16 + 3 * b) => h2 (ta.mp y.1))]
    simp only [h2, if_false, if_true, Bool.false_eq_true, r152_192, r152_193, r152_194]
theorem m152 (d : Nat) (K : Option Value → tm_H → Prop) (h : kw G I R nw rp ch n oc pr tl fa ro dy rd q m) {a b : Nat} (ha : a < m) (hb : b < m) : tm_R (d + 3) 152 [.ref 89, .int (nI a), .int (nI b)] (G, I, J, R) K ↔ K (some (.int (p_pc I (ck_n I) m a b))) (G, I, J, R) := by
  have hS := h.1.1
  rw [e152, m152_1 (d + 2) K h ha hb]
  unfold p_pc
  by_cases h1 : I (48 + 1 * a) b = 2 ∨ p_dif I (16 + 3 * a) (16 + 3 * b) 4
  · have h1' : I (48 + 1 * a) b = 2 ∨ p_dif I (16 + 3 * a) (16 + 3 * b) 4 ∨ 9 < p_da I (16 + 3 * a) (16 + 3 * b) := h1.imp id Or.inl
    rw [if_pos h1, if_pos h1']
  · rw [if_neg h1, m152_2 (d + 2) K h ha hb]
    by_cases h2 : 9 < p_da I (16 + 3 * a) (16 + 3 * b)
    · have h1' : I (48 + 1 * a) b = 2 ∨ p_dif I (16 + 3 * a) (16 + 3 * b) 4 ∨ 9 < p_da I (16 + 3 * a) (16 + 3 * b) := Or.inr (Or.inr h2)
      rw [if_pos h2, if_pos h1']
    · have h1' : ¬ (I (48 + 1 * a) b = 2 ∨ p_dif I (16 + 3 * a) (16 + 3 * b) 4 ∨ 9 < p_da I (16 + 3 * a) (16 + 3 * b)) := fun z => z.elim (fun y => h1 (Or.inl y)) (fun z => z.elim (fun y => h1 (Or.inr y)) h2)
      rw [if_neg h2, if_neg h1', m152_3 (d + 2) K h ha hb, m152_4 (d + 2) K h ha hb]
      simp only [r152_195, r152_196, r152_197, r152_198, r152_199, r152_202, r152_203, sh_89 hS, m151 _ _ h ha hb, tm_in, or_true, true_or, tm_cs0, tm_cs1, tm_cs2, tm_cs3, tm_cs4, true_and, and_true, and_self, Option.toList_some, Option.toList_none, List.cons_append, List.nil_append, tm_rf_some, tm_rf_none]
      have e : ∀ x y z w : Int32, x + y + z - w = x - w + y + z := fun x y z w => by grind
      rw [e]
end PR2
