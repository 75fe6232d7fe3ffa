/-! The reference's fields as known, its names; in the words of the class's known reports. -/
/-- behind know(q): the reference's rows as known belong to the class's reports as known -/
def kw (G : tm_G) (I : Nat → Nat → Int32) (R : Nat → Nat → Option Nat) (nw rp ch n oc pr : Nat) (tl fa ro dy rd : Nat → Nat) (q m : Nat) : Prop := iv_b G I R nw rp ch n oc pr tl fa ro dy rd ∧ iv_kn I rp (rp + ch) fa rd q m ∧ m ≤ 10 ∧ I 89 26 = nI m ∧ (∀ r, r < m → I 105 r = nI r) ∧ ∀ r f, r < m → f < 5 → I 104 (5 * r + f) = p_rf I (nI r) (nI f) (nI q) (rp + ch)
section NMS
variable {G : tm_G} {I : Nat → Nat → Int32} {J : Nat → Nat → Int64} {R : Nat → Nat → Option Nat} {nw rp ch n oc pr q m : Nat} {tl fa ro dy rd : Nat → Nat}
theorem kw_get (h : kw G I R nw rp ch n oc pr tl fa ro dy rd q m) {r f : Nat} (hr : r < m) (hf : f < 5) : (I 104 (5 * r + f) = -1 ∧ tb (I (16 + 3 * r) 0) f = false ∧ (f = 3 → I (16 + 3 * r + 1) 3 = 0)) ∨ ∃ j, j < 70 ∧ I 104 (5 * r + f) = nI j ∧ tb (I (16 + 3 * r) 0) f = true ∧ (f ≠ 3 → I (16 + 3 * r + 1) f = I 98 (5 * j + f) ∧ ∃ y, y ≤ 9999 ∧ I (16 + 3 * r + 1) f = nI y) ∧ (f = 2 → I (16 + 3 * r) 1 = I 99 j ∧ ∃ y, y ≤ 9999 ∧ I (16 + 3 * r) 1 = nI y) ∧ (f = 3 → ∃ cn, 1 ≤ cn ∧ cn ≤ 3 ∧ I (16 + 3 * r + 1) 3 = nI cn ∧ I 100 j = nI cn ∧ ∀ t, t < cn → p_nr (I (16 + 3 * r + 2) t) (I 102 (3 * j + t)) (fun s => I 101 (18 * j + (6 * t + s)))) := by
  obtain ⟨h1, h2, h3, h4, h5, h6⟩ := h
  have h70 := (iv_70 h1).2
  rw [h6 r f hr hf]
  rcases iv_get h1 h2 (show r < 10 by omega) hf with z | ⟨j, a1, a2⟩
  · exact Or.inl z
  · exact Or.inr ⟨j, by omega, a2⟩
theorem m140 (d : Nat) (K : Option Value → tm_H → Prop) (h : kw G I R nw rp ch n oc pr tl fa ro dy rd q m) {r f : Nat} (hr : r < m) (hf : f < 5) : tm_R d 140 [.ref 89, .int (nI r), .int (nI f)] (G, I, J, R) K ↔ K (some (.int (if tb (I (16 + 3 * r) 0) f = true then 1 else 0))) (G, I, J, R) := by
  have hS := h.1.1
  have hR := h.1.2.1
  have hm := h.2.2.1
  have e1 : (5 : Int32) * nI r + nI f = nI (5 * r + f) := by rw [show (5 : Int32) = nI 5 from rfl, pk_mul, nI_add]
  have i1 : tm_in (nI (5 * r + f)) 50 := q_in (by omega) (by decide)
  rw [e140]
  simp only [r140_0, r140_1, r140_4, r140_5, r140_6, r140_7, r140_8, r140_9, r140_10, r140_11, sh_89 hS, sh_104 hS, rf_89_25 hR, e1, i1, q_ix (show 5 * r + f < 2147483648 by omega), tm_in, or_true, true_or, tm_cs0, tm_cs1, tm_cs2, tm_cs3, tm_cs4, true_and, and_true, and_self, Option.toList_some, Option.toList_none, List.cons_append, List.nil_append, tm_rf_some, tm_rf_none]
  rcases kw_get h hr hf with ⟨a1, a2, -⟩ | ⟨j, hj, a1, a2, -⟩
  · simp only [a1, a2, if_true, if_false, Bool.false_eq_true, r140_14, r140_15, r140_18, r140_19, tm_z0, tm_in, or_true, true_or, tm_cs0, tm_cs1, tm_cs2, tm_cs3, tm_cs4, true_and, and_true, and_self, Option.toList_some, Option.toList_none, List.cons_append, List.nil_append, tm_rf_some, tm_rf_none]
  · have z := nI_m1 (y := j) (by omega)
    simp only [a1, a2, z, if_true, if_false, r140_14, r140_15, r140_18, r140_19, tm_z1, tm_in, or_true, true_or, tm_cs0, tm_cs1, tm_cs2, tm_cs3, tm_cs4, true_and, and_true, and_self, Option.toList_some, Option.toList_none, List.cons_append, List.nil_append, tm_rf_some, tm_rf_none]
theorem m141 (d : Nat) (K : Option Value → tm_H → Prop) (h : kw G I R nw rp ch n oc pr tl fa ro dy rd q m) {r f : Nat} (hr : r < m) (hf : f < 5) (h3 : f ≠ 3) (ht : tb (I (16 + 3 * r) 0) f = true) : tm_R d 141 [.ref 89, .int (nI r), .int (nI f)] (G, I, J, R) K ↔ K (some (.int (I (16 + 3 * r + 1) f))) (G, I, J, R) := by
  have hS := h.1.1
  have hR := h.1.2.1
  have hm := h.2.2.1
  have e1 : (5 : Int32) * nI r + nI f = nI (5 * r + f) := by rw [show (5 : Int32) = nI 5 from rfl, pk_mul, nI_add]
  have i1 : tm_in (nI (5 * r + f)) 50 := q_in (by omega) (by decide)
  rcases kw_get h hr hf with ⟨a1, a2, -⟩ | ⟨j, hj, a1, a2, a3, -⟩
  · rw [a2] at ht
    exact absurd ht (by decide)
  · have e2 : (5 : Int32) * nI j + nI f = nI (5 * j + f) := by rw [show (5 : Int32) = nI 5 from rfl, pk_mul, nI_add]
    have i2 : tm_in (nI (5 * j + f)) 350 := q_in (by omega) (by decide)
    rw [e141, (a3 h3).1]
    simp only [r141_0, r141_1, r141_4, r141_5, r141_6, r141_9, r141_10, r141_11, r141_12, r141_13, r141_14, r141_15, r141_16, r141_17, r141_18, r141_19, sh_89 hS, sh_98 hS, sh_104 hS, rf_89_19 hR, rf_89_25 hR, e1, i1, q_ix (show 5 * r + f < 2147483648 by omega), a1, e2, i2, q_ix (show 5 * j + f < 2147483648 by omega), tm_in, or_true, true_or, tm_cs0, tm_cs1, tm_cs2, tm_cs3, tm_cs4, true_and, and_true, and_self, Option.toList_some, Option.toList_none, List.cons_append, List.nil_append, tm_rf_some, tm_rf_none]
theorem m142 (d : Nat) (K : Option Value → tm_H → Prop) (h : kw G I R nw rp ch n oc pr tl fa ro dy rd q m) {r : Nat} (hr : r < m) (ht : tb (I (16 + 3 * r) 0) 2 = true) : tm_R d 142 [.ref 89, .int (nI r)] (G, I, J, R) K ↔ K (some (.int (I (16 + 3 * r) 1))) (G, I, J, R) := by
  have hS := h.1.1
  have hR := h.1.2.1
  have hm := h.2.2.1
  have e1 : (5 : Int32) * nI r + 2 = nI (5 * r + 2) := by rw [show (5 : Int32) = nI 5 from rfl, pk_mul]; exact nI_add (5 * r) 2
  have i1 : tm_in (nI (5 * r + 2)) 50 := q_in (by omega) (by decide)
  rcases kw_get h hr (show 2 < 5 by decide) with ⟨a1, a2, -⟩ | ⟨j, hj, a1, a2, a3, a4, -⟩
  · rw [a2] at ht
    exact absurd ht (by decide)
  · have i2 : tm_in (nI j) 70 := q_in (by omega) (by decide)
    rw [e142, (a4 rfl).1]
    simp only [r142_0, r142_1, r142_4, r142_5, r142_8, r142_9, r142_10, r142_11, r142_12, r142_13, r142_14, r142_15, sh_89 hS, sh_99 hS, sh_104 hS, rf_89_20 hR, rf_89_25 hR, e1, i1, q_ix (show 5 * r + 2 < 2147483648 by omega), a1, i2, q_ix (show j < 2147483648 by omega), tm_in, or_true, true_or, tm_cs0, tm_cs1, tm_cs2, tm_cs3, tm_cs4, true_and, and_true, and_self, Option.toList_some, Option.toList_none, List.cons_append, List.nil_append, tm_rf_some, tm_rf_none]
theorem m149_l (d : Nat) (K : Option Value → tm_H → Prop) (hS : tp_S G) (hR : tp_R R) {a i b j l : Nat} (ha : a < 70) (hi : i < 3) (hb : b < 70) (hj : j < 3) (hl : l ≤ 6) : ∀ (k t : Nat), t + k = l → (tm_A d 149 33 [some (.ref 89), some (.int (nI a)), some (.int (nI i)), some (.int (nI b)), some (.int (nI j)), some (.int (nI l)), some (.int (nI t))] [] (G, I, J, R) K ↔ K (some (.int (if p_eqn (fun s => I 101 (18 * a + (6 * i + s))) (fun s => I 101 (18 * b + (6 * j + s))) k t = true then 1 else 0))) (G, I, J, R)) := by
  intro k
  induction k with
  | zero =>
    intro t ht
    have : t = l := by omega
    subst this
    have hc : nI t ≤ nI t := Int32.le_refl _
    rw [r149_33]
    simp only [r149_35, r149_37, r149_84, r149_85, hc, if_true, p_eqn, tm_z1, tm_in, or_true, true_or, tm_cs0, tm_cs1, tm_cs2, tm_cs3, tm_cs4, true_and, and_true, and_self, Option.toList_some, Option.toList_none, List.cons_append, List.nil_append, tm_rf_some, tm_rf_none]
  | succ k ih =>
    intro t ht
    have hc : ¬ nI l ≤ nI t := fun z => by
      have := (q_le (a := l) (b := t) rfl rfl (by omega) (by omega)).mp z
      omega
    have e1 : ((3 : Int32) * nI a + nI i) * 6 + nI t = nI (18 * a + (6 * i + t)) := by
      rw [show (3 : Int32) = nI 3 from rfl, show (6 : Int32) = nI 6 from rfl, pk_mul, nI_add, pk_mul, nI_add]
      congr 1
      omega
    have e2 : ((3 : Int32) * nI b + nI j) * 6 + nI t = nI (18 * b + (6 * j + t)) := by
      rw [show (3 : Int32) = nI 3 from rfl, show (6 : Int32) = nI 6 from rfl, pk_mul, nI_add, pk_mul, nI_add]
      congr 1
      omega
    have i1 : tm_in (nI (18 * a + (6 * i + t))) 1260 := q_in (by omega) (by decide)
    have i2 : tm_in (nI (18 * b + (6 * j + t))) 1260 := q_in (by omega) (by decide)
    rw [r149_33]
    simp only [r149_35, r149_37, r149_40, r149_41, r149_44, r149_45, r149_46, r149_47, r149_48, r149_49, r149_51, r149_52, r149_54, r149_55, r149_56, r149_57, r149_60, r149_61, r149_62, r149_63, r149_65, r149_66, r149_68, r149_69, r149_71, r149_72, r149_73, r149_76, r149_77, r149_78, r149_81, hc, if_false, sh_89 hS, sh_101 hS, rf_89_22 hR, e1, e2, i1, i2, q_ix (show 18 * a + (6 * i + t) < 2147483648 by omega), q_ix (show 18 * b + (6 * j + t) < 2147483648 by omega), nI_1, tm_z0, tm_in, or_true, true_or, tm_cs0, tm_cs1, tm_cs2, tm_cs3, tm_cs4, true_and, and_true, and_self, Option.toList_some, Option.toList_none, List.cons_append, List.nil_append, tm_rf_some, tm_rf_none]
    rw [p_eqn]
    by_cases hq : I 101 (18 * a + (6 * i + t)) = I 101 (18 * b + (6 * j + t))
    · simp only [hq, if_true]
      exact ih (t + 1) (by omega)
    · simp only [hq, if_false, Bool.false_eq_true]
theorem m149 (d : Nat) (K : Option Value → tm_H → Prop) (hS : tp_S G) (hR : tp_R R) {a i b j : Nat} (ha : a < 70) (hi : i < 3) (hb : b < 70) (hj : j < 3) {w w' : Int32} (hw : p_nr w (I 102 (3 * a + i)) (fun s => I 101 (18 * a + (6 * i + s)))) (hw' : p_nr w' (I 102 (3 * b + j)) (fun s => I 101 (18 * b + (6 * j + s)))) : tm_R d 149 [.ref 89, .int (nI a), .int (nI i), .int (nI b), .int (nI j)] (G, I, J, R) K ↔ K (some (.int (if w = w' then 1 else 0))) (G, I, J, R) := by
  have he := p_nr_eq hw hw'
  obtain ⟨x, l, l1, l2, l3, -⟩ := hw
  have e1 : (3 : Int32) * nI a + nI i = nI (3 * a + i) := by rw [show (3 : Int32) = nI 3 from rfl, pk_mul, nI_add]
  have e2 : (3 : Int32) * nI b + nI j = nI (3 * b + j) := by rw [show (3 : Int32) = nI 3 from rfl, pk_mul, nI_add]
  have i1 : tm_in (nI (3 * a + i)) 210 := q_in (by omega) (by decide)
  have i2 : tm_in (nI (3 * b + j)) 210 := q_in (by omega) (by decide)
  rw [e149]
  simp only [r149_0, r149_1, r149_4, r149_5, r149_6, r149_7, r149_8, r149_9, r149_10, r149_12, r149_14, r149_15, r149_18, r149_19, r149_20, r149_21, r149_23, r149_24, r149_25, r149_28, r149_29, r149_30, r149_31, sh_89 hS, sh_102 hS, rf_89_23 hR, e1, e2, i1, i2, q_ix (show 3 * a + i < 2147483648 by omega), q_ix (show 3 * b + j < 2147483648 by omega), tm_z0, tm_in, or_true, true_or, tm_cs0, tm_cs1, tm_cs2, tm_cs3, tm_cs4, true_and, and_true, and_self, Option.toList_some, Option.toList_none, List.cons_append, List.nil_append, tm_rf_some, tm_rf_none]
  by_cases hq : I 102 (3 * a + i) = I 102 (3 * b + j)
  · rw [if_pos hq, l3]
    have := m149_l (G := G) (I := I) (J := J) (R := R) d K hS hR ha hi hb hj l2 l 0 (by omega)
    rw [nI_0] at this
    rw [this]
    have hc : p_eqn (fun s => I 101 (18 * a + (6 * i + s))) (fun s => I 101 (18 * b + (6 * j + s))) l 0 = true ↔ w = w' := by
      rw [he, p_eqn_iff]
      constructor
      · intro z
        refine ⟨hq, fun t ht _ => z t (by omega) ?_⟩
        rw [l3] at ht
        have := (nI_ltI (by omega) (by omega)).mp ht
        omega
      · rintro ⟨-, z⟩ t _ ht
        exact z t (by rw [l3]; exact (nI_ltI (by omega) (by omega)).mpr (by omega)) (by omega)
    simp only [hc]
  · rw [if_neg hq, if_neg (fun z => hq (he.mp z).1)]
theorem m150_l (d : Nat) (K : Option Value → tm_H → Prop) (hS : tp_S G) (hR : tp_R R) {row i t cn : Nat} (hrow : row < 70) (hi : i < 3) (ht : t < 70) (hcn : I 100 t = nI cn) (hcn3 : cn ≤ 3) {nm : Int32} {w : Nat → Int32} (hnm : p_nr nm (I 102 (3 * row + i)) (fun s => I 101 (18 * row + (6 * i + s)))) (hw : ∀ j, j < cn → p_nr (w j) (I 102 (3 * t + j)) (fun s => I 101 (18 * t + (6 * j + s)))) (x : Option Value) : ∀ (k j : Nat), j + k = cn → (tm_A (d + 1) 150 15 [some (.ref 89), x, some (.int (nI row)), some (.int (nI i)), some (.int (nI t)), some (.int (nI j))] [] (G, I, J, R) K ↔ K (some (.int (if p_hn w nm j k = true then 1 else 0))) (G, I, J, R)) := by
  have z := nI_m1 (y := t) (by omega)
  have i1 : tm_in (nI t) 70 := q_in (by omega) (by decide)
  intro k
  induction k with
  | zero =>
    intro j hj
    have : j = cn := by omega
    subst this
    have hc : nI j ≤ nI j := Int32.le_refl _
    rw [r150_15]
    simp only [r150_17, r150_18, r150_21, r150_23, r150_24, r150_27, r150_29, r150_30, r150_54, r150_55, z, if_false, sh_89 hS, sh_100 hS, rf_89_21 hR, i1, q_ix (show t < 2147483648 by omega), hcn, hc, if_true, p_hn, Bool.false_eq_true, tm_z0, tm_in, or_true, true_or, tm_cs0, tm_cs1, tm_cs2, tm_cs3, tm_cs4, true_and, and_true, and_self, Option.toList_some, Option.toList_none, List.cons_append, List.nil_append, tm_rf_some, tm_rf_none]
  | succ k ih =>
    intro j hj
    have hc : ¬ nI cn ≤ nI j := fun z => by
      have := (q_le (a := cn) (b := j) rfl rfl (by omega) (by omega)).mp z
      omega
    rw [r150_15]
    simp only [r150_17, r150_18, r150_21, r150_23, r150_24, r150_27, r150_29, r150_30, r150_33, r150_34, r150_35, r150_36, r150_38, r150_40, r150_43, r150_46, r150_47, r150_48, r150_51, z, if_false, sh_89 hS, sh_100 hS, rf_89_21 hR, i1, q_ix (show t < 2147483648 by omega), hcn, hc, m149 _ _ hS hR hrow hi ht (show j < 3 by omega) hnm (hw j (by omega)), nI_1, tm_z1, tm_in, or_true, true_or, tm_cs0, tm_cs1, tm_cs2, tm_cs3, tm_cs4, true_and, and_true, and_self, Option.toList_some, Option.toList_none, List.cons_append, List.nil_append, tm_rf_some, tm_rf_none]
    rw [p_hn]
    by_cases hq : nm = w j
    · simp only [hq, if_true, show ¬ (1 : Int32) = 0 by decide, if_false]
    · have hq' : ¬ w j = nm := fun y => hq y.symm
      simp only [hq, hq', if_true, if_false]
      exact ih (j + 1) (by omega)
theorem m150 (d : Nat) (K : Option Value → tm_H → Prop) (h : kw G I R nw rp ch n oc pr tl fa ro dy rd q m) {r row i : Nat} (hr : r < m) (hrow : row < 70) (hi : i < 3) {nm : Int32} (hnm : p_nr nm (I 102 (3 * row + i)) (fun s => I 101 (18 * row + (6 * i + s)))) : tm_R (d + 1) 150 [.ref 89, .int (nI r), .int (nI row), .int (nI i)] (G, I, J, R) K ↔ K (some (.int (if p_hn (I (16 + 3 * r + 2)) nm 0 (ck_n I r) = true then 1 else 0))) (G, I, J, R) := by
  have hS := h.1.1
  have hR := h.1.2.1
  have hm := h.2.2.1
  have e1 : (5 : Int32) * nI r + 3 = nI (5 * r + 3) := by rw [show (5 : Int32) = nI 5 from rfl, pk_mul]; exact nI_add (5 * r) 3
  have i1 : tm_in (nI (5 * r + 3)) 50 := q_in (by omega) (by decide)
  rw [e150]
  simp only [r150_0, r150_1, r150_4, r150_5, r150_6, r150_7, r150_8, r150_9, r150_10, r150_12, r150_13, sh_89 hS, sh_104 hS, rf_89_25 hR, e1, i1, q_ix (show 5 * r + 3 < 2147483648 by omega), tm_in, or_true, true_or, tm_cs0, tm_cs1, tm_cs2, tm_cs3, tm_cs4, true_and, and_true, and_self, Option.toList_some, Option.toList_none, List.cons_append, List.nil_append, tm_rf_some, tm_rf_none]
  rcases kw_get h hr (show 3 < 5 by decide) with ⟨a1, a2, a3⟩ | ⟨t, ht, a1, a2, -, -, a5⟩
  · have hn0 : ck_n I r = 0 := by unfold ck_n; rw [a3 rfl]; rfl
    rw [hn0]
    simp only [a1, r150_15, r150_17, r150_18, r150_54, r150_55, if_true, p_hn, Bool.false_eq_true, if_false, tm_z0, tm_in, or_true, true_or, tm_cs0, tm_cs1, tm_cs2, tm_cs3, tm_cs4, true_and, and_true, and_self, Option.toList_some, Option.toList_none, List.cons_append, List.nil_append, tm_rf_some, tm_rf_none]
  · obtain ⟨cn, c1, c2, c3, c4, c5⟩ := a5 rfl
    have hnc : ck_n I r = cn := by unfold ck_n; rw [c3, q_ix (by omega)]
    rw [hnc, a1]
    have := m150_l (G := G) (I := I) (J := J) (R := R) d K hS hR hrow hi ht c4 c2 hnm c5 (some (.int (nI r))) cn 0 (by omega)
    rw [nI_0] at this
    exact this
end NMS
