/-! Facts: setSpan, addName, take. -/
def p_bit (bits : Int32) (k : Nat) : Prop := (bits >>> (nI k &&& 31)) &&& 1 = 1
def p_bitB (bits : Int32) (k : Nat) : Bool := decide ((bits >>> (nI k &&& 31)) &&& 1 = 1)
section FC2
variable {G : tm_G} {I : Nat → Nat → Int32} {J : Nat → Nat → Int64} {R : Nat → Nat → Option Nat} {a t : Nat}
theorem c10 (d : Nat) (lo top : Int32) (K : Option Value → tm_H → Prop) (hF : tp_F G R a) : tm_R (d + 1) 10 [.ref a, .int lo, .int top] (G, I, J, R) K ↔ K none (G, up2 (up2 (up2 I (a + 1) 2 lo) a 0 (I a 0 ||| ((1 : Int32) <<< ((2 : Int32) &&& 31)))) a 1 top, J, R) := by
  have hF' := hF
  obtain ⟨h3, s1, s2, s3, r1, r2⟩ := hF
  have h2 : tm_in 2 5 := by decide
  rw [e10]
  simp only [r10_0, r10_1, r10_2, r10_3, r10_6, r10_7, r10_8, r10_11, s1, c9 _ _ _ _ hF' h2, ix2, tm_in, or_true, true_or, tm_cs0, tm_cs1, tm_cs2, tm_cs3, tm_cs4, true_and, and_true, and_self, Option.toList_some, Option.toList_none, List.cons_append, List.nil_append, tm_rf_some, tm_rf_none]
theorem c11 (d : Nat) (nm : Int32) (K : Option Value → tm_H → Prop) (hF : tp_F G R a) {c : Nat} (hc : I (a + 1) 3 = nI c) (hc3 : c < 3) : tm_R (d + 1) 11 [.ref a, .int nm] (G, I, J, R) K ↔ K none (G, up2 (up2 (up2 I (a + 2) c nm) (a + 1) 3 (nI (c + 1))) a 0 (I a 0 ||| ((1 : Int32) <<< ((3 : Int32) &&& 31))), J, R) := by
  have hF' := hF
  obtain ⟨h3, s1, s2, s3, r1, r2⟩ := hF
  have h4 : 3 ≤ a + 2 := by omega
  have n1 : ¬ nI c < 0 := nI_pos (by omega)
  have n2 : ¬ (3 : Int32) ≤ nI c := fun q => by
    have := (q_le (a := 3) (b := c) rfl rfl (by decide) (by omega)).mp q
    omega
  have hin : tm_in (nI c) 3 := q_in hc3 (by decide)
  have eu : up2 I (a + 2) c nm a 0 = I a 0 := by rw [up2_row (by omega)]
  rw [e11]
  simp only [r11_0, r11_1, r11_4, r11_5, r11_6, r11_7, r11_8, r11_11, r11_12, r11_13, r11_16, r11_17, r11_20, r11_21, r11_22, r11_23, r11_24, r11_25, r11_26, r11_27, r11_28, r11_31, s1, s2, s3, r1, r2, hc, i3_5, ix3, n1, n2, hin, h4, q_ix (show c < 2147483648 by omega), if_false, nI_1, tm_in, or_true, true_or, tm_cs0, tm_cs1, tm_cs2, tm_cs3, tm_cs4, true_and, and_true, and_self, Option.toList_some, Option.toList_none, List.cons_append, List.nil_append, tm_rf_some, tm_rf_none]
  rw [c9 _ _ _ _ hF' i3_5]
  simp only [r11_0, r11_1, r11_4, r11_5, r11_6, r11_7, r11_8, r11_11, r11_12, r11_13, r11_16, r11_17, r11_20, r11_21, r11_22, r11_23, r11_24, r11_25, r11_26, r11_27, r11_28, r11_31, ix3, eu, tm_in, or_true, true_or, tm_cs0, tm_cs1, tm_cs2, tm_cs3, tm_cs4, true_and, and_true, and_self, Option.toList_some, Option.toList_none, List.cons_append, List.nil_append, tm_rf_some, tm_rf_none]
/-- what take leaves: the fields in the bits, from another -/
def p_take (I : Nat → Nat → Int32) (a t : Nat) (bits : Int32) : Nat → Nat → Int32 := fun b k =>
  if b = a then (if k = 0 then (I a 0 &&& (bits ^^^ -1)) ||| (I t 0 &&& bits) else if k = 1 ∧ p_bitB bits 2 = true then I t 1 else I a k)
  else if b = a + 1 then (if k < 5 ∧ p_bitB bits k = true then I (t + 1) k else I (a + 1) k)
  else if b = a + 2 then (if k < 3 ∧ p_bitB bits 3 = true then I (t + 2) k else I (a + 2) k)
  else I b k
theorem c12_l (d : Nat) (bits : Int32) (K : Option Value → tm_H → Prop) (hF : tp_F G R a) (hT : tp_F G R t) (hne : t + 2 < a ∨ a + 2 < t) : ∀ (n i : Nat), i + n = 5 → (tm_A d 12 21 [some (.ref a), some (.ref t), some (.int bits), some (.int (nI i))] [] (G, upr I (a + 1) (fun k => if k < i ∧ p_bitB bits k = true then I (t + 1) k else I (a + 1) k), J, R) K ↔ tm_A d 12 53 [some (.ref a), some (.ref t), some (.int bits), some (.int (nI 5))] [] (G, upr I (a + 1) (fun k => if k < 5 ∧ p_bitB bits k = true then I (t + 1) k else I (a + 1) k), J, R) K) := by
  obtain ⟨h3, s1, s2, s3, r1, r2⟩ := hF
  obtain ⟨h3', s1', s2', s3', r1', r2'⟩ := hT
  have h4 : 3 ≤ a + 1 := by omega
  intro n
  induction n with
  | zero =>
    intro i hi
    have hi : i = 5 := by omega
    subst hi
    have hc : (5 : Int32) ≤ nI 5 := by decide
    rw [r12_21]
    simp only [r12_22, r12_23, hc, if_true]
  | succ n ih =>
    intro i hi
    have hc : ¬ (5 : Int32) ≤ nI i := fun q => by
      have := (q_le (a := 5) (b := i) rfl rfl (by decide) (by omega)).mp q
      omega
    have hin : tm_in (nI i) 5 := q_in (by omega) (by decide)
    have ert : upr I (a + 1) (fun k => if k < i ∧ p_bitB bits k = true then I (t + 1) k else I (a + 1) k) (t + 1) = I (t + 1) := upr_ne (by omega)
    rw [r12_21]
    simp only [r12_0, r12_1, r12_2, r12_5, r12_6, r12_7, r12_8, r12_9, r12_9n, r12_10, r12_13, r12_14, r12_15, r12_16, r12_19, r12_20, r12_22, r12_23, r12_26, r12_27, r12_28, r12_29, r12_30, r12_31, r12_32, r12_35, r12_36, r12_39, r12_40, r12_40n, r12_41, r12_44, r12_45, r12_46, r12_47, r12_50, r12_54, r12_55, r12_56, r12_57, r12_58, r12_59, r12_62, r12_63, r12_63n, r12_64, r12_67, r12_70, r12_71, r12_72, r12_73, r12_74, r12_75, r12_76, r12_79, r12_79n, r12_80, r12_83, r12_84, r12_85, r12_88, r12_89, r12_90, r12_93, hc, if_false, s1, s2, s1', s2', r1, r1', h4, hin, ert, q_ix (show i < 2147483648 by omega), nI_1, up2_upr, tm_in, or_true, true_or, tm_cs0, tm_cs1, tm_cs2, tm_cs3, tm_cs4, true_and, and_true, and_self, Option.toList_some, Option.toList_none, List.cons_append, List.nil_append, tm_rf_some, tm_rf_none]
    have ih' := ih (i + 1) (by omega)
    by_cases hb : (bits >>> (nI i &&& 31)) &&& 1 = 1
    · have hbB : p_bitB bits i = true := by unfold p_bitB; rw [hb]; decide
      have ef : (fun k => if k = i then I (t + 1) i else if k < i ∧ p_bitB bits k = true then I (t + 1) k else I (a + 1) k) = (fun k => if k < i + 1 ∧ p_bitB bits k = true then I (t + 1) k else I (a + 1) k) := by
        funext k
        by_cases hk : k = i
        · subst hk
          simp [hbB]
        · have : (k < i + 1) ↔ k < i := by omega
          simp only [hk, if_false, this]
      simp only [hb, not_true, if_false, ef]
      exact ih'
    · have hbB : ¬ p_bitB bits i = true := by unfold p_bitB; simp [hb]
      have ef : (fun k => if k < i ∧ p_bitB bits k = true then I (t + 1) k else I (a + 1) k) = (fun k => if k < i + 1 ∧ p_bitB bits k = true then I (t + 1) k else I (a + 1) k) := by
        funext k
        by_cases hk : k = i
        · subst hk
          simp [hbB]
        · have : (k < i + 1) ↔ k < i := by omega
          simp only [this]
      simp only [hb, not_false_eq_true, if_true, ef]
      exact ih'
theorem c12 (d : Nat) (bits : Int32) (K : Option Value → tm_H → Prop) (hF : tp_F G R a) (hT : tp_F G R t) (hne : t + 2 < a ∨ a + 2 < t) : tm_R (d + 1) 12 [.ref a, .ref t, .int bits] (G, I, J, R) K ↔ K none (G, p_take I a t bits, J, R) := by
  have hF' := hF
  have hT' := hT
  obtain ⟨h3, s1, s2, s3, r1, r2⟩ := hF
  obtain ⟨h3', s1', s2', s3', r1', r2'⟩ := hT
  rw [e12]
  simp only [r12_0, r12_1, r12_2, r12_5, r12_6, r12_7, r12_8, r12_9, r12_9n, r12_10, r12_13, r12_14, r12_15, r12_16, r12_19, r12_20, s1, s1', tm_in, or_true, true_or, tm_cs0, tm_cs1, tm_cs2, tm_cs3, tm_cs4, true_and, and_true, and_self, Option.toList_some, Option.toList_none, List.cons_append, List.nil_append, tm_rf_some, tm_rf_none]
  generalize hI1 : up2 I a 0 ((I a 0 &&& (bits ^^^ -1)) ||| (I t 0 &&& bits)) = I1
  have key := c12_l (I := I1) (J := J) (d + 1) bits K hF' hT' hne 5 0 rfl
  have e0 : upr I1 (a + 1) (fun k => if k < 0 ∧ p_bitB bits k = true then I1 (t + 1) k else I1 (a + 1) k) = I1 := by
    have : (fun k => if k < 0 ∧ p_bitB bits k = true then I1 (t + 1) k else I1 (a + 1) k) = I1 (a + 1) := by funext k; simp
    rw [this, upr_self]
  rw [e0] at key
  rw [show (0 : Int32) = nI 0 from rfl, key]
  have h4 : 3 ≤ a + 2 := by omega
  have h4' : 3 ≤ t + 2 := by omega
  have g1 : ¬ (0 : Int32) < 0 := by decide
  have g2 : ¬ (3 : Int32) < 0 := by decide
  have g5 : tm_ix 0 + tm_ix 3 ≤ 3 := by decide
  simp only [r12_53, r12_54, r12_55, r12_56, r12_57, r12_58, r12_59, r12_62, r12_63, r12_63n, r12_64, r12_67, r12_70, r12_71, r12_72, r12_73, r12_74, r12_75, r12_76, r12_79, r12_79n, r12_80, r12_83, r12_84, r12_85, r12_88, r12_89, r12_90, r12_93, s1, s1', r2, r2', s3, s3', tm_in, or_true, true_or, tm_cs0, tm_cs1, tm_cs2, tm_cs3, tm_cs4, true_and, and_true, and_self, Option.toList_some, Option.toList_none, List.cons_append, List.nil_append, tm_rf_some, tm_rf_none]
  have ecp : ∀ I2 : Nat → Nat → Int32, tm_cp [.int 3, .int 0, .ref (a + 2), .int 0, .ref (t + 2)] (G, I2, J, R) = some ([], (G, upr I2 (a + 2) (va_cpy (I2 (t + 2)) (I2 (a + 2)) 0 0 3), J, R)) := by
    intro I2
    simp only [tm_cp, s3, s3', h4, h4', g1, g2, g5, ix0, ix3, List.map_nil, List.sum_nil, not_false_eq_true, true_and, and_self, Nat.zero_le, if_true, Nat.zero_add, Nat.le_refl]
  simp only [ecp, Option.some.injEq, exists_eq_left', r12_93]
  have fin : ∀ I2 : Nat → Nat → Int32, I2 = p_take I a t bits → (K none (G, I2, J, R) ↔ K none (G, p_take I a t bits, J, R)) := fun I2 e => by rw [e]
  have b2 : p_bitB bits 2 = true ↔ (bits >>> ((2 : Int32) &&& 31)) &&& 1 = 1 := by unfold p_bitB; rw [decide_eq_true_eq]; rfl
  have b3 : p_bitB bits 3 = true ↔ (bits >>> ((3 : Int32) &&& 31)) &&& 1 = 1 := by unfold p_bitB; rw [decide_eq_true_eq]; rfl
  have n1 : t ≠ a := by omega
  have n2 : t ≠ a + 1 := by omega
  have n3 : t + 1 ≠ a := by omega
  have n4 : t + 2 ≠ a + 1 := by omega
  have n5 : t + 2 ≠ a := by omega
  have n6 : t ≠ a + 2 := by omega
  have bt : ∀ (b k : Nat) (q2 q3 : Bool) , p_bitB bits 2 = q2 → p_bitB bits 3 = q3 → (if q3 = true then upr (if q2 = true then up2 (upr I1 (a + 1) (fun k => if k < 5 ∧ p_bitB bits k = true then I1 (t + 1) k else I1 (a + 1) k)) a 1 (I1 t 1) else upr I1 (a + 1) (fun k => if k < 5 ∧ p_bitB bits k = true then I1 (t + 1) k else I1 (a + 1) k)) (a + 2) (va_cpy (I1 (t + 2)) (I1 (a + 2)) 0 0 3) else (if q2 = true then up2 (upr I1 (a + 1) (fun k => if k < 5 ∧ p_bitB bits k = true then I1 (t + 1) k else I1 (a + 1) k)) a 1 (I1 t 1) else upr I1 (a + 1) (fun k => if k < 5 ∧ p_bitB bits k = true then I1 (t + 1) k else I1 (a + 1) k))) b k = p_take I a t bits b k := by
    clear key ecp fin
    intro b k q2 q3 e2 e3
    subst hI1
    rcases (show b = a ∨ b = a + 1 ∨ b = a + 2 ∨ (b ≠ a ∧ b ≠ a + 1 ∧ b ≠ a + 2) by omega) with rfl | rfl | rfl | ⟨z1, z2, z3⟩
    · cases q2 <;> cases q3 <;> by_cases k0 : k = 0 <;> by_cases k1 : k = 1 <;> simp [p_take, up2, upr, e2, e3, k0, k1, n1] <;> omega
    · cases q2 <;> cases q3 <;> simp [p_take, up2, upr, e2, e3, n3]
    · cases q2 <;> cases q3 <;> simp [p_take, up2, upr, e2, e3, n5, va_cpy]
    · cases q2 <;> cases q3 <;> simp [p_take, up2, upr, e2, e3, z1, z2, z3]
  have ux : ∀ (f : Nat → Int32), upr I1 (a + 1) f t = I1 t := fun f => upr_ne n2
  have ux2 : ∀ (f : Nat → Int32), upr I1 (a + 1) f (t + 2) = I1 (t + 2) := fun f => upr_ne n4
  have ux3 : ∀ (f : Nat → Int32), upr I1 (a + 1) f (a + 2) = I1 (a + 2) := fun f => upr_ne (by omega)
  have uy2 : ∀ (f : Nat → Int32) (v : Int32), up2 (upr I1 (a + 1) f) a 1 v (t + 2) = I1 (t + 2) := fun f v => by rw [up2_row n5]; exact upr_ne n4
  have uy3 : ∀ (f : Nat → Int32) (v : Int32), up2 (upr I1 (a + 1) f) a 1 v (a + 2) = I1 (a + 2) := fun f v => by rw [up2_row (by omega)]; exact upr_ne (by omega)
  by_cases h2 : (bits >>> ((2 : Int32) &&& 31)) &&& 1 = 1
  · by_cases h3 : (bits >>> ((3 : Int32) &&& 31)) &&& 1 = 1
    · simp only [h2, h3, not_true, if_false, ux, uy2, uy3]
      exact fin _ (by funext b k; rw [← bt b k true true (b2.mpr h2) (b3.mpr h3)]; rfl)
    · simp only [h2, h3, not_true, not_false_eq_true, if_true, if_false, ux]
      exact fin _ (by funext b k; rw [← bt b k true false (b2.mpr h2) (Bool.eq_false_iff.mpr (fun q => h3 (b3.mp q)))]; rfl)
  · by_cases h3 : (bits >>> ((3 : Int32) &&& 31)) &&& 1 = 1
    · simp only [h2, h3, not_true, not_false_eq_true, if_true, if_false, ux2, ux3]
      exact fin _ (by funext b k; rw [← bt b k false true (Bool.eq_false_iff.mpr (fun q => h2 (b2.mp q))) (b3.mpr h3)]; rfl)
    · simp only [h2, h3, not_false_eq_true, if_true, if_false]
      exact fin _ (by funext b k; rw [← bt b k false false (Bool.eq_false_iff.mpr (fun q => h2 (b2.mp q))) (Bool.eq_false_iff.mpr (fun q => h3 (b3.mp q)))]; rfl)
end FC2
