/-! All of it holds once both are made. -/
section STA
variable {L s : Nat} {I : Nat → Nat → Int32} {y : Nat → Int32}
def kIf (I : Nat → Nat → Int32) (y : Nat → Int32) : Nat → Nat → Int32 := up2 (up2 (kI I y) 89 3 10) 89 4 3
theorem kIf_o {b : Nat} (h1 : b ≠ 3) (h2 : b ≠ 74) (h3 : b ≠ 89) : kIf I y b = I b := by
  funext k
  unfold kIf kI
  rw [up2_nr h3, up2_nr h3, up2_nr h1, up2_nr h1, up2_nr h1, upr_ne h2]
theorem kIf_74 : kIf I y 74 = y := by
  funext k
  unfold kIf kI
  rw [up2_nr (by decide), up2_nr (by decide), up2_nr (by decide), up2_nr (by decide), up2_nr (by decide), upr_at]
theorem kIf_89 (hI : I 89 = fun _ => 0) (k : Nat) : kIf I y 89 k = if k = 4 then 3 else if k = 3 then 10 else 0 := by
  unfold kIf kI
  by_cases h4 : k = 4
  · rw [if_pos h4, h4, up2_at]
  · rw [if_neg h4, up2_ne h4]
    by_cases h3 : k = 3
    · rw [if_pos h3, h3, up2_at]
    · rw [if_neg h3, up2_ne h3, up2_nr (by decide), up2_nr (by decide), up2_nr (by decide), upr_ne (by decide), hI]
theorem kIf_3 (hI : I 3 = fun _ => 0) (k : Nat) : kIf I y 3 k = if k = 10 then -1 else if k = 9 then 3 else if k = 8 then 10 else 0 := by
  unfold kIf kI
  rw [up2_nr (by decide), up2_nr (by decide)]
  by_cases h1 : k = 10
  · rw [if_pos h1, h1, up2_at]
  · rw [if_neg h1, up2_ne h1]
    by_cases h2 : k = 9
    · rw [if_pos h2, h2, up2_at]
    · rw [if_neg h2, up2_ne h2]
      by_cases h3 : k = 8
      · rw [if_pos h3, h3, up2_at]
      · rw [if_neg h3, up2_ne h3, upr_ne (by decide), hI]
def klf : List (Nat × Nat × Nat) := (89, 36, 111) :: (89, 35, 110) :: (89, 31, 109) :: (89, 30, 108) :: (89, 29, 107) :: (89, 28, 106) :: (89, 27, 105) :: (89, 25, 104) :: (89, 24, 103) :: (89, 23, 102) :: (89, 22, 101) :: (89, 21, 100) :: (89, 20, 99) :: (89, 19, 98) :: (89, 18, 97) :: (89, 17, 96) :: (89, 16, 95) :: (89, 15, 94) :: (89, 12, 93) :: (89, 11, 92) :: (89, 9, 91) :: (89, 5, 90) :: kl8
theorem klf_R : tp_R (Rx klf) := by
  unfold tp_R
  decide +kernel
theorem iv_start (hI : ∀ b, 3 ≤ b → I b = fun _ => 0) (hC : tp_C I) (hy : ∀ k, 1 ≤ k → k < 1024 → y k = nI (p_low 10 k)) (hs : s ≤ 100000) : iv ((112, s, Sx L 112), kIf I y, zJ, Rx klf) := by
  have h3 := kIf_3 (y := y) (hI 3 (by decide))
  have h89 := kIf_89 (y := y) (hI 89 (by decide))
  have ho : ∀ b, 4 ≤ b → b ≠ 74 → b ≠ 89 → kIf I y b = fun _ => 0 := fun b h1 h2 h3 => by rw [kIf_o (by omega) h2 h3]; exact hI b (by omega)
  refine ⟨0, 0, 0, 0, 10, 3, fun _ => 0, fun _ => 0, fun _ => 0, fun _ => 0, fun _ => 0, ⟨⟨Nat.le_refl _, fun a ha h1 => Sx_at h1 ha rfl⟩, klf_R, ?_, ?_, ?_, ?_, ?_, ?_, ?_, ?_⟩, Or.inl ?_⟩
  · show tp_C (kIf I y)
    unfold tp_C
    rw [kIf_o (b := 1) (by decide) (by decide) (by decide), kIf_o (b := 2) (by decide) (by decide) (by decide)]
    exact hC
  · show iv_sc (kIf I y) 0 0 0 0 10 3
    unfold iv_sc
    simp only [h3, h89, ho 9 (by decide) (by decide) (by decide), ho 4 (by decide) (by decide) (by decide)]
    decide
  · intro p hp
    omega
  · intro a b ha hb
    show kIf I y (48 + 1 * a) b = kIf I y 106 (10 * a + b) ∧ kIf I y 106 (10 * a + b) = kIf I y 106 (10 * b + a) ∧ _
    rw [ho (48 + 1 * a) (by omega) (by omega) (by omega), ho 106 (by decide) (by decide) (by decide)]
    refine ⟨rfl, rfl, Or.inl ?_⟩
    show kIf I y 106 (10 * a + b) = 0
    rw [ho 106 (by decide) (by decide) (by decide)]
  · refine ⟨fun i hi => by omega, fun j hj => by omega, fun j hj => by omega, ?_, ?_⟩
    · show kIf I y 11 0 = 0
      rw [ho 11 (by decide) (by decide) (by decide)]
    · show kIf I y 12 3 = 0
      rw [ho 12 (by decide) (by decide) (by decide)]
  · exact ⟨fun j hj => by omega, fun r hr => by omega, fun r s _ hs => by omega⟩
  · intro k h1 h2
    show kIf I y 74 k = _
    rw [kIf_74]
    exact hy k h1 h2
  · exact ⟨Nat.le_refl _, hs⟩
  · show kIf I y 3 10 = -1
    rw [h3]
    rfl
theorem h0_eq (L : Nat) (xs : Nat → Int32) : tp_h0 L xs = ((3, 0, Sx L 3), (tp_h0 L xs).2.1, zJ, Rx []) := by
  unfold tp_h0
  refine Prod.ext (Prod.ext rfl (Prod.ext rfl ?_)) rfl
  funext a
  show (if a = 0 then (1, L) else if a = 1 then (6, 5) else if a = 2 then (1, 5) else (99, 0)) = Sx L 3 a
  unfold Sx
  by_cases h0 : a = 0
  · rw [if_pos h0, if_pos (by omega), if_pos h0]
  · rw [if_neg h0]
    by_cases h1 : a = 1
    · subst h1; rfl
    · rw [if_neg h1]
      by_cases h2 : a = 2
      · subst h2; rfl
      · rw [if_neg h2, if_neg (by omega)]
theorem law_start (e L : Nat) (xs : Nat → Int32) (K : Option Value → tm_H → Prop) (hK : ∀ G I J R, iv (G, I, J, R) → G.2.2 0 = (1, L) → tm_A (e + 15) 175 18 [some (.ref 0), some (.ref 3), some (.ref 89), some (.int (nI 0))] [] (G, I, J, R) K) : tm_R (e + 15) 175 [.ref 0] (tp_h0 L xs) K := by
  have hI : ∀ b, 3 ≤ b → (tp_h0 L xs).2.1 b = fun _ => 0 := fun b hb => by
    funext k
    show (if b = 0 then xs k else if b = 1 then tp_mk k else if b = 2 then tp_hi k else 0) = 0
    rw [if_neg (by omega), if_neg (by omega), if_neg (by omega)]
  have hC : tp_C (tp_h0 L xs).2.1 := ⟨fun i _ => rfl, fun i _ => rfl⟩
  rw [h0_eq L xs]
  generalize (tp_h0 L xs).2.1 = I at hI hC
  rw [e175]
  simp only [r175_0, r175_3, r175_3i, r175_4, hn (L := L) (I := I) (c := 3) (c' := 4) (q := (0, 9)) (l := []) (by decide) rfl rfl (hI _ (by decide)) (lo_d rfl), tm_in, or_true, true_or, tm_cs0, tm_cs1, tm_cs2, tm_cs3, tm_cs4, true_and, and_true, and_self, Option.toList_some, Option.toList_none, List.cons_append, List.nil_append, tm_rf_some, tm_rf_none]
  refine k85 (e + 11) _ hI (fun y s' hy hs => ?_)
  have hJ : ∀ b, 89 ≤ b → kI I y b = fun _ => 0 := fun b hb => by
    funext k
    unfold kI
    rw [up2_nr (by omega), up2_nr (by omega), up2_nr (by omega), upr_ne (by omega), hI b (by omega)]
  simp only [r175_7, r175_7n, r175_8, r175_11, r175_11i, r175_12, r175_15, r175_15n, hn (L := L) (I := kI I y) (c := 89) (c' := 90) (q := (0, 10)) (l := kl8) (by decide) rfl rfl (hJ _ (by decide)) (lo_d rfl), k116 (L := L) (I := kI I y) (l := kl8) _ _ hJ (lo_d rfl), tm_in, or_true, true_or, tm_cs0, tm_cs1, tm_cs2, tm_cs3, tm_cs4, true_and, and_true, and_self, Option.toList_some, Option.toList_none, List.cons_append, List.nil_append, tm_rf_some, tm_rf_none]
  simp only [r175_16, r175_17]
  exact hK _ _ _ _ (iv_start hI hC hy (by omega)) rfl
end STA
