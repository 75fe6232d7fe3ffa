/-! The constructors, second half. -/
theorem lo_d {l : List (Nat × Nat × Nat)} {c : Nat} (h : l.all (fun e => decide (e.1 < c)) = true) : lo l c := fun e he => by
  have := List.all_eq_true.mp h e he
  exact of_decide_eq_true this
theorem sh_pw : ∀ t, t < 10 → (1 : Int32) <<< (nI t &&& 31) = nI (2 ^ t) := by decide
theorem up2_z2 {I : Nat → Nat → Int32} {a k : Nat} (h : I a k = 0) : up2 I a k 0 = I := by
  funext b j
  unfold up2
  by_cases e : b = a ∧ j = k
  · rw [if_pos e, e.1, e.2, h]
  · rw [if_neg e]
theorem Rx_e {q : Nat × Nat × Nat} {l : List (Nat × Nat × Nat)} {a k : Nat} : Rx (q :: l) a k = if a = q.1 ∧ k = q.2.1 then some q.2.2 else Rx l a k := rfl
theorem up2_nr {I : Nat → Nat → Int32} {a k b j : Nat} {v : Int32} (h : b ≠ a) : up2 I a k v b j = I b j := by
  unfold up2
  rw [if_neg (fun z => h z.1)]
theorem nI_1' : nI 1 = (1 : Int32) := rfl
section IN2
variable {L s : Nat} {I : Nat → Nat → Int32} {l : List (Nat × Nat × Nat)}
theorem k22_in (d : Nat) (K : Option Value → tm_H → Prop) (hR : Rx l 71 2 = some 74) {t : Nat} (ht : t < 10) : ∀ (n rest : Nat) (y : Nat → Int32), rest + n = 2 ^ t → 1 ≤ rest → (∀ k, 1 ≤ k → k < 2 ^ t + rest → y k = nI (p_low 10 k)) → (∀ y', (∀ k, 1 ≤ k → k < 2 ^ (t + 1) → y' k = nI (p_low 10 k)) → tm_A d 22 97 [some (.ref 71), some (.int (nI t)), some (.int (nI (2 ^ t)))] [] ((76, s, Sx L 76), upr I 74 y', zJ, Rx l) K) → tm_A d 22 68 [some (.ref 71), some (.int (nI t)), some (.int (nI rest))] [] ((76, s, Sx L 76), upr I 74 y, zJ, Rx l) K := by
  have h2t : (2 : Nat) ^ t ≤ 2 ^ 9 := Nat.pow_le_pow_right (by decide) (by omega)
  have esh := sh_pw t ht
  have s71 : Sx L 76 71 = (0, 2) := Sx_at (by decide) (by decide) rfl
  have s74 : Sx L 76 74 = (1, 1024) := Sx_at (by decide) (by decide) rfl
  intro n
  induction n with
  | zero =>
    intro rest y hr h1 hy hK
    have : rest = 2 ^ t := by omega
    subst this
    have hc : nI (2 ^ t) ≤ nI (2 ^ t) := Int32.le_refl _
    rw [r22_68]
    simp only [r22_69, r22_70, r22_71, r22_72, esh, hc, if_true]
    exact hK y (fun k h1 h2 => hy k h1 (by rw [Nat.pow_succ] at h2; omega))
  | succ n ih =>
    intro rest y hr h1 hy hK
    have hrl : rest < 2 ^ t := by omega
    have hc : ¬ nI (2 ^ t) ≤ nI rest := fun z => by
      have := (q_le (a := 2 ^ t) (b := rest) rfl rfl (by omega) (by omega)).mp z
      omega
    have ir : tm_in (nI rest) 1024 := q_in (by omega) (by decide)
    have ib : tm_in (nI (2 ^ t + rest)) 1024 := q_in (by omega) (by decide)
    have eor : nI (2 ^ t) ||| nI rest = nI (2 ^ t + rest) := by rw [nI_or, or_pow hrl]
    obtain ⟨lu, llt⟩ := low_up ht h1 hrl
    have ey : upr I 74 y 74 rest = y rest := by rw [upr_at]
    rw [r22_68]
    simp only [r22_69, r22_70, r22_71, r22_72, r22_75, r22_76, r22_79, r22_80, r22_81, r22_82, r22_83, r22_84, r22_85, r22_88, r22_89, r22_90, r22_91, r22_94, esh, hc, if_false, s71, s74, hR, eor, ir, ib, q_ix (show rest < 2147483648 by omega), q_ix (show 2 ^ t + rest < 2147483648 by omega), ey, up2_upr, nI_1, show 3 ≤ 74 by decide, tm_in, or_true, true_or, tm_cs0, tm_cs1, tm_cs2, tm_cs3, tm_cs4, true_and, and_true, and_self, Option.toList_some, Option.toList_none, List.cons_append, List.nil_append, tm_rf_some, tm_rf_none]
    refine ih (rest + 1) _ (by omega) (by omega) (fun k h1' h2' => ?_) hK
    by_cases e : k = 2 ^ t + rest
    · simp only [e, if_true]
      rw [hy rest h1 (by omega), lu]
    · simp only [e, if_false]
      exact hy k h1' (by omega)
theorem k22_l (d : Nat) (K : Option Value → tm_H → Prop) (hR : Rx l 71 2 = some 74) : ∀ (n t : Nat) (y : Nat → Int32) (o : Option Value), t + n = 10 → (∀ k, 1 ≤ k → k < 2 ^ t → y k = nI (p_low 10 k)) → (∀ y', (∀ k, 1 ≤ k → k < 1024 → y' k = nI (p_low 10 k)) → K none ((76, s, Sx L 76), upr I 74 y', zJ, Rx l)) → tm_A d 22 51 [some (.ref 71), some (.int (nI t)), o] [] ((76, s, Sx L 76), upr I 74 y, zJ, Rx l) K := by
  have s71 : Sx L 76 71 = (0, 2) := Sx_at (by decide) (by decide) rfl
  have s74 : Sx L 76 74 = (1, 1024) := Sx_at (by decide) (by decide) rfl
  intro n
  induction n with
  | zero =>
    intro t y o ht hy hK
    have : t = 10 := by omega
    subst this
    have hc : (10 : Int32) ≤ nI 10 := by decide
    rw [r22_51]
    simp only [r22_52, r22_54, r22_103, hc, if_true]
    exact hK y hy
  | succ n ih =>
    intro t y o ht hy hK
    have ht10 : t < 10 := by omega
    have h2t : (2 : Nat) ^ t ≤ 2 ^ 9 := Nat.pow_le_pow_right (by decide) (by omega)
    have h2p : 0 < (2 : Nat) ^ t := Nat.pow_pos (by decide)
    have esh := sh_pw t ht10
    have hc : ¬ (10 : Int32) ≤ nI t := fun z => by
      have := (q_le (a := 10) (b := t) rfl rfl (by decide) (by omega)).mp z
      omega
    have ib : tm_in (nI (2 ^ t)) 1024 := q_in (by omega) (by decide)
    rw [r22_51]
    simp only [r22_52, r22_54, r22_57, r22_58, r22_61, r22_62, r22_63, r22_64, r22_65, r22_66, r22_67, hc, if_false, s71, s74, hR, esh, ib, q_ix (show 2 ^ t < 2147483648 by omega), up2_upr, show 3 ≤ 74 by decide, tm_in, or_true, true_or, tm_cs0, tm_cs1, tm_cs2, tm_cs3, tm_cs4, true_and, and_true, and_self, Option.toList_some, Option.toList_none, List.cons_append, List.nil_append, tm_rf_some, tm_rf_none]
    rw [← nI_1']
    refine k22_in d K hR ht10 (2 ^ t - 1) 1 _ (by omega) (by decide) (fun k h1 h2 => ?_) (fun y' hy' => ?_)
    · by_cases e : k = 2 ^ t
      · simp only [e, if_true]
        rw [low_pow ht10]
      · simp only [e, if_false]
        exact hy k h1 (by omega)
    · simp only [r22_97, r22_100, nI_1]
      exact ih (t + 1) y' _ (by omega) hy' hK
theorem k22 (d : Nat) (K : Option Value → tm_H → Prop) (hI : ∀ b, 3 ≤ b → I b = fun _ => 0) (hl : lo l 72) (hK : ∀ y, (∀ k, 1 ≤ k → k < 1024 → y k = nI (p_low 10 k)) → K none ((76, s + 1024 + 1024 + 1024 + 10, Sx L 76), upr I 74 y, zJ, Rx ((71, 3, 75) :: (71, 2, 74) :: (71, 1, 73) :: (71, 0, 72) :: l))) : tm_R (d + 1) 22 [.ref 71] ((72, s, Sx L 72), I, zJ, Rx l) K := by
  have z := up2_z (hI 71 (by decide))
  have l73 : lo ((71, 0, 72) :: l) 73 := lo_c (lo_m hl (by decide)) (by decide)
  have l74 : lo ((71, 1, 73) :: (71, 0, 72) :: l) 74 := lo_c (lo_m l73 (by decide)) (by decide)
  have l75 : lo ((71, 2, 74) :: (71, 1, 73) :: (71, 0, 72) :: l) 75 := lo_c (lo_m l74 (by decide)) (by decide)
  have hu : I = upr I 74 (I 74) := upr_self.symm
  rw [e22]
  simp only [r22_0, r22_1, r22_4, r22_5, r22_8, r22_10, r22_13, r22_14, r22_17, r22_19, r22_22, r22_23, r22_26, r22_28, r22_31, r22_32, r22_34, r22_36, r22_39, r22_40, r22_41, r22_44, r22_45, r22_46, r22_49, r22_50, Sx_at (L := L) (c := 73) (a := 71) (q := (0, 2)) (by decide) (by decide) rfl, Sx_at (L := L) (c := 74) (a := 71) (q := (0, 2)) (by decide) (by decide) rfl, Sx_at (L := L) (c := 75) (a := 71) (q := (0, 2)) (by decide) (by decide) rfl, Sx_at (L := L) (c := 76) (a := 71) (q := (0, 2)) (by decide) (by decide) rfl, z, up2_zJ, show ¬ (1024 : Int32) < 0 by decide, show ¬ (10 : Int32) < 0 by decide, show tm_ix 1024 = 1024 from rfl, show tm_ix 10 = 10 from rfl, show 1024 ≤ 100000 by decide, show 10 ≤ 100000 by decide, hn (L := L) (I := I) (c := 72) (c' := 73) (q := (2, 1024)) (by decide) rfl rfl (hI _ (by decide)) hl, hn (L := L) (I := I) (c := 73) (c' := 74) (q := (2, 1024)) (by decide) rfl rfl (hI _ (by decide)) l73, hn (L := L) (I := I) (c := 74) (c' := 75) (q := (1, 1024)) (by decide) rfl rfl (hI _ (by decide)) l74, hn (L := L) (I := I) (c := 75) (c' := 76) (q := (1, 10)) (by decide) rfl rfl (hI _ (by decide)) l75, Rx_put, not_false_eq_true, tm_in, or_true, true_or, tm_cs0, tm_cs1, tm_cs2, tm_cs3, tm_cs4, true_and, and_true, and_self, Option.toList_some, Option.toList_none, List.cons_append, List.nil_append, tm_rf_some, tm_rf_none]
  have := k22_l (L := L) (s := s + 1024 + 1024 + 1024 + 10) (I := I) (l := (71, 3, 75) :: (71, 2, 74) :: (71, 1, 73) :: (71, 0, 72) :: l) (d + 1) K (by rw [Rx_e, if_neg (by decide), Rx_e, if_pos (by decide)]) 10 0 (I 74) none rfl (fun k h1 h2 => by omega) hK
  rw [← hu] at this
  exact this
theorem k116 (d : Nat) (K : Option Value → tm_H → Prop) (hI : ∀ b, 89 ≤ b → I b = fun _ => 0) (hl : lo l 90) : tm_R (d + 1) 116 [.ref 89] ((90, s, Sx L 90), I, zJ, Rx l) K ↔ K none ((112, s + 100 + 5 + 18 + 3 + 70 + 70 + 70 + 70 + 350 + 70 + 70 + 1260 + 210 + 10 + 50 + 10 + 100 + 100 + 10 + 10 + 10 + 3, Sx L 112), up2 (up2 I 89 3 10) 89 4 3, zJ, Rx ((89, 36, 111) :: (89, 35, 110) :: (89, 31, 109) :: (89, 30, 108) :: (89, 29, 107) :: (89, 28, 106) :: (89, 27, 105) :: (89, 25, 104) :: (89, 24, 103) :: (89, 23, 102) :: (89, 22, 101) :: (89, 21, 100) :: (89, 20, 99) :: (89, 19, 98) :: (89, 18, 97) :: (89, 17, 96) :: (89, 16, 95) :: (89, 15, 94) :: (89, 12, 93) :: (89, 11, 92) :: (89, 9, 91) :: (89, 5, 90) :: l)) := by
  have hJ : ∀ b, 90 ≤ b → up2 (up2 I 89 3 10) 89 4 3 b = fun _ => 0 := fun b hb => by
    funext k
    rw [up2_nr (by omega), up2_nr (by omega), hI b (by omega)]
  have l91 : lo ((89, 5, 90) :: l) 91 := lo_c (lo_m hl (by decide)) (by decide)
  have l92 : lo ((89, 9, 91) :: (89, 5, 90) :: l) 92 := lo_c (lo_m l91 (by decide)) (by decide)
  have l93 : lo ((89, 11, 92) :: (89, 9, 91) :: (89, 5, 90) :: l) 93 := lo_c (lo_m l92 (by decide)) (by decide)
  have l94 : lo ((89, 12, 93) :: (89, 11, 92) :: (89, 9, 91) :: (89, 5, 90) :: l) 94 := lo_c (lo_m l93 (by decide)) (by decide)
  have l95 : lo ((89, 15, 94) :: (89, 12, 93) :: (89, 11, 92) :: (89, 9, 91) :: (89, 5, 90) :: l) 95 := lo_c (lo_m l94 (by decide)) (by decide)
  have l96 : lo ((89, 16, 95) :: (89, 15, 94) :: (89, 12, 93) :: (89, 11, 92) :: (89, 9, 91) :: (89, 5, 90) :: l) 96 := lo_c (lo_m l95 (by decide)) (by decide)
  have l97 : lo ((89, 17, 96) :: (89, 16, 95) :: (89, 15, 94) :: (89, 12, 93) :: (89, 11, 92) :: (89, 9, 91) :: (89, 5, 90) :: l) 97 := lo_c (lo_m l96 (by decide)) (by decide)
  have l98 : lo ((89, 18, 97) :: (89, 17, 96) :: (89, 16, 95) :: (89, 15, 94) :: (89, 12, 93) :: (89, 11, 92) :: (89, 9, 91) :: (89, 5, 90) :: l) 98 := lo_c (lo_m l97 (by decide)) (by decide)
  have l99 : lo ((89, 19, 98) :: (89, 18, 97) :: (89, 17, 96) :: (89, 16, 95) :: (89, 15, 94) :: (89, 12, 93) :: (89, 11, 92) :: (89, 9, 91) :: (89, 5, 90) :: l) 99 := lo_c (lo_m l98 (by decide)) (by decide)
  have l100 : lo ((89, 20, 99) :: (89, 19, 98) :: (89, 18, 97) :: (89, 17, 96) :: (89, 16, 95) :: (89, 15, 94) :: (89, 12, 93) :: (89, 11, 92) :: (89, 9, 91) :: (89, 5, 90) :: l) 100 := lo_c (lo_m l99 (by decide)) (by decide)
  have l101 : lo ((89, 21, 100) :: (89, 20, 99) :: (89, 19, 98) :: (89, 18, 97) :: (89, 17, 96) :: (89, 16, 95) :: (89, 15, 94) :: (89, 12, 93) :: (89, 11, 92) :: (89, 9, 91) :: (89, 5, 90) :: l) 101 := lo_c (lo_m l100 (by decide)) (by decide)
  have l102 : lo ((89, 22, 101) :: (89, 21, 100) :: (89, 20, 99) :: (89, 19, 98) :: (89, 18, 97) :: (89, 17, 96) :: (89, 16, 95) :: (89, 15, 94) :: (89, 12, 93) :: (89, 11, 92) :: (89, 9, 91) :: (89, 5, 90) :: l) 102 := lo_c (lo_m l101 (by decide)) (by decide)
  have l103 : lo ((89, 23, 102) :: (89, 22, 101) :: (89, 21, 100) :: (89, 20, 99) :: (89, 19, 98) :: (89, 18, 97) :: (89, 17, 96) :: (89, 16, 95) :: (89, 15, 94) :: (89, 12, 93) :: (89, 11, 92) :: (89, 9, 91) :: (89, 5, 90) :: l) 103 := lo_c (lo_m l102 (by decide)) (by decide)
  have l104 : lo ((89, 24, 103) :: (89, 23, 102) :: (89, 22, 101) :: (89, 21, 100) :: (89, 20, 99) :: (89, 19, 98) :: (89, 18, 97) :: (89, 17, 96) :: (89, 16, 95) :: (89, 15, 94) :: (89, 12, 93) :: (89, 11, 92) :: (89, 9, 91) :: (89, 5, 90) :: l) 104 := lo_c (lo_m l103 (by decide)) (by decide)
  have l105 : lo ((89, 25, 104) :: (89, 24, 103) :: (89, 23, 102) :: (89, 22, 101) :: (89, 21, 100) :: (89, 20, 99) :: (89, 19, 98) :: (89, 18, 97) :: (89, 17, 96) :: (89, 16, 95) :: (89, 15, 94) :: (89, 12, 93) :: (89, 11, 92) :: (89, 9, 91) :: (89, 5, 90) :: l) 105 := lo_c (lo_m l104 (by decide)) (by decide)
  have l106 : lo ((89, 27, 105) :: (89, 25, 104) :: (89, 24, 103) :: (89, 23, 102) :: (89, 22, 101) :: (89, 21, 100) :: (89, 20, 99) :: (89, 19, 98) :: (89, 18, 97) :: (89, 17, 96) :: (89, 16, 95) :: (89, 15, 94) :: (89, 12, 93) :: (89, 11, 92) :: (89, 9, 91) :: (89, 5, 90) :: l) 106 := lo_c (lo_m l105 (by decide)) (by decide)
  have l107 : lo ((89, 28, 106) :: (89, 27, 105) :: (89, 25, 104) :: (89, 24, 103) :: (89, 23, 102) :: (89, 22, 101) :: (89, 21, 100) :: (89, 20, 99) :: (89, 19, 98) :: (89, 18, 97) :: (89, 17, 96) :: (89, 16, 95) :: (89, 15, 94) :: (89, 12, 93) :: (89, 11, 92) :: (89, 9, 91) :: (89, 5, 90) :: l) 107 := lo_c (lo_m l106 (by decide)) (by decide)
  have l108 : lo ((89, 29, 107) :: (89, 28, 106) :: (89, 27, 105) :: (89, 25, 104) :: (89, 24, 103) :: (89, 23, 102) :: (89, 22, 101) :: (89, 21, 100) :: (89, 20, 99) :: (89, 19, 98) :: (89, 18, 97) :: (89, 17, 96) :: (89, 16, 95) :: (89, 15, 94) :: (89, 12, 93) :: (89, 11, 92) :: (89, 9, 91) :: (89, 5, 90) :: l) 108 := lo_c (lo_m l107 (by decide)) (by decide)
  have l109 : lo ((89, 30, 108) :: (89, 29, 107) :: (89, 28, 106) :: (89, 27, 105) :: (89, 25, 104) :: (89, 24, 103) :: (89, 23, 102) :: (89, 22, 101) :: (89, 21, 100) :: (89, 20, 99) :: (89, 19, 98) :: (89, 18, 97) :: (89, 17, 96) :: (89, 16, 95) :: (89, 15, 94) :: (89, 12, 93) :: (89, 11, 92) :: (89, 9, 91) :: (89, 5, 90) :: l) 109 := lo_c (lo_m l108 (by decide)) (by decide)
  have l110 : lo ((89, 31, 109) :: (89, 30, 108) :: (89, 29, 107) :: (89, 28, 106) :: (89, 27, 105) :: (89, 25, 104) :: (89, 24, 103) :: (89, 23, 102) :: (89, 22, 101) :: (89, 21, 100) :: (89, 20, 99) :: (89, 19, 98) :: (89, 18, 97) :: (89, 17, 96) :: (89, 16, 95) :: (89, 15, 94) :: (89, 12, 93) :: (89, 11, 92) :: (89, 9, 91) :: (89, 5, 90) :: l) 110 := lo_c (lo_m l109 (by decide)) (by decide)
  have l111 : lo ((89, 35, 110) :: (89, 31, 109) :: (89, 30, 108) :: (89, 29, 107) :: (89, 28, 106) :: (89, 27, 105) :: (89, 25, 104) :: (89, 24, 103) :: (89, 23, 102) :: (89, 22, 101) :: (89, 21, 100) :: (89, 20, 99) :: (89, 19, 98) :: (89, 18, 97) :: (89, 17, 96) :: (89, 16, 95) :: (89, 15, 94) :: (89, 12, 93) :: (89, 11, 92) :: (89, 9, 91) :: (89, 5, 90) :: l) 111 := lo_c (lo_m l110 (by decide)) (by decide)
  have l112 : lo ((89, 36, 111) :: (89, 35, 110) :: (89, 31, 109) :: (89, 30, 108) :: (89, 29, 107) :: (89, 28, 106) :: (89, 27, 105) :: (89, 25, 104) :: (89, 24, 103) :: (89, 23, 102) :: (89, 22, 101) :: (89, 21, 100) :: (89, 20, 99) :: (89, 19, 98) :: (89, 18, 97) :: (89, 17, 96) :: (89, 16, 95) :: (89, 15, 94) :: (89, 12, 93) :: (89, 11, 92) :: (89, 9, 91) :: (89, 5, 90) :: l) 112 := lo_c (lo_m l111 (by decide)) (by decide)
  rw [e116]
  simp only [r116_0, r116_1, r116_4, r116_5, r116_7, r116_10, r116_11, r116_12, r116_15, r116_16, r116_18, r116_20, r116_23, r116_24, r116_25, r116_27, r116_30, r116_31, r116_33, r116_35, r116_38, r116_39, r116_40, r116_42, r116_45, r116_46, r116_48, r116_50, r116_53, r116_54, r116_56, r116_58, r116_61, r116_62, r116_64, r116_66, r116_69, r116_70, r116_72, r116_74, r116_77, r116_78, r116_81, r116_83, r116_86, r116_87, r116_89, r116_91, r116_94, r116_95, r116_97, r116_99, r116_102, r116_103, r116_106, r116_108, r116_111, r116_112, r116_115, r116_117, r116_120, r116_121, r116_123, r116_125, r116_128, r116_129, r116_131, r116_133, r116_136, r116_137, r116_139, r116_141, r116_144, r116_145, r116_147, r116_149, r116_152, r116_153, r116_155, r116_157, r116_160, r116_161, r116_163, r116_165, r116_168, r116_169, r116_171, r116_173, r116_176, r116_177, r116_179, r116_181, r116_184, r116_185, r116_186, r116_188, r116_191, Sx_at (L := L) (c := 90) (a := 89) (q := (0, 10)) (by decide) (by decide) rfl, Sx_at (L := L) (c := 91) (a := 89) (q := (0, 10)) (by decide) (by decide) rfl, Sx_at (L := L) (c := 92) (a := 89) (q := (0, 10)) (by decide) (by decide) rfl, Sx_at (L := L) (c := 93) (a := 89) (q := (0, 10)) (by decide) (by decide) rfl, Sx_at (L := L) (c := 94) (a := 89) (q := (0, 10)) (by decide) (by decide) rfl, Sx_at (L := L) (c := 95) (a := 89) (q := (0, 10)) (by decide) (by decide) rfl, Sx_at (L := L) (c := 96) (a := 89) (q := (0, 10)) (by decide) (by decide) rfl, Sx_at (L := L) (c := 97) (a := 89) (q := (0, 10)) (by decide) (by decide) rfl, Sx_at (L := L) (c := 98) (a := 89) (q := (0, 10)) (by decide) (by decide) rfl, Sx_at (L := L) (c := 99) (a := 89) (q := (0, 10)) (by decide) (by decide) rfl, Sx_at (L := L) (c := 100) (a := 89) (q := (0, 10)) (by decide) (by decide) rfl, Sx_at (L := L) (c := 101) (a := 89) (q := (0, 10)) (by decide) (by decide) rfl, Sx_at (L := L) (c := 102) (a := 89) (q := (0, 10)) (by decide) (by decide) rfl, Sx_at (L := L) (c := 103) (a := 89) (q := (0, 10)) (by decide) (by decide) rfl, Sx_at (L := L) (c := 104) (a := 89) (q := (0, 10)) (by decide) (by decide) rfl, Sx_at (L := L) (c := 105) (a := 89) (q := (0, 10)) (by decide) (by decide) rfl, Sx_at (L := L) (c := 106) (a := 89) (q := (0, 10)) (by decide) (by decide) rfl, Sx_at (L := L) (c := 107) (a := 89) (q := (0, 10)) (by decide) (by decide) rfl, Sx_at (L := L) (c := 108) (a := 89) (q := (0, 10)) (by decide) (by decide) rfl, Sx_at (L := L) (c := 109) (a := 89) (q := (0, 10)) (by decide) (by decide) rfl, Sx_at (L := L) (c := 110) (a := 89) (q := (0, 10)) (by decide) (by decide) rfl, Sx_at (L := L) (c := 111) (a := 89) (q := (0, 10)) (by decide) (by decide) rfl, Sx_at (L := L) (c := 112) (a := 89) (q := (0, 10)) (by decide) (by decide) rfl, show ¬ (3 : Int32) < 0 by decide, show tm_ix 3 = 3 from rfl, show 3 ≤ 100000 by decide, show ¬ (5 : Int32) < 0 by decide, show tm_ix 5 = 5 from rfl, show 5 ≤ 100000 by decide, show ¬ (10 : Int32) < 0 by decide, show tm_ix 10 = 10 from rfl, show 10 ≤ 100000 by decide, show ¬ (18 : Int32) < 0 by decide, show tm_ix 18 = 18 from rfl, show 18 ≤ 100000 by decide, show ¬ (50 : Int32) < 0 by decide, show tm_ix 50 = 50 from rfl, show 50 ≤ 100000 by decide, show ¬ (70 : Int32) < 0 by decide, show tm_ix 70 = 70 from rfl, show 70 ≤ 100000 by decide, show ¬ (100 : Int32) < 0 by decide, show tm_ix 100 = 100 from rfl, show 100 ≤ 100000 by decide, show ¬ (210 : Int32) < 0 by decide, show tm_ix 210 = 210 from rfl, show 210 ≤ 100000 by decide, show ¬ (350 : Int32) < 0 by decide, show tm_ix 350 = 350 from rfl, show 350 ≤ 100000 by decide, show ¬ (1260 : Int32) < 0 by decide, show tm_ix 1260 = 1260 from rfl, show 1260 ≤ 100000 by decide, hn (L := L) (I := up2 (up2 I 89 3 10) 89 4 3) (c := 90) (c' := 91) (q := (1, 100)) (by decide) rfl rfl (hJ 90 (by decide)) hl, hn (L := L) (I := up2 (up2 I 89 3 10) 89 4 3) (c := 91) (c' := 92) (q := (1, 5)) (by decide) rfl rfl (hJ 91 (by decide)) l91, hn (L := L) (I := up2 (up2 I 89 3 10) 89 4 3) (c := 92) (c' := 93) (q := (1, 18)) (by decide) rfl rfl (hJ 92 (by decide)) l92, hn (L := L) (I := up2 (up2 I 89 3 10) 89 4 3) (c := 93) (c' := 94) (q := (1, 3)) (by decide) rfl rfl (hJ 93 (by decide)) l93, hn (L := L) (I := up2 (up2 I 89 3 10) 89 4 3) (c := 94) (c' := 95) (q := (1, 70)) (by decide) rfl rfl (hJ 94 (by decide)) l94, hn (L := L) (I := up2 (up2 I 89 3 10) 89 4 3) (c := 95) (c' := 96) (q := (1, 70)) (by decide) rfl rfl (hJ 95 (by decide)) l95, hn (L := L) (I := up2 (up2 I 89 3 10) 89 4 3) (c := 96) (c' := 97) (q := (1, 70)) (by decide) rfl rfl (hJ 96 (by decide)) l96, hn (L := L) (I := up2 (up2 I 89 3 10) 89 4 3) (c := 97) (c' := 98) (q := (1, 70)) (by decide) rfl rfl (hJ 97 (by decide)) l97, hn (L := L) (I := up2 (up2 I 89 3 10) 89 4 3) (c := 98) (c' := 99) (q := (1, 350)) (by decide) rfl rfl (hJ 98 (by decide)) l98, hn (L := L) (I := up2 (up2 I 89 3 10) 89 4 3) (c := 99) (c' := 100) (q := (1, 70)) (by decide) rfl rfl (hJ 99 (by decide)) l99, hn (L := L) (I := up2 (up2 I 89 3 10) 89 4 3) (c := 100) (c' := 101) (q := (1, 70)) (by decide) rfl rfl (hJ 100 (by decide)) l100, hn (L := L) (I := up2 (up2 I 89 3 10) 89 4 3) (c := 101) (c' := 102) (q := (1, 1260)) (by decide) rfl rfl (hJ 101 (by decide)) l101, hn (L := L) (I := up2 (up2 I 89 3 10) 89 4 3) (c := 102) (c' := 103) (q := (1, 210)) (by decide) rfl rfl (hJ 102 (by decide)) l102, hn (L := L) (I := up2 (up2 I 89 3 10) 89 4 3) (c := 103) (c' := 104) (q := (1, 10)) (by decide) rfl rfl (hJ 103 (by decide)) l103, hn (L := L) (I := up2 (up2 I 89 3 10) 89 4 3) (c := 104) (c' := 105) (q := (1, 50)) (by decide) rfl rfl (hJ 104 (by decide)) l104, hn (L := L) (I := up2 (up2 I 89 3 10) 89 4 3) (c := 105) (c' := 106) (q := (1, 10)) (by decide) rfl rfl (hJ 105 (by decide)) l105, hn (L := L) (I := up2 (up2 I 89 3 10) 89 4 3) (c := 106) (c' := 107) (q := (1, 100)) (by decide) rfl rfl (hJ 106 (by decide)) l106, hn (L := L) (I := up2 (up2 I 89 3 10) 89 4 3) (c := 107) (c' := 108) (q := (1, 100)) (by decide) rfl rfl (hJ 107 (by decide)) l107, hn (L := L) (I := up2 (up2 I 89 3 10) 89 4 3) (c := 108) (c' := 109) (q := (1, 10)) (by decide) rfl rfl (hJ 108 (by decide)) l108, hn (L := L) (I := up2 (up2 I 89 3 10) 89 4 3) (c := 109) (c' := 110) (q := (1, 10)) (by decide) rfl rfl (hJ 109 (by decide)) l109, hn (L := L) (I := up2 (up2 I 89 3 10) 89 4 3) (c := 110) (c' := 111) (q := (1, 10)) (by decide) rfl rfl (hJ 110 (by decide)) l110, hn (L := L) (I := up2 (up2 I 89 3 10) 89 4 3) (c := 111) (c' := 112) (q := (1, 3)) (by decide) rfl rfl (hJ 111 (by decide)) l111, Rx_put, not_false_eq_true, tm_in, or_true, true_or, tm_cs0, tm_cs1, tm_cs2, tm_cs3, tm_cs4, true_and, and_true, and_self, Option.toList_some, Option.toList_none, List.cons_append, List.nil_append, tm_rf_some, tm_rf_none]
end IN2
