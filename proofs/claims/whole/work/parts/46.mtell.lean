/-! The reference: telling a text, a denial. -/
def p_cp (g src : Nat → Int32) (b n : Nat) : Nat → Int32 := fun j => if b ≤ j ∧ j < b + n then src (j - b) else g j
theorem p_cp_0 (g src : Nat → Int32) (b : Nat) : p_cp g src b 0 = g := by
  funext j
  unfold p_cp
  rw [if_neg (by omega)]
theorem p_cp_s (g src : Nat → Int32) (b i : Nat) : (fun k => if k = b + i then src i else p_cp g src b i k) = p_cp g src b (i + 1) := by
  funext k
  unfold p_cp
  by_cases h : k = b + i
  · subst h
    rw [if_pos rfl, if_pos (by omega), Nat.add_sub_cancel_left]
  · rw [if_neg h]
    by_cases h2 : b ≤ k ∧ k < b + i
    · rw [if_pos h2, if_pos (by omega)]
    · rw [if_neg h2, if_neg (by omega)]
theorem p_cp_in {g src : Nat → Int32} {b n j : Nat} (h : j < n) : p_cp g src b n (b + j) = src j := by
  unfold p_cp
  rw [if_pos (by omega), Nat.add_sub_cancel_left]
theorem p_cp_out {g src : Nat → Int32} {b n j : Nat} (h : j < b ∨ b + n ≤ j) : p_cp g src b n j = g j := by
  unfold p_cp
  rw [if_neg (by omega)]
def p_tell (I : Nat → Nat → Int32) (r : Nat) (x : Int32) : Nat → Nat → Int32 := fun b k =>
  if b = 89 then (if k = 14 then nI (r + 1) else if k = 6 then 0 else I 89 k)
  else if b = 94 then (if k = r then x else I 94 k) else if b = 95 then (if k = r then I 89 0 else I 95 k) else if b = 96 then (if k = r then I 89 7 else I 96 k)
  else if b = 97 then (if k = r then -1 else I 97 k) else if b = 98 then p_cp (I 98) (I 91) (5 * r) 5 k else if b = 99 then (if k = r then I 89 10 else I 99 k)
  else if b = 100 then (if k = r then I 89 8 else I 100 k) else if b = 101 then p_cp (I 101) (I 92) (18 * r) 18 k else if b = 102 then p_cp (I 102) (I 93) (3 * r) 3 k else I b k
section MTL
variable {G : tm_G} {I : Nat → Nat → Int32} {J : Nat → Nat → Int64} {R : Nat → Nat → Option Nat}
theorem m132_a (d : Nat) (x : Option Value) (K : Option Value → tm_H → Prop) (hS : tp_S G) (hR : tp_R R) {r : Nat} (hr : r < 70) : ∀ (k i : Nat), i + k = 5 → (tm_A d 132 71 [some (.ref 89), x, some (.int (nI r)), some (.int (nI i))] [] (G, upr I 98 (p_cp (I 98) (I 91) (5 * r) i), J, R) K ↔ tm_A d 132 98 [some (.ref 89), x, some (.int (nI r)), some (.int (nI 5))] [] (G, upr I 98 (p_cp (I 98) (I 91) (5 * r) 5), J, R) K) := by
  intro k
  induction k with
  | zero =>
    intro i hi
    have : i = 5 := by omega
    subst this
    have hc : (5 : Int32) ≤ nI 5 := by decide
    rw [r132_71]
    simp only [r132_72, r132_73, hc, if_true, tm_in, or_true, true_or, tm_cs0, tm_cs1, tm_cs2, tm_cs3, tm_cs4, true_and, and_true, and_self, Option.toList_some, Option.toList_none, List.cons_append, List.nil_append, tm_rf_some, tm_rf_none]
  | succ k ih =>
    intro i hi
    have hc : ¬ (5 : Int32) ≤ nI i := fun z => by
      have := (q_le (a := 5) (b := i) rfl rfl (by decide) (by omega)).mp z
      omega
    have e1 : (5 : Int32) * nI r + nI i = nI (5 * r + i) := by rw [show (5 : Int32) = nI 5 from rfl, pk_mul, nI_add]
    have i1 : tm_in (nI (5 * r + i)) 350 := q_in (by omega) (by decide)
    have i2 : tm_in (nI i) 5 := q_in (by omega) (by decide)
    have er : upr I 98 (p_cp (I 98) (I 91) (5 * r) i) 91 = I 91 := upr_ne (by decide)
    rw [r132_71]
    simp only [r132_72, r132_73, r132_76, r132_77, r132_80, r132_81, r132_82, r132_83, r132_84, r132_85, r132_86, r132_89, r132_90, r132_91, r132_92, r132_95, hc, if_false, sh_89 hS, sh_91 hS, sh_98 hS, rf_89_9 hR, rf_89_19 hR, e1, i1, i2, er, q_ix (show i < 2147483648 by omega), q_ix (show 5 * r + i < 2147483648 by omega), up2_upr, p_cp_s, nI_1, show 3 ≤ 98 by decide, tm_in, or_true, true_or, tm_cs0, tm_cs1, tm_cs2, tm_cs3, tm_cs4, true_and, and_true, and_self, Option.toList_some, Option.toList_none, List.cons_append, List.nil_append, tm_rf_some, tm_rf_none]
    exact ih (i + 1) (by omega)
theorem m132_b (d : Nat) (x : Option Value) (K : Option Value → tm_H → Prop) (hS : tp_S G) (hR : tp_R R) {r : Nat} (hr : r < 70) : ∀ (k i : Nat), i + k = 18 → (tm_A d 132 100 [some (.ref 89), x, some (.int (nI r)), some (.int (nI i))] [] (G, upr I 101 (p_cp (I 101) (I 92) (18 * r) i), J, R) K ↔ tm_A d 132 129 [some (.ref 89), x, some (.int (nI r)), some (.int (nI 18))] [] (G, upr I 101 (p_cp (I 101) (I 92) (18 * r) 18), J, R) K) := by
  intro k
  induction k with
  | zero =>
    intro i hi
    have : i = 18 := by omega
    subst this
    have hc : (18 : Int32) ≤ nI 18 := by decide
    rw [r132_100]
    simp only [r132_101, r132_103, hc, if_true, tm_in, or_true, true_or, tm_cs0, tm_cs1, tm_cs2, tm_cs3, tm_cs4, true_and, and_true, and_self, Option.toList_some, Option.toList_none, List.cons_append, List.nil_append, tm_rf_some, tm_rf_none]
  | succ k ih =>
    intro i hi
    have hc : ¬ (18 : Int32) ≤ nI i := fun z => by
      have := (q_le (a := 18) (b := i) rfl rfl (by decide) (by omega)).mp z
      omega
    have e1 : (18 : Int32) * nI r + nI i = nI (18 * r + i) := by rw [show (18 : Int32) = nI 18 from rfl, pk_mul, nI_add]
    have i1 : tm_in (nI (18 * r + i)) 1260 := q_in (by omega) (by decide)
    have i2 : tm_in (nI i) 18 := q_in (by omega) (by decide)
    have er : upr I 101 (p_cp (I 101) (I 92) (18 * r) i) 92 = I 92 := upr_ne (by decide)
    rw [r132_100]
    simp only [r132_101, r132_103, r132_106, r132_107, r132_110, r132_112, r132_113, r132_114, r132_115, r132_116, r132_117, r132_120, r132_121, r132_122, r132_123, r132_126, hc, if_false, sh_89 hS, sh_92 hS, sh_101 hS, rf_89_11 hR, rf_89_22 hR, e1, i1, i2, er, q_ix (show i < 2147483648 by omega), q_ix (show 18 * r + i < 2147483648 by omega), up2_upr, p_cp_s, nI_1, show 3 ≤ 101 by decide, tm_in, or_true, true_or, tm_cs0, tm_cs1, tm_cs2, tm_cs3, tm_cs4, true_and, and_true, and_self, Option.toList_some, Option.toList_none, List.cons_append, List.nil_append, tm_rf_some, tm_rf_none]
    exact ih (i + 1) (by omega)
theorem m132_c (d : Nat) (x : Option Value) (K : Option Value → tm_H → Prop) (hS : tp_S G) (hR : tp_R R) {r : Nat} (hr : r < 70) : ∀ (k i : Nat), i + k = 3 → (tm_A d 132 131 [some (.ref 89), x, some (.int (nI r)), some (.int (nI i))] [] (G, upr I 102 (p_cp (I 102) (I 93) (3 * r) i), J, R) K ↔ tm_A d 132 158 [some (.ref 89), x, some (.int (nI r)), some (.int (nI 3))] [] (G, upr I 102 (p_cp (I 102) (I 93) (3 * r) 3), J, R) K) := by
  intro k
  induction k with
  | zero =>
    intro i hi
    have : i = 3 := by omega
    subst this
    have hc : (3 : Int32) ≤ nI 3 := by decide
    rw [r132_131]
    simp only [r132_132, r132_133, hc, if_true, tm_in, or_true, true_or, tm_cs0, tm_cs1, tm_cs2, tm_cs3, tm_cs4, true_and, and_true, and_self, Option.toList_some, Option.toList_none, List.cons_append, List.nil_append, tm_rf_some, tm_rf_none]
  | succ k ih =>
    intro i hi
    have hc : ¬ (3 : Int32) ≤ nI i := fun z => by
      have := (q_le (a := 3) (b := i) rfl rfl (by decide) (by omega)).mp z
      omega
    have e1 : (3 : Int32) * nI r + nI i = nI (3 * r + i) := by rw [show (3 : Int32) = nI 3 from rfl, pk_mul, nI_add]
    have i1 : tm_in (nI (3 * r + i)) 210 := q_in (by omega) (by decide)
    have i2 : tm_in (nI i) 3 := q_in (by omega) (by decide)
    have er : upr I 102 (p_cp (I 102) (I 93) (3 * r) i) 93 = I 93 := upr_ne (by decide)
    rw [r132_131]
    simp only [r132_132, r132_133, r132_136, r132_137, r132_140, r132_141, r132_142, r132_143, r132_144, r132_145, r132_146, r132_149, r132_150, r132_151, r132_152, r132_155, hc, if_false, sh_89 hS, sh_93 hS, sh_102 hS, rf_89_12 hR, rf_89_23 hR, e1, i1, i2, er, q_ix (show i < 2147483648 by omega), q_ix (show 3 * r + i < 2147483648 by omega), up2_upr, p_cp_s, nI_1, show 3 ≤ 102 by decide, tm_in, or_true, true_or, tm_cs0, tm_cs1, tm_cs2, tm_cs3, tm_cs4, true_and, and_true, and_self, Option.toList_some, Option.toList_none, List.cons_append, List.nil_append, tm_rf_some, tm_rf_none]
    exact ih (i + 1) (by omega)
theorem m132 (d : Nat) (x : Int32) (K : Option Value → tm_H → Prop) (hS : tp_S G) (hR : tp_R R) {r : Nat} (hr : I 89 14 = nI r) (hr70 : r < 70) : tm_R d 132 [.ref 89, .int x] (G, I, J, R) K ↔ K none (G, p_tell I r x, J, R) := by
  have i1 : tm_in (nI r) 70 := q_in hr70 (by decide)
  rw [e132]
  simp only [r132_0, r132_1, r132_4, r132_5, r132_6, r132_6i, r132_7, r132_10, r132_11, r132_12, r132_15, r132_16, r132_19, r132_20, r132_21, r132_22, r132_23, r132_26, r132_27, r132_28, r132_31, r132_32, r132_33, r132_36, r132_37, r132_38, r132_41, r132_42, r132_43, r132_46, r132_47, r132_48, r132_49, r132_50, r132_53, r132_54, r132_55, r132_58, r132_59, r132_60, r132_63, r132_64, r132_65, r132_68, r132_69, r132_70, sh_89 hS, sh_94 hS, sh_95 hS, sh_96 hS, sh_97 hS, sh_99 hS, sh_100 hS, rf_89_15 hR, rf_89_16 hR, rf_89_17 hR, rf_89_18 hR, rf_89_20 hR, rf_89_21 hR, hr, i1, q_ix (show r < 2147483648 by omega), nI_1, show 3 ≤ 94 by decide, show 3 ≤ 95 by decide, show 3 ≤ 96 by decide, show 3 ≤ 97 by decide, show 3 ≤ 99 by decide, show 3 ≤ 100 by decide, tm_in, or_true, true_or, tm_cs0, tm_cs1, tm_cs2, tm_cs3, tm_cs4, true_and, and_true, and_self, Option.toList_some, Option.toList_none, List.cons_append, List.nil_append, tm_rf_some, tm_rf_none]
  generalize hI1 : up2 _ 100 r _ = I1
  have a := m132_a (G := G) (I := I1) (J := J) (R := R) d (some (.int x)) K hS hR hr70 5 0 rfl
  rw [p_cp_0, upr_self, nI_0] at a
  rw [a]
  simp only [r132_98, r132_99]
  generalize hI2 : upr I1 98 _ = I2
  have b := m132_b (G := G) (I := I2) (J := J) (R := R) d (some (.int x)) K hS hR hr70 18 0 rfl
  rw [p_cp_0, upr_self, nI_0] at b
  rw [b]
  simp only [r132_129, r132_130]
  generalize hI3 : upr I2 101 _ = I3
  have c := m132_c (G := G) (I := I3) (J := J) (R := R) d (some (.int x)) K hS hR hr70 3 0 rfl
  rw [p_cp_0, upr_self, nI_0] at c
  rw [c]
  simp only [r132_158, r132_159, r132_160, r132_163, sh_89 hS, tm_in, or_true, true_or, tm_cs0, tm_cs1, tm_cs2, tm_cs3, tm_cs4, true_and, and_true, and_self, Option.toList_some, Option.toList_none, List.cons_append, List.nil_append, tm_rf_some, tm_rf_none]
  have o1 : ∀ b k, b ≠ 89 → b < 94 ∨ 100 < b ∨ b = 98 → I1 b k = I b k := fun b k h1 h2 => by
    rw [← hI1, up2_row (by omega), up2_row (by omega), up2_row (by omega), up2_row (by omega), up2_row (by omega), up2_row (by omega), up2_row (by omega)]
  have e : up2 (upr I3 102 (p_cp (I3 102) (I3 93) (3 * r) 3)) 89 6 0 = p_tell I r x := by
    have c1 : I1 98 = I 98 := by funext k; exact o1 98 k (by decide) (by omega)
    have c2 : I1 91 = I 91 := by funext k; exact o1 91 k (by decide) (by omega)
    have c3 : I2 101 = I 101 := by funext k; rw [← hI2, upr_ne (by decide)]; exact o1 101 k (by decide) (by omega)
    have c4 : I2 92 = I 92 := by funext k; rw [← hI2, upr_ne (by decide)]; exact o1 92 k (by decide) (by omega)
    have c5 : I3 102 = I 102 := by funext k; rw [← hI3, upr_ne (by decide), ← hI2, upr_ne (by decide)]; exact o1 102 k (by decide) (by omega)
    have c6 : I3 93 = I 93 := by funext k; rw [← hI3, upr_ne (by decide), ← hI2, upr_ne (by decide)]; exact o1 93 k (by decide) (by omega)
    rw [c5, c6, ← hI3, c3, c4, ← hI2, c1, c2, ← hI1]
    clear a b c o1 c1 c2 c3 c4 c5 c6 hI1 hI2 hI3 hr
    funext b k
    by_cases h89 : b = 89
    · subst h89; simp [p_tell, up2, upr]; grind
    · by_cases h94 : b = 94
      · subst h94; simp [p_tell, up2, upr]
      · by_cases h95 : b = 95
        · subst h95; simp [p_tell, up2, upr]
        · by_cases h96 : b = 96
          · subst h96; simp [p_tell, up2, upr]
          · by_cases h97 : b = 97
            · subst h97; simp [p_tell, up2, upr]
            · by_cases h99 : b = 99
              · subst h99; simp [p_tell, up2, upr]
              · by_cases h100 : b = 100
                · subst h100; simp [p_tell, up2, upr]
                · by_cases h98 : b = 98
                  · subst h98; simp [p_tell, up2, upr]
                  · by_cases h101 : b = 101
                    · subst h101; simp [p_tell, up2, upr]
                    · by_cases h102 : b = 102
                      · subst h102; simp [p_tell, up2, upr]
                      · simp [p_tell, up2, upr, h89, h94, h95, h96, h97, h98, h99, h100, h101, h102]
  rw [e]
theorem m133 (d : Nat) (K : Option Value → tm_H → Prop) (hS : tp_S G) (hR : tp_R R) {n rp c : Nat} (hn : I 89 6 = nI n) (hn100 : n ≤ 100) (hz : ∀ p, p < n → I 90 p ≠ 0) (hrp : I 89 1 = nI rp) (hrp10 : rp ≤ 10) (hc : I 89 14 = nI c) (hc70 : rp < 10 → c < 70) (u : Int32) (v w : Nat → Int32) (h10 : rp = 10 → K (some (.int (-1))) (G, I, J, R)) (hK : rp < 10 → ∀ M', ((p_read (I 90) n u v w).1 = -1 → p_dm (p_read (I 90) n u v w).2 M') → if (p_read (I 90) n u v w).1 = -1 then K (some (.int (nI rp))) (G, p_tell (up2 (up2 (tp_mr I M') 103 rp (I 89 0)) 89 1 (nI (rp + 1))) c (nI rp), J, R) else K (some (.int (-1))) (G, tp_mr I M', J, R)) : tm_R (d + 4) 133 [.ref 89] (G, I, J, R) K := by
  rw [e133]
  by_cases h : rp = 10
  · have e : nI rp = 10 := by rw [h]; rfl
    simp only [r133_0, r133_1, r133_4, r133_6, r133_17, r133_18, sh_89 hS, hrp, e, if_true, tm_in, or_true, true_or, tm_cs0, tm_cs1, tm_cs2, tm_cs3, tm_cs4, true_and, and_true, and_self, Option.toList_some, Option.toList_none, List.cons_append, List.nil_append, tm_rf_some, tm_rf_none]
    exact h10 h
  · have hlt : rp < 10 := by omega
    have e : ¬ nI rp = 10 := fun z => h ((q_eq (a := rp) (b := 10) rfl rfl (by omega) (by decide)).mp z)
    simp only [r133_0, r133_1, r133_4, r133_6, r133_9, r133_10, sh_89 hS, hrp, e, if_false, tm_in, or_true, true_or, tm_cs0, tm_cs1, tm_cs2, tm_cs3, tm_cs4, true_and, and_true, and_self, Option.toList_some, Option.toList_none, List.cons_append, List.nil_append, tm_rf_some, tm_rf_none]
    refine m131 d _ hS hR hn hn100 hz u v w (fun M' hM' => ?_)
    have hk := hK hlt M' hM'
    simp only [r133_13, r133_14, tm_in, or_true, true_or, tm_cs0, tm_cs1, tm_cs2, tm_cs3, tm_cs4, true_and, and_true, and_self, Option.toList_some, Option.toList_none, List.cons_append, List.nil_append, tm_rf_some, tm_rf_none]
    by_cases hf : (p_read (I 90) n u v w).1 = -1
    · rw [if_pos hf] at hk
      have i1 : tm_in (nI rp) 10 := q_in hlt (by decide)
      have q1 : tp_mr I M' 89 1 = nI rp := by rw [mr_o9 (by decide)]; exact hrp
      have q0 : tp_mr I M' 89 0 = I 89 0 := mr_o9 (by decide)
      have q2 : ∀ z, up2 (tp_mr I M') 103 rp z 89 1 = nI rp := fun z => by rw [up2_row (by decide)]; exact q1
      have q3 : nI (rp + 1) - 1 = nI rp := nI_pred rp
      have q4 : up2 (up2 (tp_mr I M') 103 rp (I 89 0)) 89 1 (nI (rp + 1)) 89 14 = nI c := by rw [up2_ne (by decide), up2_row (by decide), mr_o9 (by decide)]; exact hc
      have q5 : p_tell (up2 (up2 (tp_mr I M') 103 rp (I 89 0)) 89 1 (nI (rp + 1))) c (nI rp) 89 1 = nI (rp + 1) := by
        simp only [p_tell, if_true, show ¬ (1 : Nat) = 14 by decide, show ¬ (1 : Nat) = 6 by decide, if_false]
        exact up2_at
      simp only [hf, if_true, r133_19, r133_20, r133_23, r133_24, r133_27, r133_28, r133_31, r133_32, r133_33, r133_33i, r133_34, r133_37, r133_38, r133_39, r133_42, r133_43, r133_44, r133_47, r133_48, r133_49, sh_89 hS, sh_103 hS, rf_89_24 hR, q1, q0, q2, i1, q_ix (show rp < 2147483648 by omega), nI_1, up2_at, q3, m132 _ _ _ hS hR q4 (hc70 hlt), show 3 ≤ 103 by decide, tm_in, or_true, true_or, tm_cs0, tm_cs1, tm_cs2, tm_cs3, tm_cs4, true_and, and_true, and_self, Option.toList_some, Option.toList_none, List.cons_append, List.nil_append, tm_rf_some, tm_rf_none]
      simp only [r133_52, r133_53, r133_56, r133_57, r133_58, sh_89 hS, q5, q3, tm_in, or_true, true_or, tm_cs0, tm_cs1, tm_cs2, tm_cs3, tm_cs4, true_and, and_true, and_self, Option.toList_some, Option.toList_none, List.cons_append, List.nil_append, tm_rf_some, tm_rf_none]
      exact hk
    · rw [if_neg hf] at hk
      simp only [hf, if_false, r133_17, r133_18]
      exact hk
theorem m135 (d : Nat) (x : Int32) (K : Option Value → tm_H → Prop) (hS : tp_S G) (hR : tp_R R) {n rp c ch : Nat} (hn : I 89 6 = nI n) (hn100 : n ≤ 100) (hz : ∀ p, p < n → I 90 p ≠ 0) (hrp : I 89 1 = nI rp) (hrp10 : rp ≤ 10) (hch : I 89 2 = nI ch) (hch60 : ch ≤ 60) (hc : I 89 14 = nI c) (hc70 : ch < 60 → c < 70) (u : Int32) (v w : Nat → Int32) (h10 : ¬ (tm_in x rp ∧ ch < 60) → K (some (.int 0)) (G, I, J, R)) (hK : tm_in x rp ∧ ch < 60 → ∀ M', ((p_read (I 90) n u v w).1 = -1 → p_dm (p_read (I 90) n u v w).2 M') → if (p_read (I 90) n u v w).1 = -1 then K (some (.int 1)) (G, p_tell (up2 (tp_mr I M') 89 2 (nI (ch + 1))) c x, J, R) else K (some (.int 0)) (G, tp_mr I M', J, R)) : tm_R (d + 4) 135 [.ref 89, .int x] (G, I, J, R) K := by
  rw [e135]
  by_cases hx : tm_in x rp
  · by_cases h6 : ch < 60
    · have e : ¬ nI ch = 60 := fun z => by
        have := (q_eq (a := ch) (b := 60) rfl rfl (by omega) (by decide)).mp z
        omega
      simp only [r135_0, r135_1, r135_2, r135_5, r135_8, r135_9, r135_12, r135_14, r135_17, r135_18, sh_89 hS, m134 _ _ _ hS hrp hrp10, hx, hch, e, if_true, show ¬ (1 : Int32) = 0 by decide, if_false, tm_in, or_true, true_or, tm_cs0, tm_cs1, tm_cs2, tm_cs3, tm_cs4, true_and, and_true, and_self, Option.toList_some, Option.toList_none, List.cons_append, List.nil_append, tm_rf_some, tm_rf_none]
      refine m131 d _ hS hR hn hn100 hz u v w (fun M' hM' => ?_)
      have hk := hK ⟨hx, h6⟩ M' hM'
      simp only [r135_21, r135_22, tm_in, or_true, true_or, tm_cs0, tm_cs1, tm_cs2, tm_cs3, tm_cs4, true_and, and_true, and_self, Option.toList_some, Option.toList_none, List.cons_append, List.nil_append, tm_rf_some, tm_rf_none]
      by_cases hf : (p_read (I 90) n u v w).1 = -1
      · rw [if_pos hf] at hk
        have q1 : tp_mr I M' 89 2 = nI ch := by rw [mr_o9 (by decide)]; exact hch
        have q4 : up2 (tp_mr I M') 89 2 (nI (ch + 1)) 89 14 = nI c := by rw [up2_ne (by decide), mr_o9 (by decide)]; exact hc
        simp only [hf, if_true, r135_27, r135_28, r135_28i, r135_29, r135_32, r135_33, r135_34, r135_37, r135_38, r135_39, r135_42, r135_43, sh_89 hS, q1, nI_1, m132 _ _ _ hS hR q4 (hc70 h6), tm_z1, tm_in, or_true, true_or, tm_cs0, tm_cs1, tm_cs2, tm_cs3, tm_cs4, true_and, and_true, and_self, Option.toList_some, Option.toList_none, List.cons_append, List.nil_append, tm_rf_some, tm_rf_none]
        exact hk
      · rw [if_neg hf] at hk
        simp only [hf, if_false, r135_25, r135_26, tm_z0, tm_in, or_true, true_or, tm_cs0, tm_cs1, tm_cs2, tm_cs3, tm_cs4, true_and, and_true, and_self, Option.toList_some, Option.toList_none, List.cons_append, List.nil_append, tm_rf_some, tm_rf_none]
        exact hk
    · have e : nI ch = 60 := by rw [show ch = 60 by omega]; rfl
      simp only [r135_0, r135_1, r135_2, r135_5, r135_8, r135_9, r135_12, r135_14, r135_25, r135_26, sh_89 hS, m134 _ _ _ hS hrp hrp10, hx, hch, e, if_true, show ¬ (1 : Int32) = 0 by decide, if_false, tm_z0, tm_in, or_true, true_or, tm_cs0, tm_cs1, tm_cs2, tm_cs3, tm_cs4, true_and, and_true, and_self, Option.toList_some, Option.toList_none, List.cons_append, List.nil_append, tm_rf_some, tm_rf_none]
      exact h10 (fun z => h6 z.2)
  · simp only [r135_0, r135_1, r135_2, r135_5, r135_8, r135_9, r135_12, r135_14, r135_25, r135_26, sh_89 hS, m134 _ _ _ hS hrp hrp10, hx, if_true, if_false, tm_z0, tm_in, or_true, true_or, tm_cs0, tm_cs1, tm_cs2, tm_cs3, tm_cs4, true_and, and_true, and_self, Option.toList_some, Option.toList_none, List.cons_append, List.nil_append, tm_rf_some, tm_rf_none]
    exact h10 (fun z => hx z.1)
/-- what a denial leaves -/
def p_mden (I : Nat → Nat → Int32) (ch r : Nat) (x f : Int32) : Nat → Nat → Int32 := up2 (up2 (up2 (up2 (up2 (up2 I 89 2 (nI (ch + 1))) 89 14 (nI (r + 1))) 94 r x) 95 r (I 89 0)) 96 r 0) 97 r f
theorem m136 (d : Nat) (x f : Int32) (K : Option Value → tm_H → Prop) (hS : tp_S G) (hR : tp_R R) {rp c ch : Nat} (hrp : I 89 1 = nI rp) (hrp10 : rp ≤ 10) (hch : I 89 2 = nI ch) (hch60 : ch ≤ 60) (hc : I 89 14 = nI c) (hc70 : ch < 60 → c < 70) : tm_R (d + 2) 136 [.ref 89, .int x, .int f] (G, I, J, R) K ↔ if (tm_in x rp ∧ ch < 60) ∧ tm_in f 5 then K (some (.int 1)) (G, p_mden I ch c x f, J, R) else K (some (.int 0)) (G, I, J, R) := by
  have hf5 : (0 ≤ f ∧ f ≤ 4) ↔ tm_in f 5 := q_inI2 (N := 4) (n := 4) rfl (by decide)
  rw [e136]
  by_cases hx : tm_in x rp
  · by_cases hf : tm_in f 5
    · by_cases h6 : ch < 60
      · have e : ¬ nI ch = 60 := fun z => by
          have := (q_eq (a := ch) (b := 60) rfl rfl (by omega) (by decide)).mp z
          omega
        have i1 : tm_in (nI c) 70 := q_in (hc70 h6) (by decide)
        have c70 := hc70 h6
        have q1 : up2 I 89 2 (nI (ch + 1)) 89 14 = nI c := by rw [up2_ne (by decide)]; exact hc
        have q2 : ∀ z1 z2, up2 (up2 (up2 I 89 2 z1) 89 14 z2) 94 c x 89 0 = I 89 0 := fun z1 z2 => by rw [up2_row (by decide), up2_ne (by decide), up2_ne (by decide)]
        rw [if_pos (⟨⟨hx, h6⟩, hf⟩ : (tm_in x rp ∧ ch < 60) ∧ tm_in f 5)]
        simp only [r136_0, r136_1, r136_2, r136_5, r136_8, r136_9, r136_10, r136_11, r136_14, r136_17, r136_18, r136_21, r136_23, r136_26, r136_27, r136_28, r136_29, r136_29i, r136_30, r136_33, r136_34, r136_35, r136_38, r136_39, r136_42, r136_43, r136_44, r136_44i, r136_45, r136_48, r136_49, r136_50, r136_53, r136_54, r136_57, r136_58, r136_59, r136_60, r136_61, r136_64, r136_65, r136_66, r136_69, r136_70, r136_71, r136_74, r136_75, r136_76, r136_77, r136_78, r136_81, r136_82, r136_83, r136_84, r136_85, sh_89 hS, sh_94 hS, sh_95 hS, sh_96 hS, sh_97 hS, rf_89_15 hR, rf_89_16 hR, rf_89_17 hR, rf_89_18 hR, m134 _ _ _ hS hrp hrp10, m117, hf5, hx, hf, hch, e, if_true, show ¬ (1 : Int32) = 0 by decide, if_false, not_false_eq_true, nI_1, q1, q2, i1, q_ix (show c < 2147483648 by omega), show 3 ≤ 94 by decide, show 3 ≤ 95 by decide, show 3 ≤ 96 by decide, show 3 ≤ 97 by decide, tm_z1, p_mden, tm_in, or_true, true_or, tm_cs0, tm_cs1, tm_cs2, tm_cs3, tm_cs4, true_and, and_true, and_self, Option.toList_some, Option.toList_none, List.cons_append, List.nil_append, tm_rf_some, tm_rf_none]
      · have e : nI ch = 60 := by rw [show ch = 60 by omega]; rfl
        rw [if_neg (fun z : (tm_in x rp ∧ ch < 60) ∧ tm_in f 5 => h6 z.1.2)]
        simp only [r136_0, r136_1, r136_2, r136_5, r136_8, r136_9, r136_10, r136_11, r136_14, r136_17, r136_18, r136_21, r136_23, r136_26, r136_27, sh_89 hS, m134 _ _ _ hS hrp hrp10, m117, hf5, hx, hf, hch, e, if_true, show ¬ (1 : Int32) = 0 by decide, if_false, not_true, tm_z0, tm_in, or_true, true_or, tm_cs0, tm_cs1, tm_cs2, tm_cs3, tm_cs4, true_and, and_true, and_self, Option.toList_some, Option.toList_none, List.cons_append, List.nil_append, tm_rf_some, tm_rf_none]
    · rw [if_neg (fun z : (tm_in x rp ∧ ch < 60) ∧ tm_in f 5 => hf z.2)]
      simp only [r136_0, r136_1, r136_2, r136_5, r136_8, r136_9, r136_10, r136_11, r136_14, r136_17, r136_18, r136_21, r136_23, r136_26, r136_27, sh_89 hS, m134 _ _ _ hS hrp hrp10, m117, hf5, hx, hf, if_true, show ¬ (1 : Int32) = 0 by decide, if_false, tm_z0, tm_in, or_true, true_or, tm_cs0, tm_cs1, tm_cs2, tm_cs3, tm_cs4, true_and, and_true, and_self, Option.toList_some, Option.toList_none, List.cons_append, List.nil_append, tm_rf_some, tm_rf_none]
  · rw [if_neg (fun z : (tm_in x rp ∧ ch < 60) ∧ tm_in f 5 => hx z.1.1)]
    simp only [r136_0, r136_1, r136_2, r136_5, r136_8, r136_9, r136_10, r136_11, r136_14, r136_17, r136_18, r136_21, r136_23, r136_26, r136_27, sh_89 hS, m134 _ _ _ hS hrp hrp10, hx, if_true, if_false, tm_z0, tm_in, or_true, true_or, tm_cs0, tm_cs1, tm_cs2, tm_cs3, tm_cs4, true_and, and_true, and_self, Option.toList_some, Option.toList_none, List.cons_append, List.nil_append, tm_rf_some, tm_rf_none]
end MTL
