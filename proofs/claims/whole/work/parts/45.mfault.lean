/-! The reference: the whole reading. -/
theorem p_dg_ge (c : Nat → Int32) (p : Nat) : p ≤ (p_dg c p).2 := by
  have := p_rd_q c 100 0 0 p
  show p ≤ (p_rd c 100 0 0 p).2.2
  omega
theorem p_nm_ge (c : Nat → Int32) (p : Nat) : p ≤ (p_nm c p).2 := by
  have := p_rn_q c 100 0 0 p
  show p ≤ (p_rn c 100 0 0 p).2.2
  omega
theorem p_sp_ge (c : Nat → Int32) (p : Nat) : p ≤ (p_sp c p).2 := by
  unfold p_sp
  split
  · have h1 := p_dg_ge c p
    have h2 := p_dg_ge c ((p_dg c p).2 + 1)
    omega
  · exact p_dg_ge c p
theorem p_nms_ge (c : Nat → Int32) : ∀ (k i : Nat) (D : p_D), D.1 ≤ (p_nms c k i D).2.1 := by
  intro k
  induction k with
  | zero => intro i D; exact Nat.le_refl _
  | succ k ih =>
    intro i D
    have h1 := p_nm_ge c D.1
    rw [p_nms]
    split
    · exact h1
    · split
      · refine Nat.le_trans (Nat.le_trans h1 (Nat.le_succ _)) (ih (i + 1) ((p_nm c D.1).2 + 1, D.2.1 ||| (1 <<< ((3 : Int32) &&& 31)), D.2.2.1, p_upf D.2.2.2.1 3 (nI (i + 1)), p_upf D.2.2.2.2 i (p_nm c D.1).1))
      · exact h1
theorem p_item_gt {c : Nat → Int32} {D : p_D} (h : (p_item c D).1 = true) : D.1 < (p_item c D).2.1 := by
  unfold p_item at h ⊢
  split at h
  · exact absurd h (by simp)
  · rename_i h1
    rw [if_neg h1]
    split at h
    · rename_i h2
      rw [if_pos h2]
      exact p_nms_ge c 3 0 (D.1 + 1, D.2)
    · rename_i h2
      rw [if_neg h2]
      split at h
      · rename_i h3
        rw [if_pos h3]
        unfold p_spn
        split <;> exact p_sp_ge c (D.1 + 1)
      · rename_i h3
        rw [if_neg h3]
        unfold p_val
        split <;> exact p_dg_ge c (D.1 + 1)
theorem p_item_ne {c : Nat → Int32} {D : p_D} (h : (p_item c D).1 = true) : (p_item c D).2.2.1 ≠ 0 := by
  have key : ∀ (a : Int32) (k : Nat), k < 32 → (a ||| (1 <<< (nI k &&& 31))) ≠ 0 := fun a k hk z => by
    have := congrArg (fun y => tb y k) z
    simp only [tb_or, tb_one hk hk, tb_0, decide_true, Bool.or_true] at this
    exact absurd this (by decide)
  unfold p_item at h ⊢
  split at h
  · exact absurd h (by simp)
  · rename_i h1
    rw [if_neg h1]
    split at h
    · rename_i h2
      rw [if_pos h2, (p_nms_o 3 0 _ h).1]
      exact key _ 3 (by decide)
    · rename_i h2
      rw [if_neg h2]
      split at h
      · rename_i h3
        rw [if_pos h3]
        unfold p_spn at h ⊢
        split at h
        · exact absurd h (by simp)
        · rename_i h4
          rw [if_neg h4]
          exact key _ 2 (by decide)
      · rename_i h3
        rw [if_neg h3]
        unfold p_val at h ⊢
        split at h
        · exact absurd h (by simp)
        · rename_i h4
          rw [if_neg h4]
          have := (q_of ((p_mfr_in (c D.1)).resolve_left (fun z => h1 (Or.inl z)))).2
          exact key _ _ (by omega)
theorem p_wh_ge (c : Nat → Bool) : ∀ (k p : Nat), p ≤ p_wh c k p := by
  intro k
  induction k with
  | zero => intro p; exact Nat.le_refl _
  | succ k ih =>
    intro p
    rw [p_wh]
    split
    · exact Nat.le_trans (Nat.le_succ p) (ih (p + 1))
    · exact Nat.le_refl _
theorem nI_m1 {y : Nat} (hy : y < 2147483648) : ¬ nI y = -1 := fun z => by
  have := congrArg Int32.toInt z
  rw [nI_toInt (by omega)] at this
  have e1 : (-1 : Int32).toInt = -1 := by decide
  omega
section MFA
variable {G : tm_G} {I : Nat → Nat → Int32} {J : Nat → Nat → Int64} {R : Nat → Nat → Option Nat}
theorem m130r (d : Nat) (K : Option Value → tm_H → Prop) (hS : tp_S G) (hR : tp_R R) {n : Nat} (hn : I 89 6 = nI n) (hn100 : n ≤ 100) {p : Nat} (hp : p ≤ n) {M : p_M} : tm_R (d + 1) 130 [.ref 89, .int (nI p)] (G, tp_mr I M, J, R) K ↔ K (some (.int (nI (p_wh (fun p => decide (p_pk (I 90) n p = 32)) 100 p)))) (G, tp_mr I M, J, R) := by
  have := m130 (I := tp_mr I M) (J := J) d K hS hR (n := n) (p := p) (by rw [mr_6]; exact hn) hn100 hp
  rw [mr_90] at this
  exact this
theorem m131_l (d : Nat) (K : Option Value → tm_H → Prop) (hS : tp_S G) (hR : tp_R R) {n : Nat} (hn : I 89 6 = nI n) (hn100 : n ≤ 100) (hz : ∀ p, p < n → I 90 p ≠ 0) : ∀ (k : Nat) (D : p_D) (M : p_M) (o : Option Value), n ≤ D.1 + k → D.1 ≤ n → (D.1 < n ∨ D.2.1 ≠ 0) → p_dm D M → (∀ M', ((p_rdl (p_pk (I 90) n) n k D).1 = -1 → p_dm (p_rdl (p_pk (I 90) n) n k D).2 M') → K (some (.int (p_rdl (p_pk (I 90) n) n k D).1)) (G, tp_mr I M', J, R)) → tm_A (d + 3) 131 29 [some (.ref 89), some (.int (nI D.1)), o] [] (G, tp_mr I M, J, R) K := by
  intro k
  induction k with
  | zero =>
    intro D M o h1 h2 h3 hD hK
    have hne : D.2.1 ≠ 0 := h3.resolve_left (by omega)
    have hc : nI n ≤ nI D.1 := (q_le (a := n) (b := D.1) rfl rfl (by omega) (by omega)).mpr (by omega)
    have e : p_rdl (p_pk (I 90) n) n 0 D = (-1, D) := by rw [p_rdl, if_neg hne]
    rw [e] at hK
    rw [r131_29]
    simp only [r131_30, r131_31, r131_34, r131_80, r131_81, sh_89 hS, mr_6, hn, hc, if_true, tm_in, or_true, true_or, tm_cs0, tm_cs1, tm_cs2, tm_cs3, tm_cs4, true_and, and_true, and_self, Option.toList_some, Option.toList_none, List.cons_append, List.nil_append, tm_rf_some, tm_rf_none]
    exact hK M (fun _ => hD)
  | succ k ih =>
    intro D M o h1 h2 h3 hD hK
    by_cases hlt : D.1 < n
    · have hc : ¬ nI n ≤ nI D.1 := fun z => by
        have := (q_le (a := n) (b := D.1) rfl rfl (by omega) (by omega)).mp z
        omega
      obtain ⟨h, m, u, x, F, N, L⟩ := M
      have ll := p_item_le (b := I 90) (n := n) (D := D) hlt
      rw [r131_29]
      simp only [r131_30, r131_31, r131_34, r131_37, r131_38, r131_39, sh_89 hS, mr_6, hn, hc, if_false, tm_in, or_true, true_or, tm_cs0, tm_cs1, tm_cs2, tm_cs3, tm_cs4, true_and, and_true, and_self, Option.toList_some, Option.toList_none, List.cons_append, List.nil_append, tm_rf_some, tm_rf_none]
      refine m127 d _ hS hR hn hn100 hlt hD (fun M' hM' => ?_)
      simp only [r131_42, r131_43, r131_44, r131_45, tm_in, or_true, true_or, tm_cs0, tm_cs1, tm_cs2, tm_cs3, tm_cs4, true_and, and_true, and_self, Option.toList_some, Option.toList_none, List.cons_append, List.nil_append, tm_rf_some, tm_rf_none]
      by_cases hi : (p_item (p_pk (I 90) n) D).1 = true
      · have hM := hM' hi
        have hgt := p_item_gt hi
        have hne := p_item_ne hi
        have e : p_rdl (p_pk (I 90) n) n (k + 1) D = if p_pk (I 90) n (p_item (p_pk (I 90) n) D).2.1 = 32 ∨ p_pk (I 90) n (p_item (p_pk (I 90) n) D).2.1 = 0 then p_rdl (p_pk (I 90) n) n k (p_wh (fun p => decide (p_pk (I 90) n p = 32)) 100 (p_item (p_pk (I 90) n) D).2.1, (p_item (p_pk (I 90) n) D).2.2) else (nI (p_item (p_pk (I 90) n) D).2.1, (p_item (p_pk (I 90) n) D).2) := by
          rw [p_rdl, if_pos hlt, if_pos hi]
        rw [e] at hK
        generalize (p_item (p_pk (I 90) n) D).2 = D' at *
        have z1 := nI_m1 (y := D'.1) (by omega)
        simp only [hi, if_true, z1, not_false_eq_true, r131_50, r131_51, r131_52, r131_55, sh_89 hS, mr_6, hn, tm_in, or_true, true_or, tm_cs0, tm_cs1, tm_cs2, tm_cs3, tm_cs4, true_and, and_true, and_self, Option.toList_some, Option.toList_none, List.cons_append, List.nil_append, tm_rf_some, tm_rf_none]
        have hw : D'.1 ≤ p_wh (fun p => decide (p_pk (I 90) n p = 32)) 100 D'.1 := p_wh_ge _ _ _
        have hwn : p_wh (fun p => decide (p_pk (I 90) n p = 32)) 100 D'.1 ≤ n := p_wh_le (fun p z => p_pk_lt (by rw [of_decide_eq_true z]; decide)) _ _ ll
        have hgo : (∀ M'', ((p_rdl (p_pk (I 90) n) n k (p_wh (fun p => decide (p_pk (I 90) n p = 32)) 100 D'.1, D'.2)).1 = -1 → p_dm (p_rdl (p_pk (I 90) n) n k (p_wh (fun p => decide (p_pk (I 90) n p = 32)) 100 D'.1, D'.2)).2 M'') → K (some (.int (p_rdl (p_pk (I 90) n) n k (p_wh (fun p => decide (p_pk (I 90) n p = 32)) 100 D'.1, D'.2)).1)) (G, tp_mr I M'', J, R)) → tm_A (d + 3) 131 71 [some (.ref 89), some (.int (nI D.1)), some (.int (nI D'.1))] [] (G, tp_mr I M', J, R) K := by
          intro hk
          simp only [r131_71, r131_72, r131_73, r131_76, r131_77, sh_89 hS, m130r _ _ hS hR hn hn100 ll, tm_in, or_true, true_or, tm_cs0, tm_cs1, tm_cs2, tm_cs3, tm_cs4, true_and, and_true, and_self, Option.toList_some, Option.toList_none, List.cons_append, List.nil_append, tm_rf_some, tm_rf_none]
          exact ih (p_wh (fun p => decide (p_pk (I 90) n p = 32)) 100 D'.1, D'.2) M' _ (by show n ≤ p_wh _ _ _ + k; omega) hwn (Or.inr hne) hM hk
        by_cases h5 : D'.1 < n
        · have hc5 : ¬ nI n ≤ nI D'.1 := fun z => by
            have := (q_le (a := n) (b := D'.1) rfl rfl (by omega) (by omega)).mp z
            omega
          have hin : tm_in (nI D'.1) 100 := q_in (by omega) (by decide)
          have e9 : p_pk (I 90) n D'.1 = I 90 D'.1 := by unfold p_pk; rw [if_pos h5]
          simp only [hc5, if_false, r131_58, r131_59, r131_62, r131_63, r131_64, r131_66, sh_89 hS, sh_90 hS, rf_89_5 hR, mr_90, hin, q_ix (show D'.1 < 2147483648 by omega), tm_in, or_true, true_or, tm_cs0, tm_cs1, tm_cs2, tm_cs3, tm_cs4, true_and, and_true, and_self, Option.toList_some, Option.toList_none, List.cons_append, List.nil_append, tm_rf_some, tm_rf_none]
          by_cases h6 : I 90 D'.1 = 32
          · rw [e9, if_pos (Or.inl h6)] at hK
            simp only [h6, if_true]
            exact hgo hK
          · rw [e9, if_neg (fun z => z.elim h6 (hz _ h5))] at hK
            simp only [h6, if_false, r131_69, r131_70]
            exact hK _ (fun z => absurd z z1)
        · have hc5 : nI n ≤ nI D'.1 := (q_le (a := n) (b := D'.1) rfl rfl (by omega) (by omega)).mpr (by omega)
          rw [if_pos (Or.inr (p_pk0 _ (by omega)))] at hK
          simp only [hc5, if_true]
          exact hgo hK
      · have e : p_rdl (p_pk (I 90) n) n (k + 1) D = (nI D.1, (p_item (p_pk (I 90) n) D).2) := by
          rw [p_rdl, if_pos hlt, if_neg hi]
        rw [e] at hK
        simp only [hi, if_false, not_true, Bool.false_eq_true, r131_48, r131_49]
        exact hK M' (fun z => absurd z (nI_m1 (by omega)))
    · have hne : D.2.1 ≠ 0 := h3.resolve_left hlt
      have hc : nI n ≤ nI D.1 := (q_le (a := n) (b := D.1) rfl rfl (by omega) (by omega)).mpr (by omega)
      have e : p_rdl (p_pk (I 90) n) n (k + 1) D = (-1, D) := by rw [p_rdl, if_neg hlt, if_neg hne]
      rw [e] at hK
      rw [r131_29]
      simp only [r131_30, r131_31, r131_34, r131_80, r131_81, sh_89 hS, mr_6, hn, hc, if_true, tm_in, or_true, true_or, tm_cs0, tm_cs1, tm_cs2, tm_cs3, tm_cs4, true_and, and_true, and_self, Option.toList_some, Option.toList_none, List.cons_append, List.nil_append, tm_rf_some, tm_rf_none]
      exact hK M (fun _ => hD)
theorem p_dm_0 {p : Nat} {u u' x : Int32} {v w F N L : Nat → Int32} : p_dm (p, 0, u, p_upf v 3 0, w) (0, 0, u', x, F, N, L) := by
  have t : ∀ k, ¬ tb (0 : Int32) k = true := fun k => by rw [tb_0]; simp
  exact ⟨rfl, fun f _ _ h => absurd h (t f), fun h => absurd h (t 2), fun h => absurd h (t 3), fun _ => ⟨by simp [p_upf], rfl⟩, fun k _ _ => tb_0 k⟩
theorem m131 (d : Nat) (K : Option Value → tm_H → Prop) (hS : tp_S G) (hR : tp_R R) {n : Nat} (hn : I 89 6 = nI n) (hn100 : n ≤ 100) (hz : ∀ p, p < n → I 90 p ≠ 0) (u : Int32) (v w : Nat → Int32) (hK : ∀ M', ((p_read (I 90) n u v w).1 = -1 → p_dm (p_read (I 90) n u v w).2 M') → K (some (.int (p_read (I 90) n u v w).1)) (G, tp_mr I M', J, R)) : tm_R (d + 3) 131 [.ref 89] (G, I, J, R) K := by
  have e0 : (G, I, J, R) = (G, tp_mr I (I 89 7, I 89 8, I 89 10, I 89 13, I 91, I 92, I 93), J, R) := by rw [mr_self]
  have hw : p_wh (fun p => decide (p_pk (I 90) n p = 32)) 100 0 ≤ n := p_wh_le (fun p z => p_pk_lt (by rw [of_decide_eq_true z]; decide)) _ _ (Nat.zero_le n)
  rw [e131, e0]
  have h0 := fun K' => m130r (G := G) (I := I) (J := J) (R := R) (d + 1) K' hS hR hn hn100 (Nat.zero_le n) (M := (0, 0, I 89 10, I 89 13, I 91, I 92, I 93))
  rw [nI_0] at h0
  simp only [r131_0, r131_1, r131_2, r131_5, r131_6, r131_7, r131_10, r131_11, r131_12, r131_15, r131_16, r131_17, r131_18, r131_21, sh_89 hS, mr_u7, mr_u8, h0, mr_6, hn, tm_in, or_true, true_or, tm_cs0, tm_cs1, tm_cs2, tm_cs3, tm_cs4, true_and, and_true, and_self, Option.toList_some, Option.toList_none, List.cons_append, List.nil_append, tm_rf_some, tm_rf_none]
  unfold p_read at hK
  generalize p_wh (fun p => decide (p_pk (I 90) n p = 32)) 100 0 = p at *
  by_cases hp : p = n
  · subst hp
    have e : p_rdl (p_pk (I 90) p) p 100 (p, 0, u, p_upf v 3 0, w) = (nI p, (p, 0, u, p_upf v 3 0, w)) := by
      rw [p_rdl, if_neg (Nat.lt_irrefl p), if_pos rfl]
    rw [e] at hK
    simp only [not_true, if_false, r131_24, r131_25, r131_28, sh_89 hS, mr_6, hn, tm_in, or_true, true_or, tm_cs0, tm_cs1, tm_cs2, tm_cs3, tm_cs4, true_and, and_true, and_self, Option.toList_some, Option.toList_none, List.cons_append, List.nil_append, tm_rf_some, tm_rf_none]
    exact hK _ (fun z => absurd z (nI_m1 (by omega)))
  · have z : ¬ nI p = nI n := fun z => hp ((nI_eq (by omega) (by omega)).mp z)
    simp only [z, not_false_eq_true, if_true]
    exact m131_l d K hS hR hn hn100 hz 100 (p, 0, u, p_upf v 3 0, w) _ _ (by omega) hw (Or.inl (by show p < n; omega)) p_dm_0 hK
end MFA
