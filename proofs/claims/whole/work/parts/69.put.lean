/-! The class: telling a text, a denial. -/
section PUT
variable {G : tm_G} {I : Nat → Nat → Int32} {J : Nat → Nat → Int64} {R : Nat → Nat → Option Nat}
theorem c53 (d : Nat) (y : Int32) (K : Option Value → tm_H → Prop) (hS : tp_S G) (hR : tp_R R) {c : Nat} (hn : I 9 2 = nI c) (hn70 : c < 70) (hK : ∀ G' I' J' R', p_text G G' I I' J J' R R' (I 9 3) y c → K (some (.int (I 9 3))) (G', up2 I' 9 3 (I 9 3 + 1), J', R')) : tm_R (d + 4) 53 [.ref 9, .int y, .ref 6] (G, I, J, R) K := by
  have hG := hS.1
  rw [e53]
  simp only [r53_0, r53_1, r53_4, r53_5, r53_6, r53_7, r53_8, r53_8n, r53_9, sh_9 hS, tm_in, or_true, true_or, tm_cs0, tm_cs1, tm_cs2, tm_cs3, tm_cs4, true_and, and_true, and_self, Option.toList_some, Option.toList_none, List.cons_append, List.nil_append, tm_rf_some, tm_rf_none]
  refine c56 d _ _ _ hS hR hn hn70 (fun G' I' J' R' ht => ?_)
  obtain ⟨t1, t2, t3, t4, t5, t6, t7, t8, t9, t10, t11, t12, t13, t14, t15⟩ := ht
  have s9 : G'.2.2 9 = (0, 5) := by rw [t3 9 (by omega)]; exact sh_9 hS
  have i9 : I' 9 3 = I 9 3 := t13 9 3 (by omega) (by omega)
  simp only [r53_12, r53_13, r53_13i, r53_14, r53_17, r53_18, r53_19, r53_22, r53_23, s9, i9, tm_in, or_true, true_or, tm_cs0, tm_cs1, tm_cs2, tm_cs3, tm_cs4, true_and, and_true, and_self, Option.toList_some, Option.toList_none, List.cons_append, List.nil_append, tm_rf_some, tm_rf_none]
  exact hK G' I' J' R' ⟨t1, t2, t3, t4, t5, t6, t7, t8, t9, t10, t11, t12, t13, t14, t15⟩
theorem c54 (d : Nat) (x y : Int32) (K : Option Value → tm_H → Prop) (hS : tp_S G) (hR : tp_R R) {c : Nat} (hn : I 9 2 = nI c) (hn70 : c < 70) (hK : ∀ G' I' J' R', p_text G G' I I' J J' R R' x y c → K none (G', up2 I' 9 4 (I 9 4 + 1), J', R')) : tm_R (d + 4) 54 [.ref 9, .int x, .int y, .ref 6] (G, I, J, R) K := by
  have hG := hS.1
  rw [e54]
  simp only [r54_0, r54_1, r54_2, r54_3, r54_3n, r54_4, sh_9 hS, tm_in, or_true, true_or, tm_cs0, tm_cs1, tm_cs2, tm_cs3, tm_cs4, true_and, and_true, and_self, Option.toList_some, Option.toList_none, List.cons_append, List.nil_append, tm_rf_some, tm_rf_none]
  refine c56 d _ _ _ hS hR hn hn70 (fun G' I' J' R' ht => ?_)
  obtain ⟨t1, t2, t3, t4, t5, t6, t7, t8, t9, t10, t11, t12, t13, t14, t15⟩ := ht
  have s9 : G'.2.2 9 = (0, 5) := by rw [t3 9 (by omega)]; exact sh_9 hS
  have i9 : I' 9 4 = I 9 4 := t13 9 4 (by omega) (by omega)
  simp only [r54_7, r54_8, r54_8i, r54_9, r54_12, r54_13, r54_14, r54_17, s9, i9, tm_in, or_true, true_or, tm_cs0, tm_cs1, tm_cs2, tm_cs3, tm_cs4, true_and, and_true, and_self, Option.toList_some, Option.toList_none, List.cons_append, List.nil_append, tm_rf_some, tm_rf_none]
  exact hK G' I' J' R' ⟨t1, t2, t3, t4, t5, t6, t7, t8, t9, t10, t11, t12, t13, t14, t15⟩
theorem p_text_S {G' : tm_G} {I' : Nat → Nat → Int32} {J' : Nat → Nat → Int64} {R' : Nat → Nat → Option Nat} {x y : Int32} {c : Nat} (hS : tp_S G) (hR : tp_R R) (ht : p_text G G' I I' J J' R R' x y c) : tp_S G' ∧ tp_R R' := by
  have hG := hS.1
  obtain ⟨t1, t2, t3, t4, t5, t6, t7, t8, t9, t10, t11, t12, t13, t14, t15⟩ := ht
  exact ⟨tp_S_grow hS (by omega) t3, tp_R_keep hR (fun a k h1 h2 => t8 a k (by omega) (fun z => absurd z h2))⟩
theorem c90 (d : Nat) (K : Option Value → tm_H → Prop) (hS : tp_S G) (hR : tp_R R) (hC : tp_C I) {n rp c : Nat} (hn : I 4 1 = nI n) (hn100 : n ≤ 100) (hrp : I 9 3 = nI rp) (hrp10 : rp ≤ 10) (hc : I 9 2 = nI c) (hc70 : rp < 10 → c < 70) (h10 : rp = 10 → K (some (.int (-1))) (G, I, J, R)) (hK1 : rp < 10 → (p_read (I 5) n (I 6 1) (I 7) (I 8)).1 ≠ -1 → K (some (.int (-1))) (G, tp_dr I (p_read (I 5) n (I 6 1) (I 7) (I 8)).2, J, R)) (hK2 : rp < 10 → (p_read (I 5) n (I 6 1) (I 7) (I 8)).1 = -1 → ∀ G' I' J' R', p_text G G' (tp_dr I (p_read (I 5) n (I 6 1) (I 7) (I 8)).2) I' J J' R R' (nI rp) (I 3 7) c → K (some (.int (nI rp))) (G', up2 (up2 (up2 I' 9 3 (nI (rp + 1))) 4 1 0) 3 10 (-1), J', R')) : tm_R (d + 5) 90 [.ref 3] (G, I, J, R) K := by
  have hG := hS.1
  rw [e90]
  by_cases h : rp = 10
  · have e : (10 : Int32) ≤ nI rp := by rw [h]; decide
    simp only [r90_0, r90_1, r90_4, r90_7, r90_9, r90_23, r90_24, sh_3 hS, sh_9 hS, rf_3_1 hR, c49 _ _ hS, hrp, e, if_true, tm_in, or_true, true_or, tm_cs0, tm_cs1, tm_cs2, tm_cs3, tm_cs4, true_and, and_true, and_self, Option.toList_some, Option.toList_none, List.cons_append, List.nil_append, tm_rf_some, tm_rf_none]
    exact h10 h
  · have hlt : rp < 10 := by omega
    have e : ¬ (10 : Int32) ≤ nI rp := fun z => by
      have := (q_le (a := 10) (b := rp) rfl rfl (by decide) (by omega)).mp z
      omega
    simp only [r90_0, r90_1, r90_4, r90_7, r90_9, r90_12, r90_13, r90_16, r90_19, r90_20, sh_3 hS, sh_4 hS, sh_9 hS, rf_3_0 hR, rf_3_1 hR, c49 _ _ hS, hrp, e, if_false, c74 _ _ hS hR hC hn hn100, tm_in, or_true, true_or, tm_cs0, tm_cs1, tm_cs2, tm_cs3, tm_cs4, true_and, and_true, and_self, Option.toList_some, Option.toList_none, List.cons_append, List.nil_append, tm_rf_some, tm_rf_none]
    by_cases hf : (p_read (I 5) n (I 6 1) (I 7) (I 8)).1 = -1
    · have k2 := hK2 hlt hf
      generalize (p_read (I 5) n (I 6 1) (I 7) (I 8)).2 = D at *
      have e93 : tp_dr I D 9 3 = nI rp := by rw [dr_o (by decide) (by omega)]; exact hrp
      have e92 : tp_dr I D 9 2 = nI c := by rw [dr_o (by decide) (by omega)]; exact hc
      have e37 : tp_dr I D 3 7 = I 3 7 := by rw [dr_o (by decide) (by omega)]
      simp only [hf, if_true, r90_25, r90_26, r90_29, r90_30, r90_33, r90_34, r90_37, r90_40, sh_3 hS, sh_4 hS, sh_9 hS, rf_3_0 hR, rf_3_1 hR, rf_4_3 hR, e37, tm_in, or_true, true_or, tm_cs0, tm_cs1, tm_cs2, tm_cs3, tm_cs4, true_and, and_true, and_self, Option.toList_some, Option.toList_none, List.cons_append, List.nil_append, tm_rf_some, tm_rf_none]
      refine c53 d _ _ hS hR e92 (hc70 hlt) (fun G' I' J' R' ht => ?_)
      obtain ⟨hS', hR'⟩ := p_text_S hS hR ht
      rw [e93] at ht ⊢
      rw [nI_1]
      have k3 := k2 G' I' J' R' ht
      obtain ⟨t1, t2, t3, t4, t5, t6, t7, t8, t9, t10, t11, t12, t13, t14, t15⟩ := ht
      have i41 : up2 I' 9 3 (nI (rp + 1)) 4 1 = nI n := by
        rw [up2_row (by decide), t13 4 1 (by omega) (by omega), dr_n]
        exact hn
      have h0 : (0 : Int32) ≤ 0 ∧ (0 : Int32) ≤ nI n := ⟨by decide, nI_pos' (by omega)⟩
      simp only [r90_43, r90_44, r90_45, r90_48, r90_49, r90_52, r90_53, r90_54, r90_55, r90_58, r90_59, sh_3 hS', sh_4 hS', rf_3_0 hR', c73 _ _ _ hS', i41, h0, if_true, tm_in, or_true, true_or, tm_cs0, tm_cs1, tm_cs2, tm_cs3, tm_cs4, true_and, and_true, and_self, Option.toList_some, Option.toList_none, List.cons_append, List.nil_append, tm_rf_some, tm_rf_none]
      exact k3
    · have k1 := hK1 hlt hf
      simp only [hf, if_false, r90_23, r90_24]
      exact k1
theorem c91 (d : Nat) (x : Int32) (K : Option Value → tm_H → Prop) (hS : tp_S G) (hR : tp_R R) (hC : tp_C I) {n rp ch c : Nat} (hn : I 4 1 = nI n) (hn100 : n ≤ 100) (hrp : I 9 3 = nI rp) (hrp10 : rp ≤ 10) (hch : I 9 4 = nI ch) (hch60 : ch ≤ 60) (hc : I 9 2 = nI c) (hc70 : ch < 60 → c < 70) (h10 : ¬ (tm_in x rp ∧ ch < 60) → K (some (.int 0)) (G, I, J, R)) (hK1 : tm_in x rp ∧ ch < 60 → (p_read (I 5) n (I 6 1) (I 7) (I 8)).1 ≠ -1 → K (some (.int 0)) (G, tp_dr I (p_read (I 5) n (I 6 1) (I 7) (I 8)).2, J, R)) (hK2 : tm_in x rp ∧ ch < 60 → (p_read (I 5) n (I 6 1) (I 7) (I 8)).1 = -1 → ∀ G' I' J' R', p_text G G' (tp_dr I (p_read (I 5) n (I 6 1) (I 7) (I 8)).2) I' J J' R R' x (I 3 7) c → K (some (.int 1)) (G', up2 (up2 (up2 I' 9 4 (nI (ch + 1))) 4 1 0) 3 10 (-1), J', R')) : tm_R (d + 5) 91 [.ref 3, .int x] (G, I, J, R) K := by
  have hG := hS.1
  have hxr : (0 ≤ x ∧ x < I 9 3) ↔ tm_in x rp := q_inI hrp (by omega)
  have h60 : I 9 4 < 60 ↔ ch < 60 := q_lt (b := 60) hch rfl (by omega) (by decide)
  have hcc : ((0 ≤ x ∧ x < I 9 3) ∧ I 9 4 < 60) ↔ (tm_in x rp ∧ ch < 60) := by rw [hxr, h60]
  rw [e91]
  by_cases h : tm_in x rp ∧ ch < 60
  · simp only [r91_0, r91_1, r91_4, r91_5, r91_8, r91_11, r91_12, r91_15, r91_18, r91_19, sh_3 hS, sh_4 hS, sh_9 hS, rf_3_0 hR, rf_3_1 hR, c52 _ _ _ hS, hcc, h, and_self, if_true, show ¬ (1 : Int32) = 0 by decide, if_false, c74 _ _ hS hR hC hn hn100, tm_in, or_true, true_or, tm_cs0, tm_cs1, tm_cs2, tm_cs3, tm_cs4, true_and, and_true, and_self, Option.toList_some, Option.toList_none, List.cons_append, List.nil_append, tm_rf_some, tm_rf_none]
    by_cases hf : (p_read (I 5) n (I 6 1) (I 7) (I 8)).1 = -1
    · have k2 := hK2 h hf
      generalize (p_read (I 5) n (I 6 1) (I 7) (I 8)).2 = D at *
      have e94 : tp_dr I D 9 4 = nI ch := by rw [dr_o (by decide) (by omega)]; exact hch
      have e92 : tp_dr I D 9 2 = nI c := by rw [dr_o (by decide) (by omega)]; exact hc
      have e37 : tp_dr I D 3 7 = I 3 7 := by rw [dr_o (by decide) (by omega)]
      simp only [hf, if_true, r91_24, r91_25, r91_28, r91_29, r91_30, r91_33, r91_34, r91_37, r91_40, sh_3 hS, sh_4 hS, sh_9 hS, rf_3_0 hR, rf_3_1 hR, rf_4_3 hR, e37, tm_in, or_true, true_or, tm_cs0, tm_cs1, tm_cs2, tm_cs3, tm_cs4, true_and, and_true, and_self, Option.toList_some, Option.toList_none, List.cons_append, List.nil_append, tm_rf_some, tm_rf_none]
      refine c54 d _ _ _ hS hR e92 (hc70 h.2) (fun G' I' J' R' ht => ?_)
      obtain ⟨hS', hR'⟩ := p_text_S hS hR ht
      rw [e94, nI_1]
      have k3 := k2 G' I' J' R' ht
      obtain ⟨t1, t2, t3, t4, t5, t6, t7, t8, t9, t10, t11, t12, t13, t14, t15⟩ := ht
      have i41 : up2 I' 9 4 (nI (ch + 1)) 4 1 = nI n := by
        rw [up2_row (by decide), t13 4 1 (by omega) (by omega), dr_n]
        exact hn
      have h0 : (0 : Int32) ≤ 0 ∧ (0 : Int32) ≤ nI n := ⟨by decide, nI_pos' (by omega)⟩
      simp only [r91_43, r91_44, r91_47, r91_48, r91_51, r91_52, r91_53, r91_54, r91_57, r91_58, sh_3 hS', sh_4 hS', rf_3_0 hR', c73 _ _ _ hS', i41, h0, if_true, tm_z1, tm_in, or_true, true_or, tm_cs0, tm_cs1, tm_cs2, tm_cs3, tm_cs4, true_and, and_true, and_self, Option.toList_some, Option.toList_none, List.cons_append, List.nil_append, tm_rf_some, tm_rf_none]
      exact k3
    · have k1 := hK1 h hf
      simp only [hf, if_false, r91_22, r91_23, tm_z0, tm_in, or_true, true_or, tm_cs0, tm_cs1, tm_cs2, tm_cs3, tm_cs4, true_and, and_true, and_self, Option.toList_some, Option.toList_none, List.cons_append, List.nil_append, tm_rf_some, tm_rf_none]
      exact k1
  · simp only [r91_0, r91_1, r91_4, r91_5, r91_8, r91_22, r91_23, sh_3 hS, sh_9 hS, rf_3_1 hR, c52 _ _ _ hS, hcc, h, if_true, if_false, tm_z0, tm_in, or_true, true_or, tm_cs0, tm_cs1, tm_cs2, tm_cs3, tm_cs4, true_and, and_true, and_self, Option.toList_some, Option.toList_none, List.cons_append, List.nil_append, tm_rf_some, tm_rf_none]
    exact h10 h
theorem c92 (d : Nat) (x f : Int32) (K : Option Value → tm_H → Prop) (hS : tp_S G) (hR : tp_R R) {rp ch c : Nat} (hrp : I 9 3 = nI rp) (hrp10 : rp ≤ 10) (hch : I 9 4 = nI ch) (hch60 : ch ≤ 60) (hc : I 9 2 = nI c) (hc70 : ch < 60 → c < 70) : tm_R (d + 3) 92 [.ref 3, .int x, .int f] (G, I, J, R) K ↔ if (tm_in x rp ∧ ch < 60) ∧ tm_in f 5 then K (some (.int 1)) ((G.1 + 1, G.2.1 + 4, upr G.2.2 G.1 (0, 8)), up2 (up2 (up2 (up2 (up2 (up2 (upr I G.1 (fun _ => 0)) G.1 0 x) G.1 1 (I 3 7)) G.1 2 ((1 : Int32) <<< (f &&& 31))) 9 2 (nI (c + 1))) 9 4 (nI (ch + 1))) 3 10 (-1), upr J G.1 (fun _ => 0), up2 (up2 (upr R G.1 (fun _ => none)) G.1 3 (some 11)) 10 c (some G.1)) else K (some (.int 0)) (G, I, J, R) := by
  have hG := hS.1
  have hxr : (0 ≤ x ∧ x < I 9 3) ↔ tm_in x rp := q_inI hrp (by omega)
  have h60 : I 9 4 < 60 ↔ ch < 60 := q_lt (b := 60) hch rfl (by omega) (by decide)
  have hcc : ((0 ≤ x ∧ x < I 9 3) ∧ I 9 4 < 60) ↔ (tm_in x rp ∧ ch < 60) := by rw [hxr, h60]
  have hf5 : (0 ≤ f ∧ f < 5) ↔ tm_in f 5 := q_inI (N := 5) (n := 5) rfl (by decide)
  rw [e92]
  by_cases h : tm_in x rp ∧ ch < 60
  · by_cases hf : tm_in f 5
    · rw [if_pos (⟨h, hf⟩ : (tm_in x rp ∧ ch < 60) ∧ tm_in f 5)]
      have g := hf5.mpr hf
      have n1 : ¬ f < 0 := Int32.not_lt.mpr g.1
      have s3 : upr G.2.2 G.1 (0, 8) 3 = (0, 9) := by rw [upr_ne (by omega)]; exact sh_3 hS
      simp only [r92_0, r92_1, r92_4, r92_5, r92_8, r92_11, r92_12, r92_15, r92_16, r92_17, sh_3 hS, sh_9 hS, rf_3_1 hR, c52 _ _ _ hS, hcc, h, and_self, if_true, show ¬ (1 : Int32) = 0 by decide, if_false, n1, g.2, tm_in, or_true, true_or, tm_cs0, tm_cs1, tm_cs2, tm_cs3, tm_cs4, true_and, and_true, and_self, Option.toList_some, Option.toList_none, List.cons_append, List.nil_append, tm_rf_some, tm_rf_none]
      simp only [r92_22, r92_23, r92_26, r92_27, r92_28, r92_31, r92_32, sh_3 hS, sh_9 hS, rf_3_1 hR, tm_in, or_true, true_or, tm_cs0, tm_cs1, tm_cs2, tm_cs3, tm_cs4, true_and, and_true, and_self, Option.toList_some, Option.toList_none, List.cons_append, List.nil_append, tm_rf_some, tm_rf_none]
      rw [c55 d x (I 3 7) f _ hS hR hc (hc70 h.2)]
      simp only [r92_35, r92_36, r92_37, r92_40, r92_41, s3, hch, nI_1, tm_z1, tm_in, or_true, true_or, tm_cs0, tm_cs1, tm_cs2, tm_cs3, tm_cs4, true_and, and_true, and_self, Option.toList_some, Option.toList_none, List.cons_append, List.nil_append, tm_rf_some, tm_rf_none]
    · rw [if_neg (fun z : (tm_in x rp ∧ ch < 60) ∧ tm_in f 5 => hf z.2)]
      have g : ¬ (0 ≤ f ∧ f < 5) := fun z => hf (hf5.mp z)
      simp only [r92_0, r92_1, r92_4, r92_5, r92_8, r92_11, r92_12, r92_15, r92_16, r92_17, r92_20, r92_21, sh_3 hS, sh_9 hS, rf_3_1 hR, c52 _ _ _ hS, hcc, h, and_self, if_true, show ¬ (1 : Int32) = 0 by decide, if_false, tm_z0, tm_in, or_true, true_or, tm_cs0, tm_cs1, tm_cs2, tm_cs3, tm_cs4, true_and, and_true, and_self, Option.toList_some, Option.toList_none, List.cons_append, List.nil_append, tm_rf_some, tm_rf_none]
      by_cases n1 : f < 0
      · simp only [n1, if_true]
      · have n2 : ¬ f < 5 := fun z => g ⟨Int32.not_lt.mp n1, z⟩
        simp only [n1, n2, if_false]
  · rw [if_neg (fun z : (tm_in x rp ∧ ch < 60) ∧ tm_in f 5 => h z.1)]
    simp only [r92_0, r92_1, r92_4, r92_5, r92_8, r92_11, r92_12, r92_15, r92_16, r92_17, r92_20, r92_21, sh_3 hS, sh_9 hS, rf_3_1 hR, c52 _ _ _ hS, hcc, h, if_true, if_false, tm_z0, tm_in, or_true, true_or, tm_cs0, tm_cs1, tm_cs2, tm_cs3, tm_cs4, true_and, and_true, and_self, Option.toList_some, Option.toList_none, List.cons_append, List.nil_append, tm_rf_some, tm_rf_none]
end PUT
