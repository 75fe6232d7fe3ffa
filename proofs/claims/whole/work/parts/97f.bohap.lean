/-! Happenings: on both. -/
theorem q_sw7 (v : Int32) : v = 0 ∨ v = 1 ∨ v = 2 ∨ v = 3 ∨ v = 4 ∨ v = 5 ∨ v = 6 ∨ (v.toInt < 0 ∨ 6 < v.toInt) := by
  rcases q_sw6 v with h | h | h | h | h | h | h
  · exact Or.inl h
  · exact Or.inr (Or.inl h)
  · exact Or.inr (Or.inr (Or.inl h))
  · exact Or.inr (Or.inr (Or.inr (Or.inl h)))
  · exact Or.inr (Or.inr (Or.inr (Or.inr (Or.inl h))))
  · exact Or.inr (Or.inr (Or.inr (Or.inr (Or.inr (Or.inl h)))))
  · by_cases e : v.toInt = 6
    · exact Or.inr (Or.inr (Or.inr (Or.inr (Or.inr (Or.inr (Or.inl (Int32.toInt_inj.mp e)))))))
    · exact Or.inr (Or.inr (Or.inr (Or.inr (Or.inr (Or.inr (Or.inr (by omega)))))))
/-- what is asked of a happening -/
def p_hap (I : Nat → Nat → Int32) (sel : Nat → Bool) (m : Nat) (f : Int32) : Int32 := if f = 0 then p_al I sel m 0 else if f = 1 then p_al I sel m 1 else if f = 2 then (if p_hg I sel m < p_lw I sel m then -2 else p_lw I sel m) else if f = 3 then (if p_hg I sel m < p_lw I sel m then -2 else p_hg I sel m) else if f = 4 then p_al I sel m 4 else if f = 5 then nI (p_cn sel m 0) else if f = 6 then (if p_hg I sel m < p_lw I sel m then 1 else 0) else -1
section BHP
variable {G : tm_G} {I I' : Nat → Nat → Int32} {J : Nat → Nat → Int64} {R : Nat → Nat → Option Nat} {nw rp ch n oc pr q m g : Nat} {tl fa ro dy rd b w : Nat → Nat}
theorem p_hap_c {sel sel' : Nat → Bool} (e : ∀ b k, ¬ scr b k → I' b k = I b k) (hm : m ≤ 10) (hs : ∀ i, i < m → sel i = sel' i) (f : Int32) : p_hap I' sel' m f = p_hap I sel m f := by
  unfold p_hap
  rw [p_al_c e hm hs, p_al_c e hm hs, p_al_c e hm hs, p_lw_c e hm hs, p_hg_c e hm hs, p_cn_sel (sel := sel) (sel' := sel') m 0 (fun i _ hi => hs i (by omega))]
theorem gx_v {d : Nat} {fd : Int32} (h : gx d fd G I I' J R nw rp ch n oc pr tl fa ro dy rd q m) {f : Nat} (hf : f < 5) (h3 : f ≠ 3) : cf_v I m f := fun r hr ht => by
  obtain ⟨h1, h2, -, -, h5, h6, -⟩ := h
  have := kw_v h5 hf h3 r hr
  rw [scr_row h6 (b := 16 + 3 * r) (by omega), scr_row h6 (b := 16 + 3 * r + 1) (by omega)] at this
  exact this ht
theorem gx_u {d : Nat} {fd : Int32} (h : gx d fd G I I' J R nw rp ch n oc pr tl fa ro dy rd q m) : cf_u I m := fun r hr ht => by
  obtain ⟨h1, h2, -, -, h5, h6, -⟩ := h
  have := kw_u h5 r hr
  rw [scr_row h6 (b := 16 + 3 * r) (by omega)] at this
  exact this ht
theorem c103t (d : Nat) (x f y : Int32) (K : Option Value → tm_H → Prop) (hS : tp_S G) (hR : tp_R R) (h : cf_ok I m b) {fs : Nat} (hfs : fs < m) (hv : ∀ f, f < 5 → f ≠ 3 → cf_v I m f) (hu : cf_u I m) : tm_A (d + 5) 103 30 [some (.ref 3), some (.int x), some (.int f), some (.int y), some (.int (nI fs))] [] (G, I, J, R) K ↔ K (some (.int (p_hap I (fun r => decide (b r = fs)) m f))) (G, I, J, R) := by
  have hm := h.1
  have a0 := fun (K : Option Value → tm_H → Prop) => c112 (G := G) (I := I) (J := J) (R := R) (d + 1) K hS hR h hfs (show 0 < 5 by decide) (hv 0 (by decide) (by decide))
  have a1 := fun (K : Option Value → tm_H → Prop) => c112 (G := G) (I := I) (J := J) (R := R) (d + 1) K hS hR h hfs (show 1 < 5 by decide) (hv 1 (by decide) (by decide))
  have a4 := fun (K : Option Value → tm_H → Prop) => c112 (G := G) (I := I) (J := J) (R := R) (d + 1) K hS hR h hfs (show 4 < 5 by decide) (hv 4 (by decide) (by decide))
  have v2 := hv 2 (by decide) (by decide)
  rw [show nI 0 = (0 : Int32) from rfl] at a0
  rw [show nI 1 = (1 : Int32) from rfl] at a1
  rw [show nI 4 = (4 : Int32) from rfl] at a4
  have a2 : ∀ K : Option Value → tm_H → Prop, (tm_R (d + 4) 113 [.ref 3, .int (nI fs)] (G, I, J, R) K ↔ K (some (.int (p_lw I (fun r => decide (b r = fs)) m))) (G, I, J, R)) := fun K => c113 (d + 1) K hS hR h hfs v2
  have a3 : ∀ K : Option Value → tm_H → Prop, (tm_R (d + 4) 114 [.ref 3, .int (nI fs)] (G, I, J, R) K ↔ K (some (.int (p_hg I (fun r => decide (b r = fs)) m))) (G, I, J, R)) := fun K => c114 (d + 1) K hS hR h hfs hu
  have a5 := fun (K : Option Value → tm_H → Prop) => c33 (G := G) (I := I) (J := J) (R := R) (d + 3) K hS hR h (show fs < 10 by omega)
  unfold p_hap
  rw [r103_30, r103_31]
  rcases q_sw7 f with rfl | rfl | rfl | rfl | rfl | rfl | rfl | hf
  · rw [show tm_tsw 132 0 6 #[41, 49, 57, 78, 99, 107, 117] 31 0 = 72 by decide, if_pos rfl]
    simp only [r103_72, r103_73, r103_75, r103_76, r103_79, sh_3 hS, a0, p_al, tm_in, or_true, true_or, tm_cs0, tm_cs1, tm_cs2, tm_cs3, tm_cs4, true_and, and_true, and_self, Option.toList_some, Option.toList_none, List.cons_append, List.nil_append, tm_rf_some, tm_rf_none]
  · rw [show tm_tsw 132 0 6 #[41, 49, 57, 78, 99, 107, 117] 31 1 = 80 by decide, if_neg (by decide), if_pos rfl]
    simp only [r103_80, r103_81, r103_83, r103_84, r103_87, sh_3 hS, a1, p_al, tm_in, or_true, true_or, tm_cs0, tm_cs1, tm_cs2, tm_cs3, tm_cs4, true_and, and_true, and_self, Option.toList_some, Option.toList_none, List.cons_append, List.nil_append, tm_rf_some, tm_rf_none]
  · rw [show tm_tsw 132 0 6 #[41, 49, 57, 78, 99, 107, 117] 31 2 = 88 by decide, if_neg (by decide), if_neg (by decide), if_pos rfl]
    simp only [r103_88, r103_89, r103_91, sh_3 hS, c115 _ _ hS hR h hfs v2 hu, tm_in, or_true, true_or, tm_cs0, tm_cs1, tm_cs2, tm_cs3, tm_cs4, true_and, and_true, and_self, Option.toList_some, Option.toList_none, List.cons_append, List.nil_append, tm_rf_some, tm_rf_none]
    by_cases z : p_hg I (fun r => decide (b r = fs)) m < p_lw I (fun r => decide (b r = fs)) m
    · simp only [z, if_true, r103_94, r103_97, r103_99, r103_108, show ¬ (1 : Int32) = 0 by decide, if_false]
    · simp only [z, if_true, if_false, r103_94, r103_102, r103_103, r103_105, r103_108, sh_3 hS, a2, tm_in, or_true, true_or, tm_cs0, tm_cs1, tm_cs2, tm_cs3, tm_cs4, true_and, and_true, and_self, Option.toList_some, Option.toList_none, List.cons_append, List.nil_append, tm_rf_some, tm_rf_none]
  · rw [show tm_tsw 132 0 6 #[41, 49, 57, 78, 99, 107, 117] 31 3 = 109 by decide, if_neg (by decide), if_neg (by decide), if_neg (by decide), if_pos rfl]
    simp only [r103_109, r103_110, r103_112, sh_3 hS, c115 _ _ hS hR h hfs v2 hu, tm_in, or_true, true_or, tm_cs0, tm_cs1, tm_cs2, tm_cs3, tm_cs4, true_and, and_true, and_self, Option.toList_some, Option.toList_none, List.cons_append, List.nil_append, tm_rf_some, tm_rf_none]
    by_cases z : p_hg I (fun r => decide (b r = fs)) m < p_lw I (fun r => decide (b r = fs)) m
    · simp only [z, if_true, r103_115, r103_118, r103_120, r103_129, show ¬ (1 : Int32) = 0 by decide, if_false]
    · simp only [z, if_true, if_false, r103_115, r103_123, r103_124, r103_126, r103_129, sh_3 hS, a3, tm_in, or_true, true_or, tm_cs0, tm_cs1, tm_cs2, tm_cs3, tm_cs4, true_and, and_true, and_self, Option.toList_some, Option.toList_none, List.cons_append, List.nil_append, tm_rf_some, tm_rf_none]
  · rw [show tm_tsw 132 0 6 #[41, 49, 57, 78, 99, 107, 117] 31 4 = 130 by decide, if_neg (by decide), if_neg (by decide), if_neg (by decide), if_neg (by decide), if_pos rfl]
    simp only [r103_130, r103_131, r103_133, r103_134, r103_137, sh_3 hS, a4, p_al, tm_in, or_true, true_or, tm_cs0, tm_cs1, tm_cs2, tm_cs3, tm_cs4, true_and, and_true, and_self, Option.toList_some, Option.toList_none, List.cons_append, List.nil_append, tm_rf_some, tm_rf_none]
  · rw [show tm_tsw 132 0 6 #[41, 49, 57, 78, 99, 107, 117] 31 5 = 138 by decide, if_neg (by decide), if_neg (by decide), if_neg (by decide), if_neg (by decide), if_neg (by decide), if_pos rfl]
    simp only [r103_138, r103_139, r103_142, r103_144, r103_147, sh_3 hS, sh_71 hS, rf_3_5 hR, a5, tm_in, or_true, true_or, tm_cs0, tm_cs1, tm_cs2, tm_cs3, tm_cs4, true_and, and_true, and_self, Option.toList_some, Option.toList_none, List.cons_append, List.nil_append, tm_rf_some, tm_rf_none]
  · rw [show tm_tsw 132 0 6 #[41, 49, 57, 78, 99, 107, 117] 31 6 = 148 by decide, if_neg (by decide), if_neg (by decide), if_neg (by decide), if_neg (by decide), if_neg (by decide), if_neg (by decide), if_pos rfl]
    simp only [r103_148, r103_149, r103_151, sh_3 hS, c115 _ _ hS hR h hfs v2 hu, tm_in, or_true, true_or, tm_cs0, tm_cs1, tm_cs2, tm_cs3, tm_cs4, true_and, and_true, and_self, Option.toList_some, Option.toList_none, List.cons_append, List.nil_append, tm_rf_some, tm_rf_none]
    by_cases z : p_hg I (fun r => decide (b r = fs)) m < p_lw I (fun r => decide (b r = fs)) m
    · simp only [z, if_true, r103_154, r103_157, r103_158, r103_161, r103_162, show ¬ (1 : Int32) = 0 by decide, if_false]
    · simp only [z, if_true, if_false, r103_154, r103_157, r103_158, r103_161, r103_162]
  · have hd : tm_tsw 132 0 6 #[41, 49, 57, 78, 99, 107, 117] 31 f = 163 := by unfold tm_tsw; rw [if_pos hf]; rfl
    have n0 : ¬ f = 0 := fun q => by subst q; revert hf; decide
    have n1 : ¬ f = 1 := fun q => by subst q; revert hf; decide
    have n2 : ¬ f = 2 := fun q => by subst q; revert hf; decide
    have n3 : ¬ f = 3 := fun q => by subst q; revert hf; decide
    have n4 : ¬ f = 4 := fun q => by subst q; revert hf; decide
    have n5 : ¬ f = 5 := fun q => by subst q; revert hf; decide
    have n6 : ¬ f = 6 := fun q => by subst q; revert hf; decide
    rw [hd, if_neg n0, if_neg n1, if_neg n2, if_neg n3, if_neg n4, if_neg n5, if_neg n6]
    simp only [r103_163, r103_164]
theorem c103 (d e : Nat) (x f y : Int32) (K : Option Value → tm_H → Prop) (hp : iv_p G I J R nw rp ch n oc pr tl fa ro dy rd) (h0 : ¬ tm_in y (nw + 1) → K (some (.int (-1))) (G, I, J, R)) (hN : ∀ q m I1 J1 I', y = nI q → gx e 0 G I1 I' J1 R nw rp ch n oc pr tl fa ro dy rd q m → K (some (.int (-1))) (G, I1, J1, R)) (hY : ∀ q m I1 J1 I' b w g, y = nI q → gx e 1 G I1 I' J1 R nw rp ch n oc pr tl fa ro dy rd q m → gy I1 I' J1 oc m b w g → K (some (.int (if tm_in x m then p_hap I1 (fun r => decide (b r = b (tm_ix x))) m f else -1))) (G, I1, J1, R)) : tm_R (d + 8) 103 [.ref 3, .int x, .int f, .int y] (G, I, J, R) K := by
  obtain ⟨hS, hR, -⟩ := hp.1
  rw [e103]
  simp only [r103_0, r103_1, r103_2, sh_3 hS, tm_in, or_true, true_or, tm_cs0, tm_cs1, tm_cs2, tm_cs3, tm_cs4, true_and, and_true, and_self, Option.toList_some, Option.toList_none, List.cons_append, List.nil_append, tm_rf_some, tm_rf_none]
  refine c110x d e y _ hp (fun h => ?_) (fun q m I1 J1 I' ey h1 => ?_) (fun q m I1 J1 I' b w g ey h1 h2 => ?_)
  · simp only [r103_5, r103_19, r103_20, r103_22, r103_24, r103_25, r103_28, r103_29, if_true, not_true, if_false, tm_in, or_true, true_or, tm_cs0, tm_cs1, tm_cs2, tm_cs3, tm_cs4, true_and, and_true, and_self, Option.toList_some, Option.toList_none, List.cons_append, List.nil_append, tm_rf_some, tm_rf_none]
    exact h0 h
  · simp only [r103_5, r103_19, r103_20, r103_22, r103_24, r103_25, r103_28, r103_29, if_true, not_true, if_false, tm_in, or_true, true_or, tm_cs0, tm_cs1, tm_cs2, tm_cs3, tm_cs4, true_and, and_true, and_self, Option.toList_some, Option.toList_none, List.cons_append, List.nil_append, tm_rf_some, tm_rf_none]
    exact hN q m I1 J1 I' ey h1
  · have hk := hY q m I1 J1 I' b w g ey h1 h2
    have h21 := h2.2.1
    simp only [r103_5, r103_8, r103_9, r103_12, r103_13, r103_16, r103_20, r103_22, r103_24, r103_25, show ¬ (1 : Int32) = 0 by decide, if_false, sh_3 hS, sh_71 hS, rf_3_5 hR, c31 _ _ _ hS hR h21.2.2.1 h21.1, tm_in, or_true, true_or, tm_cs0, tm_cs1, tm_cs2, tm_cs3, tm_cs4, true_and, and_true, and_self, Option.toList_some, Option.toList_none, List.cons_append, List.nil_append, tm_rf_some, tm_rf_none]
    by_cases hx : tm_in x m
    · rw [if_pos hx] at hk ⊢
      have hkk := q_of hx
      generalize tm_ix x = r at hkk hk ⊢
      obtain ⟨rfl, hr⟩ := hkk
      have hm := h21.1
      have hb := (h21.2.2.2 r hr)
      have hn := nI_m1 (y := b r) (by omega)
      rw [hb.1, if_pos hn]
      rw [c103t (d + 3) (nI r) f y K hS hR h21 (show b r < m by omega) (fun f hf h3 => gx_v h1 hf h3) (gx_u h1)]
      exact hk
    · rw [if_neg hx] at hk ⊢
      simp only [not_true, if_false, r103_28, r103_29]
      exact hk
theorem m163n (d : Nat) (x f y : Int32) (K : Option Value → tm_H → Prop) (hp : iv_p G I J R nw rp ch n oc pr tl fa ro dy rd) (hy : ¬ tm_in y (nw + 1)) : tm_R (d + 3) 163 [.ref 89, .int x, .int f, .int y] (G, I, J, R) K ↔ K (some (.int (-1))) (G, I, J, R) := by
  have hS := hp.1.1
  rw [e163]
  simp only [r163_0, r163_1, r163_2, r163_3, r163_6, r163_17, r163_18, sh_89 hS, m138n _ _ _ _ hp hy, if_true, tm_in, or_true, true_or, tm_cs0, tm_cs1, tm_cs2, tm_cs3, tm_cs4, true_and, and_true, and_self, Option.toList_some, Option.toList_none, List.cons_append, List.nil_append, tm_rf_some, tm_rf_none]
theorem m163z (d : Nat) (x f : Int32) (K : Option Value → tm_H → Prop) (h : gx d 0 G I I' J R nw rp ch n oc pr tl fa ro dy rd q m) : tm_R (d + 14) 163 [.ref 89, .int x, .int f, .int (nI q)] (G, I, J, R) K ↔ if tm_in x m then K (some (.int (-1))) (G, I', J, R) else K (some (.int (-1))) (G, I, J, R) := by
  obtain ⟨h1, h2, h3, h4, h5, h6, h7⟩ := h
  have hS := h3.1
  rw [e163]
  by_cases hx : tm_in x m
  · rw [if_pos hx]
    simp only [r163_0, r163_1, r163_2, r163_3, r163_6, r163_9, r163_10, r163_11, r163_14, r163_17, r163_18, sh_89 hS, m138k _ _ _ h3 h4.2.1 h1, hx, if_true, if_false, show ¬ (1 : Int32) = 0 by decide, h7, not_true, tm_in, or_true, true_or, tm_cs0, tm_cs1, tm_cs2, tm_cs3, tm_cs4, true_and, and_true, and_self, Option.toList_some, Option.toList_none, List.cons_append, List.nil_append, tm_rf_some, tm_rf_none]
  · rw [if_neg hx]
    simp only [r163_0, r163_1, r163_2, r163_3, r163_6, r163_17, r163_18, sh_89 hS, m138k _ _ _ h3 h4.2.1 h1, hx, if_true, if_false, tm_in, or_true, true_or, tm_cs0, tm_cs1, tm_cs2, tm_cs3, tm_cs4, true_and, and_true, and_self, Option.toList_some, Option.toList_none, List.cons_append, List.nil_append, tm_rf_some, tm_rf_none]
theorem m163t (d : Nat) (o1 o3 : Option Value) (f : Int32) (K : Option Value → tm_H → Prop) (h : kw G I R nw rp ch n oc pr tl fa ro dy rd q m) (hw : mf_ok I m g w) {gg : Nat} (hg : gg < 10) : tm_A (d + 2) 163 74 [some (.ref 89), o1, some (.int f), o3, some (.int (nI gg)), some (.int (nI (p_cn (fun r => decide (w r = gg)) m 0))), some (.int (nI m))] [] (G, I, J, R) K ↔ K (some (.int (p_hap I (fun r => decide (w r = gg)) m f))) (G, I, J, R) := by
  have hS := h.1.1
  have a0 := fun (K : Option Value → tm_H → Prop) => m161 (G := G) (I := I) (J := J) (R := R) d K h hw hg (show 0 < 5 by decide) (by decide)
  have a1 := fun (K : Option Value → tm_H → Prop) => m161 (G := G) (I := I) (J := J) (R := R) d K h hw hg (show 1 < 5 by decide) (by decide)
  have a4 := fun (K : Option Value → tm_H → Prop) => m161 (G := G) (I := I) (J := J) (R := R) d K h hw hg (show 4 < 5 by decide) (by decide)
  rw [show nI 0 = (0 : Int32) from rfl] at a0
  rw [show nI 1 = (1 : Int32) from rfl] at a1
  rw [show nI 4 = (4 : Int32) from rfl] at a4
  unfold p_hap
  simp only [r163_74, r163_75, r163_77, r163_78, r163_81, r163_82, r163_84, r163_85, r163_88, sh_89 hS, m162l _ _ h hw hg, m162h _ _ h hw hg, tm_in, or_true, true_or, tm_cs0, tm_cs1, tm_cs2, tm_cs3, tm_cs4, true_and, and_true, and_self, Option.toList_some, Option.toList_none, List.cons_append, List.nil_append, tm_rf_some, tm_rf_none]
  have fin : ∀ (v6 : Int32), v6 = (if p_hg I (fun r => decide (w r = gg)) m < p_lw I (fun r => decide (w r = gg)) m then 1 else 0) → (tm_A (d + 2) 163 96 [some (.ref 89), o1, some (.int f), o3, some (.int (nI gg)), some (.int (nI (p_cn (fun r => decide (w r = gg)) m 0))), some (.int (nI m))] [.int v6] (G, I, J, R) K ↔ K (some (.int (p_hap I (fun r => decide (w r = gg)) m f))) (G, I, J, R)) := fun v6 e6 => by
    unfold p_hap
    simp only [r163_96, r163_98, r163_99]
    rcases q_sw7 f with rfl | rfl | rfl | rfl | rfl | rfl | rfl | hf
    · rw [show tm_tsw 115 0 6 #[41, 49, 57, 75, 93, 101, 104] 99 0 = 140 by decide, if_pos rfl]
      simp only [r163_140, r163_141, r163_143, r163_144, r163_147, sh_89 hS, a0, tm_in, or_true, true_or, tm_cs0, tm_cs1, tm_cs2, tm_cs3, tm_cs4, true_and, and_true, and_self, Option.toList_some, Option.toList_none, List.cons_append, List.nil_append, tm_rf_some, tm_rf_none]
    · rw [show tm_tsw 115 0 6 #[41, 49, 57, 75, 93, 101, 104] 99 1 = 148 by decide, if_neg (by decide), if_pos rfl]
      simp only [r163_148, r163_149, r163_151, r163_152, r163_155, sh_89 hS, a1, tm_in, or_true, true_or, tm_cs0, tm_cs1, tm_cs2, tm_cs3, tm_cs4, true_and, and_true, and_self, Option.toList_some, Option.toList_none, List.cons_append, List.nil_append, tm_rf_some, tm_rf_none]
    · rw [show tm_tsw 115 0 6 #[41, 49, 57, 75, 93, 101, 104] 99 2 = 156 by decide, if_neg (by decide), if_neg (by decide), if_pos rfl]
      by_cases z : p_hg I (fun r => decide (w r = gg)) m < p_lw I (fun r => decide (w r = gg)) m
      · simp only [e6, z, if_true, r163_156, r163_158, r163_161, r163_163, r163_173, show ¬ (1 : Int32) = 0 by decide, if_false]
      · simp only [e6, z, if_true, if_false, r163_156, r163_158, r163_166, r163_167, r163_169, r163_170, r163_173, sh_89 hS, m162l _ _ h hw hg, tm_in, or_true, true_or, tm_cs0, tm_cs1, tm_cs2, tm_cs3, tm_cs4, true_and, and_true, and_self, Option.toList_some, Option.toList_none, List.cons_append, List.nil_append, tm_rf_some, tm_rf_none]
    · rw [show tm_tsw 115 0 6 #[41, 49, 57, 75, 93, 101, 104] 99 3 = 174 by decide, if_neg (by decide), if_neg (by decide), if_neg (by decide), if_pos rfl]
      by_cases z : p_hg I (fun r => decide (w r = gg)) m < p_lw I (fun r => decide (w r = gg)) m
      · simp only [e6, z, if_true, r163_174, r163_176, r163_179, r163_181, r163_191, show ¬ (1 : Int32) = 0 by decide, if_false]
      · simp only [e6, z, if_true, if_false, r163_174, r163_176, r163_184, r163_185, r163_187, r163_188, r163_191, sh_89 hS, m162h _ _ h hw hg, tm_in, or_true, true_or, tm_cs0, tm_cs1, tm_cs2, tm_cs3, tm_cs4, true_and, and_true, and_self, Option.toList_some, Option.toList_none, List.cons_append, List.nil_append, tm_rf_some, tm_rf_none]
    · rw [show tm_tsw 115 0 6 #[41, 49, 57, 75, 93, 101, 104] 99 4 = 192 by decide, if_neg (by decide), if_neg (by decide), if_neg (by decide), if_neg (by decide), if_pos rfl]
      simp only [r163_192, r163_193, r163_195, r163_196, r163_199, sh_89 hS, a4, tm_in, or_true, true_or, tm_cs0, tm_cs1, tm_cs2, tm_cs3, tm_cs4, true_and, and_true, and_self, Option.toList_some, Option.toList_none, List.cons_append, List.nil_append, tm_rf_some, tm_rf_none]
    · rw [show tm_tsw 115 0 6 #[41, 49, 57, 75, 93, 101, 104] 99 5 = 200 by decide, if_neg (by decide), if_neg (by decide), if_neg (by decide), if_neg (by decide), if_neg (by decide), if_pos rfl]
      simp only [r163_200, r163_202]
    · rw [show tm_tsw 115 0 6 #[41, 49, 57, 75, 93, 101, 104] 99 6 = 203 by decide, if_neg (by decide), if_neg (by decide), if_neg (by decide), if_neg (by decide), if_neg (by decide), if_neg (by decide), if_pos rfl]
      by_cases z : p_hg I (fun r => decide (w r = gg)) m < p_lw I (fun r => decide (w r = gg)) m
      · simp only [e6, z, if_true, r163_203, r163_205, r163_208, r163_209, r163_212, r163_213, show ¬ (1 : Int32) = 0 by decide, if_false]
      · simp only [e6, z, if_true, if_false, r163_203, r163_205, r163_208, r163_209, r163_212, r163_213]
    · have hd : tm_tsw 115 0 6 #[41, 49, 57, 75, 93, 101, 104] 99 f = 214 := by unfold tm_tsw; rw [if_pos hf]; rfl
      have n0 : ¬ f = 0 := fun q => by subst q; revert hf; decide
      have n1 : ¬ f = 1 := fun q => by subst q; revert hf; decide
      have n2 : ¬ f = 2 := fun q => by subst q; revert hf; decide
      have n3 : ¬ f = 3 := fun q => by subst q; revert hf; decide
      have n4 : ¬ f = 4 := fun q => by subst q; revert hf; decide
      have n5 : ¬ f = 5 := fun q => by subst q; revert hf; decide
      have n6 : ¬ f = 6 := fun q => by subst q; revert hf; decide
      rw [hd, if_neg n0, if_neg n1, if_neg n2, if_neg n3, if_neg n4, if_neg n5, if_neg n6]
      simp only [r163_214, r163_215]
  unfold p_hap at fin
  by_cases z : p_hg I (fun r => decide (w r = gg)) m < p_lw I (fun r => decide (w r = gg)) m
  · have z' := Int32.not_le.mpr z
    rw [if_neg z']
    simp only [r163_91, r163_92]
    exact fin 1 (by rw [if_pos z])
  · have z' := Int32.not_lt.mp z
    rw [if_pos z']
    simp only [r163_95]
    exact fin 0 (by rw [if_neg z])
theorem m163y (d : Nat) (x f : Int32) (K : Option Value → tm_H → Prop) (h : gx d 1 G I I' J R nw rp ch n oc pr tl fa ro dy rd q m) (hg : gy I I' J oc m b w g) : tm_R (d + 14) 163 [.ref 89, .int x, .int f, .int (nI q)] (G, I, J, R) K ↔ if tm_in x m then K (some (.int (p_hap I (fun r => decide (b r = b (tm_ix x))) m f))) (G, I', J, R) else K (some (.int (-1))) (G, I, J, R) := by
  obtain ⟨h1, h2, h3, h4, h5, h6, h7⟩ := h
  have hS := h3.1
  have hR := h3.2.1
  rw [e163]
  by_cases hx : tm_in x m
  · have hk := q_of hx
    rw [if_pos hx]
    generalize tm_ix x = r at hk ⊢
    obtain ⟨rfl, hr⟩ := hk
    obtain ⟨g1, g2, g3, g4⟩ := hg
    have hrel := g1.2.1
    have ir : tm_in (nI r) 10 := q_in (by omega) (by decide)
    have hwr := (g3.2 r hr)
    have g10 := g3.1
    simp only [r163_0, r163_1, r163_2, r163_3, r163_6, r163_9, r163_10, r163_11, r163_14, r163_17, r163_18, r163_19, r163_20, r163_23, r163_24, r163_25, r163_28, r163_29, r163_31, r163_32, r163_34, r163_35, sh_89 hS, m138k _ _ _ h3 h4.2.1 h1, hx, if_true, if_false, show ¬ (1 : Int32) = 0 by decide, h7, not_false_eq_true, rf_89_31 hR, m157 _ _ h5 hr, sh_109 hS, ir, q_ix (show r < 2147483648 by omega), hwr.1, tm_in, or_true, true_or, tm_cs0, tm_cs1, tm_cs2, tm_cs3, tm_cs4, true_and, and_true, and_self, Option.toList_some, Option.toList_none, List.cons_append, List.nil_append, tm_rf_some, tm_rf_none]
    have hh : p_hap I (fun i => decide (b i = b r)) m f = p_hap I' (fun i => decide (w i = w r)) m f := by
      refine (p_hap_c h6 h2 (fun i hi => ?_) f).symm
      have := gr_sel hrel hi hr
      simp only [this]
    rw [hh]
    have l : ∀ (n i c : Nat), i + n = m → c + p_cn (fun i => decide (w i = w r)) n i = p_cn (fun i => decide (w i = w r)) m 0 → (tm_A (d + 14) 163 37 [some (.ref 89), some (.int (nI r)), some (.int f), some (.int (nI q)), some (.int (nI (w r))), some (.int (nI c)), some (.int (nI i))] [] (G, I', J, R) K ↔ K (some (.int (p_hap I' (fun i => decide (w i = w r)) m f))) (G, I', J, R)) := by
      intro n
      induction n with
      | zero =>
        intro i c hi hc
        have : i = m := by omega
        subst this
        have hle : nI i ≤ nI i := Int32.le_refl _
        rw [r163_37]
        simp only [r163_39, r163_40, r163_43, sh_89 hS, h5.2.2.2.1, hle, if_true, tm_in, or_true, true_or, tm_cs0, tm_cs1, tm_cs2, tm_cs3, tm_cs4, true_and, and_true, and_self, Option.toList_some, Option.toList_none, List.cons_append, List.nil_append, tm_rf_some, tm_rf_none]
        rw [show c = p_cn (fun i => decide (w i = w r)) i 0 from hc]
        exact m163t (d + 12) _ _ f K h5 g3 (show w r < 10 by omega)
      | succ n ih =>
        intro i c hi hc
        have i1 : tm_in (nI i) 10 := q_in (by omega) (by decide)
        have hwi := (g3.2 i (by omega))
        have hle : ¬ nI m ≤ nI i := fun z => by
          have := (q_le (a := m) (b := i) rfl rfl (by omega) (by omega)).mp z
          omega
        have he : nI (w i) = nI (w r) ↔ w i = w r := nI_eq (by omega) (by omega)
        rw [p_cn] at hc
        rw [r163_37]
        simp only [r163_39, r163_40, r163_43, r163_46, r163_48, r163_49, r163_52, r163_54, r163_55, r163_57, sh_89 hS, h5.2.2.2.1, hle, if_false, sh_109 hS, rf_89_31 hR, i1, q_ix (show i < 2147483648 by omega), hwi.1, he, tm_in, or_true, true_or, tm_cs0, tm_cs1, tm_cs2, tm_cs3, tm_cs4, true_and, and_true, and_self, Option.toList_some, Option.toList_none, List.cons_append, List.nil_append, tm_rf_some, tm_rf_none]
        by_cases e : w i = w r
        · have e' : ¬ ¬ w i = w r := fun z => z e
          rw [if_neg e']
          rw [if_pos (by simp [e])] at hc
          simp only [r163_60, r163_61, r163_65, r163_66, r163_68, r163_71, nI_1]
          exact ih (i + 1) (c + 1) (by omega) (by omega)
        · rw [if_pos e]
          rw [if_neg (by simp [e])] at hc
          simp only [r163_64, r163_65, r163_66, r163_68, r163_71, nI_1]
          have e0 : nI c + 0 = nI c := by rw [show (0 : Int32) = nI 0 from rfl, nI_add]; rfl
          rw [e0]
          exact ih (i + 1) c (by omega) (by omega)
    have := l m 0 0 (by omega) (by omega)
    rw [nI_0] at this
    exact this
  · rw [if_neg hx]
    simp only [r163_0, r163_1, r163_2, r163_3, r163_6, r163_17, r163_18, sh_89 hS, m138k _ _ _ h3 h4.2.1 h1, hx, if_true, if_false, tm_in, or_true, true_or, tm_cs0, tm_cs1, tm_cs2, tm_cs3, tm_cs4, true_and, and_true, and_self, Option.toList_some, Option.toList_none, List.cons_append, List.nil_append, tm_rf_some, tm_rf_none]
theorem bo_happening (d : Nat) (x f y : Int32) (hi : iv (G, I, J, R)) : iv_both (d + 14) 103 163 [.int x, .int f, .int y] (G, I, J, R) := by
  have hi0 := hi
  obtain ⟨nw, rp, ch, n, oc, pr, tl, fa, ro, dy, rd, hp⟩ : ∃ (nw rp ch n oc pr : Nat) (tl fa ro dy rd : Nat → Nat), iv_p G I J R nw rp ch n oc pr tl fa ro dy rd := hi
  unfold iv_both
  refine c103 (d + 6) d x f y _ hp (fun h => ?_) (fun q m I1 J1 I' ey h1 => ?_) (fun q m I1 J1 I' b w g ey h1 h2 => ?_)
  · rw [m163n (d + 11) x f y _ hp h]
    exact iv_same _ hi0
  · subst ey
    rw [m163z d x f _ h1]
    by_cases hx : tm_in x m
    · rw [if_pos hx]; exact iv_same _ (gx_iv h1)
    · rw [if_neg hx]; exact iv_same _ (gx_iv0 h1)
  · subst ey
    rw [m163y d x f _ h1 h2]
    by_cases hx : tm_in x m
    · rw [if_pos hx, if_pos hx]; exact iv_same _ (gx_iv h1)
    · rw [if_neg hx, if_neg hx]; exact iv_same _ (gx_iv0 h1)
end BHP
