/-! Counts, on both. -/
section CNT
variable {G : tm_G} {I I' : Nat → Nat → Int32} {J J' : Nat → Nat → Int64} {R : Nat → Nat → Option Nat}
theorem c108 (d : Nat) (v : Int32) (K : Option Value → tm_H → Prop) (hS : tp_S G) (hR : tp_R R) : tm_R (d + 1) 108 [.ref 3, .int v] (G, I, J, R) K ↔ K (some (.int (if v = 0 then I 3 7 else if v = 1 then I 9 3 else if v = 2 then I 9 4 else if v = 3 then I 4 1 else if v = 4 then nI (p_ct (fun i => I (48 + 1 * i)) 1 0 10) else if v = 5 then nI (p_ct (fun i => I (48 + 1 * i)) 2 0 10) else -1))) (G, I, J, R) := by
  rw [e108]
  simp only [r108_0, r108_1]
  rcases q_sw6 v with rfl | rfl | rfl | rfl | rfl | rfl | hv
  · rw [show tm_tsw 86 0 5 #[39, 44, 52, 60, 68, 77] 1 0 = 40 by decide]
    simp only [r108_40, r108_41, r108_44, r108_45, r108_46, r108_49, r108_52, r108_53, r108_54, r108_57, r108_60, r108_61, r108_62, r108_65, r108_68, r108_69, r108_70, r108_73, r108_74, r108_77, r108_78, r108_79, r108_82, r108_83, r108_86, r108_87, r108_88, sh_3 hS, tm_in, or_true, true_or, tm_cs0, tm_cs1, tm_cs2, tm_cs3, tm_cs4, true_and, and_true, and_self, Option.toList_some, Option.toList_none, List.cons_append, List.nil_append, tm_rf_some, tm_rf_none]
    simp
  · rw [show tm_tsw 86 0 5 #[39, 44, 52, 60, 68, 77] 1 1 = 45 by decide]
    simp only [r108_40, r108_41, r108_44, r108_45, r108_46, r108_49, r108_52, r108_53, r108_54, r108_57, r108_60, r108_61, r108_62, r108_65, r108_68, r108_69, r108_70, r108_73, r108_74, r108_77, r108_78, r108_79, r108_82, r108_83, r108_86, r108_87, r108_88, sh_3 hS, sh_9 hS, rf_3_1 hR, c49 _ _ hS, tm_in, or_true, true_or, tm_cs0, tm_cs1, tm_cs2, tm_cs3, tm_cs4, true_and, and_true, and_self, Option.toList_some, Option.toList_none, List.cons_append, List.nil_append, tm_rf_some, tm_rf_none]
    simp
  · rw [show tm_tsw 86 0 5 #[39, 44, 52, 60, 68, 77] 1 2 = 53 by decide]
    simp only [r108_40, r108_41, r108_44, r108_45, r108_46, r108_49, r108_52, r108_53, r108_54, r108_57, r108_60, r108_61, r108_62, r108_65, r108_68, r108_69, r108_70, r108_73, r108_74, r108_77, r108_78, r108_79, r108_82, r108_83, r108_86, r108_87, r108_88, sh_3 hS, sh_9 hS, rf_3_1 hR, c50 _ _ hS, tm_in, or_true, true_or, tm_cs0, tm_cs1, tm_cs2, tm_cs3, tm_cs4, true_and, and_true, and_self, Option.toList_some, Option.toList_none, List.cons_append, List.nil_append, tm_rf_some, tm_rf_none]
    simp
  · rw [show tm_tsw 86 0 5 #[39, 44, 52, 60, 68, 77] 1 3 = 61 by decide]
    simp only [r108_40, r108_41, r108_44, r108_45, r108_46, r108_49, r108_52, r108_53, r108_54, r108_57, r108_60, r108_61, r108_62, r108_65, r108_68, r108_69, r108_70, r108_73, r108_74, r108_77, r108_78, r108_79, r108_82, r108_83, r108_86, r108_87, r108_88, sh_3 hS, sh_4 hS, rf_3_0 hR, c71 _ _ hS, tm_in, or_true, true_or, tm_cs0, tm_cs1, tm_cs2, tm_cs3, tm_cs4, true_and, and_true, and_self, Option.toList_some, Option.toList_none, List.cons_append, List.nil_append, tm_rf_some, tm_rf_none]
    simp
  · rw [show tm_tsw 86 0 5 #[39, 44, 52, 60, 68, 77] 1 4 = 69 by decide]
    simp only [r108_40, r108_41, r108_44, r108_45, r108_46, r108_49, r108_52, r108_53, r108_54, r108_57, r108_60, r108_61, r108_62, r108_65, r108_68, r108_69, r108_70, r108_73, r108_74, r108_77, r108_78, r108_79, r108_82, r108_83, r108_86, r108_87, r108_88, sh_3 hS, sh_46 hS, rf_3_3 hR, c38 _ _ _ hS hR, tm_in, or_true, true_or, tm_cs0, tm_cs1, tm_cs2, tm_cs3, tm_cs4, true_and, and_true, and_self, Option.toList_some, Option.toList_none, List.cons_append, List.nil_append, tm_rf_some, tm_rf_none]
    simp
  · rw [show tm_tsw 86 0 5 #[39, 44, 52, 60, 68, 77] 1 5 = 78 by decide]
    simp only [r108_40, r108_41, r108_44, r108_45, r108_46, r108_49, r108_52, r108_53, r108_54, r108_57, r108_60, r108_61, r108_62, r108_65, r108_68, r108_69, r108_70, r108_73, r108_74, r108_77, r108_78, r108_79, r108_82, r108_83, r108_86, r108_87, r108_88, sh_3 hS, sh_46 hS, rf_3_3 hR, c38 _ _ _ hS hR, tm_in, or_true, true_or, tm_cs0, tm_cs1, tm_cs2, tm_cs3, tm_cs4, true_and, and_true, and_self, Option.toList_some, Option.toList_none, List.cons_append, List.nil_append, tm_rf_some, tm_rf_none]
    simp
  · have hd : tm_tsw 86 0 5 #[39, 44, 52, 60, 68, 77] 1 v = 87 := by unfold tm_tsw; rw [if_pos hv]; rfl
    have n0 : ¬ v = 0 := fun q => by subst q; revert hv; decide
    have n1 : ¬ v = 1 := fun q => by subst q; revert hv; decide
    have n2 : ¬ v = 2 := fun q => by subst q; revert hv; decide
    have n3 : ¬ v = 3 := fun q => by subst q; revert hv; decide
    have n4 : ¬ v = 4 := fun q => by subst q; revert hv; decide
    have n5 : ¬ v = 5 := fun q => by subst q; revert hv; decide
    rw [hd]
    simp only [r108_87, r108_88, n0, n1, n2, n3, n4, n5, if_false, tm_in, or_true, true_or, tm_cs0, tm_cs1, tm_cs2, tm_cs3, tm_cs4, true_and, and_true, and_self, Option.toList_some, Option.toList_none, List.cons_append, List.nil_append, tm_rf_some, tm_rf_none]
theorem bo_count (d : Nat) (v : Int32) (hi : iv (G, I, J, R)) : iv_both (d + 1) 108 173 [.int v] (G, I, J, R) := by
  have hi0 := hi
  obtain ⟨nw, rp, ch, n, oc, pr, tl, fa, ro, dy, rd, hp⟩ : ∃ (nw rp ch n oc pr : Nat) (tl fa ro dy rd : Nat → Nat), iv_p G I J R nw rp ch n oc pr tl fa ro dy rd := hi
  obtain ⟨s1, s2, s3, s4, s5, s6, s7⟩ := hp.1.2.2.2.1
  have hS := hp.1.1
  have hR := hp.1.2.1
  have hh := hp.1.2.2.2.2.2.1
  unfold iv_both
  rw [c108 d v _ hS hR, m173 _ v _ hS hR s2.2.1 s2.2.2, p_ct_mt hh s2.2.2 (by decide), p_ct_mt hh s2.2.2 (by decide), s1.1, s1.2.1, s2.1, s2.2.1, s3.1, s3.2.1, s5.1, s5.2.1]
  exact iv_same _ hi0
end CNT
