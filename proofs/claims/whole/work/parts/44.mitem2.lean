/-! The reference: one item, the whole of it. -/
section MI2
variable {G : tm_G} {I : Nat → Nat → Int32} {J : Nat → Nat → Int64} {R : Nat → Nat → Option Nat}
theorem m127_v (d : Nat) (K : Option Value → tm_H → Prop) (hS : tp_S G) (hR : tp_R R) {n p : Nat} (hn : I 89 6 = nI n) (hn100 : n ≤ 100) (hp : p + 1 ≤ n) {h m u x : Int32} {F N L : Nat → Int32} {f : Nat} (hf : f < 5) (h3 : f ≠ 3) (h2 : f ≠ 2) (z : Option Value) : tm_A (d + 2) 127 103 [some (.ref 89), some (.int (nI p)), z, some (.int (nI f)), none] [] (G, tp_mr I (h, m, u, x, F, N, L), J, R) K ↔ if tp_hi f < p_mv (p_rd (p_pk (I 90) n) 100 0 0 (p + 1)) then K (some (.int (-1))) (G, tp_mr I (h, m, u, p_mv (p_rd (p_pk (I 90) n) 100 0 0 (p + 1)), F, N, L), J, R) else K (some (.int (nI (p_dg (p_pk (I 90) n) (p + 1)).2))) (G, tp_mr I (h, m, u, p_mv (p_rd (p_pk (I 90) n) 100 0 0 (p + 1)), p_upf F f (p_mv (p_rd (p_pk (I 90) n) 100 0 0 (p + 1))), N, L), J, R) := by
  have hm : (if nI f = 0 then (99 : Int32) else if nI f = 1 then 999 else if nI f = 2 then 9999 else 2) = tp_hi f := by
    have : f = 0 ∨ f = 1 ∨ f = 4 := by omega
    rcases this with rfl | rfl | rfl <;> decide
  have hne : ¬ nI f = 2 := fun q => h2 ((q_eq (a := f) (b := 2) rfl rfl (by omega) (by decide)).mp q)
  have hin : tm_in (nI f) 5 := q_in hf (by decide)
  simp only [r127_103, r127_104, r127_105, r127_106, r127_107, r127_110, r127_112, r127_113, r127_116, r127_117, r127_120, sh_89 hS, nI_1, m125r _ _ hS hR hn hn100 hp, mr_13, m126, hm, tm_in, or_true, true_or, tm_cs0, tm_cs1, tm_cs2, tm_cs3, tm_cs4, true_and, and_true, and_self, Option.toList_some, Option.toList_none, List.cons_append, List.nil_append, tm_rf_some, tm_rf_none]
  generalize p_mv (p_rd (p_pk (I 90) n) 100 0 0 (p + 1)) = vl
  generalize (p_dg (p_pk (I 90) n) (p + 1)).2 = q
  by_cases hc : vl ≤ tp_hi f
  · have hc' : ¬ tp_hi f < vl := Int32.not_lt.mpr hc
    simp only [hc, hc', if_true, if_false, r127_125, r127_126, r127_129, r127_130, r127_131, r127_134, r127_135, r127_136, r127_137, r127_138, r127_141, r127_142, r127_145, r127_148, r127_149, r127_152, r127_155, r127_156, r127_157, r127_214, r127_216, sh_89 hS, sh_91 hS, rf_89_9 hR, mr_13, mr_10, mr_u10, mr_u91, hin, hne, not_false_eq_true, q_ix (show f < 2147483648 by omega), show 3 ≤ 91 by decide, tm_in, or_true, true_or, tm_cs0, tm_cs1, tm_cs2, tm_cs3, tm_cs4, true_and, and_true, and_self, Option.toList_some, Option.toList_none, List.cons_append, List.nil_append, tm_rf_some, tm_rf_none]
  · have hc' : tp_hi f < vl := Int32.not_le.mp hc
    simp only [hc, hc', if_true, if_false, r127_123, r127_124]
theorem m127_s (d : Nat) (K : Option Value → tm_H → Prop) (hS : tp_S G) (hR : tp_R R) {n p : Nat} (hn : I 89 6 = nI n) (hn100 : n ≤ 100) (hp : p + 1 ≤ n) {h m u x : Int32} {F N L : Nat → Int32} (z : Option Value) : tm_A (d + 2) 127 103 [some (.ref 89), some (.int (nI p)), z, some (.int 2), none] [] (G, tp_mr I (h, m, u, x, F, N, L), J, R) K ↔ if 9999 < p_mv (p_rd (p_pk (I 90) n) 100 0 0 (p + 1)) then K (some (.int (-1))) (G, tp_mr I (h, m, u, p_mv (p_rd (p_pk (I 90) n) 100 0 0 (p + 1)), F, N, L), J, R)
    else if p_pk (I 90) n (p_dg (p_pk (I 90) n) (p + 1)).2 = 45 then (if 9999 < p_mv (p_rd (p_pk (I 90) n) 100 0 0 ((p_dg (p_pk (I 90) n) (p + 1)).2 + 1)) ∨ p_mv (p_rd (p_pk (I 90) n) 100 0 0 ((p_dg (p_pk (I 90) n) (p + 1)).2 + 1)) < p_mv (p_rd (p_pk (I 90) n) 100 0 0 (p + 1)) then K (some (.int (-1))) (G, tp_mr I (h, m, p_mv (p_rd (p_pk (I 90) n) 100 0 0 (p + 1)), p_mv (p_rd (p_pk (I 90) n) 100 0 0 ((p_dg (p_pk (I 90) n) (p + 1)).2 + 1)), p_upf F 2 (p_mv (p_rd (p_pk (I 90) n) 100 0 0 (p + 1))), N, L), J, R) else K (some (.int (nI (p_dg (p_pk (I 90) n) ((p_dg (p_pk (I 90) n) (p + 1)).2 + 1)).2))) (G, tp_mr I (h, m, p_mv (p_rd (p_pk (I 90) n) 100 0 0 ((p_dg (p_pk (I 90) n) (p + 1)).2 + 1)), p_mv (p_rd (p_pk (I 90) n) 100 0 0 ((p_dg (p_pk (I 90) n) (p + 1)).2 + 1)), p_upf F 2 (p_mv (p_rd (p_pk (I 90) n) 100 0 0 (p + 1))), N, L), J, R))
    else K (some (.int (nI (p_dg (p_pk (I 90) n) (p + 1)).2))) (G, tp_mr I (h, m, p_mv (p_rd (p_pk (I 90) n) 100 0 0 (p + 1)), p_mv (p_rd (p_pk (I 90) n) 100 0 0 (p + 1)), p_upf F 2 (p_mv (p_rd (p_pk (I 90) n) 100 0 0 (p + 1))), N, L), J, R) := by
  have h126 : ∀ (d : Nat) (h : tm_H) (K : Option Value → tm_H → Prop), tm_R d 126 [.int 2] h K ↔ K (some (.int 9999)) h := fun d h K => by
    rw [m126]
    exact Iff.rfl
  have hin : tm_in 2 5 := by decide
  have lq := p_dg_le (b := I 90) hp
  simp only [r127_103, r127_104, r127_105, r127_106, r127_107, r127_110, r127_112, r127_113, r127_116, r127_117, r127_120, sh_89 hS, nI_1, m125r _ _ hS hR hn hn100 hp, mr_13, h126, tm_in, or_true, true_or, tm_cs0, tm_cs1, tm_cs2, tm_cs3, tm_cs4, true_and, and_true, and_self, Option.toList_some, Option.toList_none, List.cons_append, List.nil_append, tm_rf_some, tm_rf_none]
  generalize p_mv (p_rd (p_pk (I 90) n) 100 0 0 (p + 1)) = vl
  generalize (p_dg (p_pk (I 90) n) (p + 1)).2 = q at *
  by_cases hc : vl ≤ 9999
  · have hc' : ¬ (9999 : Int32) < vl := Int32.not_lt.mpr hc
    have hbk := p_bk (b := I 90) (n := n) (p := q) (fun x => x = 45) (by decide) (by decide)
    simp only [hc, hc', if_true, if_false, r127_125, r127_126, r127_129, r127_130, r127_131, r127_134, r127_135, r127_136, r127_137, r127_138, r127_141, r127_142, r127_145, r127_148, r127_149, r127_152, r127_155, r127_156, r127_157, r127_160, r127_161, r127_163, r127_166, r127_168, sh_89 hS, sh_91 hS, rf_89_9 hR, mr_13, mr_10, mr_u10, mr_u91, hin, ix2, not_true, m122r _ _ hS hR hn hn100 (show q ≤ 1000 by omega), hbk, show 3 ≤ 91 by decide, tm_in, or_true, true_or, tm_cs0, tm_cs1, tm_cs2, tm_cs3, tm_cs4, true_and, and_true, and_self, Option.toList_some, Option.toList_none, List.cons_append, List.nil_append, tm_rf_some, tm_rf_none]
    by_cases h4 : p_pk (I 90) n q = 45
    · have lq2 : q + 1 ≤ n := p_pk_lt (by rw [h4]; decide)
      have ef : p_upf F 2 vl 2 = vl := by unfold p_upf; rw [if_pos rfl]
      simp only [h4, not_true, if_true, if_false, r127_171, r127_172, r127_174, r127_175, r127_176, r127_179, r127_181, r127_182, r127_185, r127_188, sh_89 hS, nI_1, m125r _ _ hS hR hn hn100 lq2, mr_13, tm_in, or_true, true_or, tm_cs0, tm_cs1, tm_cs2, tm_cs3, tm_cs4, true_and, and_true, and_self, Option.toList_some, Option.toList_none, List.cons_append, List.nil_append, tm_rf_some, tm_rf_none]
      generalize p_mv (p_rd (p_pk (I 90) n) 100 0 0 (q + 1)) = v2
      by_cases h5 : (9999 : Int32) < v2
      · simp only [h5, true_or, if_true, r127_204, r127_205]
      · simp only [h5, false_or, if_false, r127_191, r127_192, r127_195, r127_196, r127_199, r127_200, r127_201, sh_89 hS, sh_91 hS, rf_89_9 hR, mr_13, mr_91, hin, ix2, ef, tm_in, or_true, true_or, tm_cs0, tm_cs1, tm_cs2, tm_cs3, tm_cs4, true_and, and_true, and_self, Option.toList_some, Option.toList_none, List.cons_append, List.nil_append, tm_rf_some, tm_rf_none]
        by_cases h6 : v2 < vl
        · have h6' : ¬ vl ≤ v2 := Int32.not_le.mpr h6
          simp only [h6, h6', if_true, if_false, r127_204, r127_205]
        · have h6' : vl ≤ v2 := Int32.not_lt.mp h6
          simp only [h6, h6', if_true, if_false, r127_206, r127_207, r127_208, r127_211, r127_214, r127_216, sh_89 hS, mr_13, mr_u10, tm_in, or_true, true_or, tm_cs0, tm_cs1, tm_cs2, tm_cs3, tm_cs4, true_and, and_true, and_self, Option.toList_some, Option.toList_none, List.cons_append, List.nil_append, tm_rf_some, tm_rf_none]
    · simp only [h4, not_false_eq_true, if_true, if_false, r127_214, r127_216]
  · have hc' : (9999 : Int32) < vl := Int32.not_le.mp hc
    simp only [hc, hc', if_true, if_false, r127_123, r127_124]
theorem m127 (d : Nat) (K : Option Value → tm_H → Prop) (hS : tp_S G) (hR : tp_R R) {n : Nat} (hn : I 89 6 = nI n) (hn100 : n ≤ 100) {h m u x : Int32} {F N L : Nat → Int32} {D : p_D} (hp : D.1 < n) (hD : p_dm D (h, m, u, x, F, N, L)) (hK : ∀ M', ((p_item (p_pk (I 90) n) D).1 = true → p_dm (p_item (p_pk (I 90) n) D).2 M') → K (some (.int (if (p_item (p_pk (I 90) n) D).1 = true then nI (p_item (p_pk (I 90) n) D).2.1 else -1))) (G, tp_mr I M', J, R)) : tm_R (d + 2) 127 [.ref 89, .int (nI D.1)] (G, tp_mr I (h, m, u, x, F, N, L), J, R) K := by
  have eh : D.2.1 = h := hD.1
  have e9 : I 90 D.1 = p_pk (I 90) n D.1 := by unfold p_pk; rw [if_pos hp]
  rw [e127, m127_f (d + 2) K hS hR (show D.1 < 100 by omega), e9]
  by_cases h1 : p_mfr (p_pk (I 90) n D.1) 0 5 = -1
  · have e : p_item (p_pk (I 90) n) D = (false, D) := by unfold p_item; rw [if_pos (Or.inl h1)]
    rw [e] at hK
    simp only [r127_59, r127_60, r127_61, h1, if_true, r127_76, r127_77]
    exact hK _ (fun z => absurd z (by simp))
  · obtain ⟨ef, lf⟩ := q_of ((p_mfr_in (p_pk (I 90) n D.1)).resolve_left h1)
    have hbit : p_has D.2.1 (p_mfr (p_pk (I 90) n D.1) 0 5) ↔ (h >>> (p_mfr (p_pk (I 90) n D.1) 0 5 &&& 31)) &&& 1 = 1 := by
      rw [ef, tb_has lf, eh, tb_bit (by omega)]
    simp only [r127_59, r127_60, r127_61, r127_64, r127_65, r127_68, r127_69, r127_70, r127_71, r127_72, r127_73, h1, if_false, sh_89 hS, mr_7, tm_in, or_true, true_or, tm_cs0, tm_cs1, tm_cs2, tm_cs3, tm_cs4, true_and, and_true, and_self, Option.toList_some, Option.toList_none, List.cons_append, List.nil_append, tm_rf_some, tm_rf_none]
    by_cases h2 : p_has D.2.1 (p_mfr (p_pk (I 90) n D.1) 0 5)
    · have e : p_item (p_pk (I 90) n) D = (false, D) := by unfold p_item; rw [if_pos (Or.inr h2)]
      rw [e] at hK
      have h2' := hbit.mp h2
      simp only [h2', not_true, if_false, r127_76, r127_77]
      exact hK _ (fun z => absurd z (by simp))
    · have h2' : ¬ (h >>> (p_mfr (p_pk (I 90) n D.1) 0 5 &&& 31)) &&& 1 = 1 := fun z => h2 (hbit.mpr z)
      simp only [h2', not_false_eq_true, if_true, r127_78, r127_79, r127_79i, r127_80, r127_83, r127_84, r127_85, r127_86, r127_87, r127_90, r127_91, r127_92, sh_89 hS, mr_7, mr_u7, tm_in, or_true, true_or, tm_cs0, tm_cs1, tm_cs2, tm_cs3, tm_cs4, true_and, and_true, and_self, Option.toList_some, Option.toList_none, List.cons_append, List.nil_append, tm_rf_some, tm_rf_none]
      by_cases h3 : p_mfr (p_pk (I 90) n D.1) 0 5 = 3
      · have e : p_item (p_pk (I 90) n) D = p_nms (p_pk (I 90) n) 3 0 (D.1 + 1, D.2) := by unfold p_item; rw [if_neg (fun z => z.elim h1 h2), if_pos h3]
        rw [e] at hK
        simp only [h3, not_true, if_false, r127_95, r127_96, r127_97, r127_98, r127_99, sh_89 hS, nI_1, tm_in, or_true, true_or, tm_cs0, tm_cs1, tm_cs2, tm_cs3, tm_cs4, true_and, and_true, and_self, Option.toList_some, Option.toList_none, List.cons_append, List.nil_append, tm_rf_some, tm_rf_none]
        refine m129 d _ hS hR hn hn100 (D.1 + 1, D.2) hp (fun N' L' i' hh => ?_)
        simp only [r127_102, tm_in, or_true, true_or, tm_cs0, tm_cs1, tm_cs2, tm_cs3, tm_cs4, true_and, and_true, and_self, Option.toList_some, Option.toList_none, List.cons_append, List.nil_append, tm_rf_some, tm_rf_none]
        refine hK _ (fun z => ?_)
        obtain ⟨b1, b2, b3, b4⟩ := hh z
        exact p_dm_nms (M := (h, m, u, x, F, N, L)) hD z b1 b2 b3 b4
      · by_cases h4 : p_mfr (p_pk (I 90) n D.1) 0 5 = 2
        · have e : p_item (p_pk (I 90) n) D = p_spn (p_pk (I 90) n) (D.1 + 1, D.2) := by unfold p_item; rw [if_neg (fun z => z.elim h1 h2), if_neg h3, if_pos h4]
          rw [e] at hK
          simp only [h4, show ¬ (2 : Int32) = 3 by decide, not_false_eq_true, if_true]
          rw [m127_s d K hS hR hn hn100 hp]
          have hhi : tp_hi 2 = 9999 := by decide
          have g9 : ∀ y, y ≤ 9999 → ¬ (9999 : Int32) < nI y := fun y hy z => by
            have := (q_lt (a := 9999) (b := y) rfl rfl (by decide) (by omega)).mp z
            omega
          have gA : (9999 : Int32) < 10000 := by decide
          rcases p_dg_mv (p_pk (I 90) n) (D.1 + 1) with ⟨a1, a2⟩ | ⟨y, hy, a1, a2⟩
          · rw [a2, if_pos gA]
            have es : (p_spn (p_pk (I 90) n) (D.1 + 1, D.2)).1 = false := by
              unfold p_spn
              rw [if_pos (Or.inl a1)]
            rw [es] at hK
            exact hK _ (fun z => absurd z (by simp))
          · have ny : ¬ nI y = -1 := fun z => by
              have := congrArg Int32.toInt z
              rw [nI_toInt (by omega)] at this
              have e1 : (-1 : Int32).toInt = -1 := by decide
              omega
            rw [a2, if_neg (g9 y hy)]
            by_cases h5 : p_pk (I 90) n (p_dg (p_pk (I 90) n) (D.1 + 1)).2 = 45
            · rw [if_pos h5]
              have esp : p_sp (p_pk (I 90) n) (D.1 + 1) = p_dg (p_pk (I 90) n) ((p_dg (p_pk (I 90) n) (D.1 + 1)).2 + 1) := by
                unfold p_sp
                rw [if_pos ⟨by rw [a1]; exact ny, h5⟩]
              rcases p_dg_mv (p_pk (I 90) n) ((p_dg (p_pk (I 90) n) (D.1 + 1)).2 + 1) with ⟨b1, b2⟩ | ⟨y2, hy2, b1, b2⟩
              · rw [b2, if_pos (Or.inl gA)]
                have es : (p_spn (p_pk (I 90) n) (D.1 + 1, D.2)).1 = false := by
                  unfold p_spn
                  rw [if_pos (Or.inr (Or.inl ?_))]
                  show (p_sp (p_pk (I 90) n) (D.1 + 1)).1 < (p_dg (p_pk (I 90) n) (D.1 + 1)).1
                  rw [esp, b1, a1]
                  rw [Int32.lt_iff_toInt_lt, nI_toInt (by omega), show (-1 : Int32).toInt = -1 by decide]
                  omega
                rw [es] at hK
                exact hK _ (fun z => absurd z (by simp))
              · rw [b2]
                by_cases h6 : nI y2 < nI y
                · rw [if_pos (Or.inr h6)]
                  have es : (p_spn (p_pk (I 90) n) (D.1 + 1, D.2)).1 = false := by
                    unfold p_spn
                    rw [if_pos (Or.inr (Or.inl ?_))]
                    show (p_sp (p_pk (I 90) n) (D.1 + 1)).1 < (p_dg (p_pk (I 90) n) (D.1 + 1)).1
                    rw [esp, b1, a1]
                    exact h6
                  rw [es] at hK
                  exact hK _ (fun z => absurd z (by simp))
                · rw [if_neg (fun z => z.elim (g9 y2 hy2) h6)]
                  have es : p_spn (p_pk (I 90) n) (D.1 + 1, D.2) = (true, (p_dg (p_pk (I 90) n) ((p_dg (p_pk (I 90) n) (D.1 + 1)).2 + 1)).2, D.2.1 ||| (1 <<< ((2 : Int32) &&& 31)), nI y2, p_upf D.2.2.2.1 2 (nI y), D.2.2.2.2) := by
                    unfold p_spn
                    rw [if_neg ?_]
                    · show (true, (p_sp (p_pk (I 90) n) (D.1 + 1)).2, D.2.1 ||| (1 <<< ((2 : Int32) &&& 31)), (p_sp (p_pk (I 90) n) (D.1 + 1)).1, p_upf D.2.2.2.1 2 (p_dg (p_pk (I 90) n) (D.1 + 1)).1, D.2.2.2.2) = _
                      rw [esp, b1, a1]
                    · show ¬ ((p_dg (p_pk (I 90) n) (D.1 + 1)).1 = -1 ∨ (p_sp (p_pk (I 90) n) (D.1 + 1)).1 < (p_dg (p_pk (I 90) n) (D.1 + 1)).1 ∨ tp_hi 2 < (p_sp (p_pk (I 90) n) (D.1 + 1)).1)
                      rw [esp, b1, a1, hhi]
                      exact fun z => z.elim ny (fun z => z.elim h6 (g9 y2 hy2))
                  rw [es] at hK
                  exact hK _ (fun _ => p_dm_spn (M := (h, m, u, x, F, N, L)) hD hy hy2)
            · rw [if_neg h5]
              have esp : p_sp (p_pk (I 90) n) (D.1 + 1) = p_dg (p_pk (I 90) n) (D.1 + 1) := by
                unfold p_sp
                rw [if_neg (fun z => h5 z.2)]
              have es : p_spn (p_pk (I 90) n) (D.1 + 1, D.2) = (true, (p_dg (p_pk (I 90) n) (D.1 + 1)).2, D.2.1 ||| (1 <<< ((2 : Int32) &&& 31)), nI y, p_upf D.2.2.2.1 2 (nI y), D.2.2.2.2) := by
                unfold p_spn
                rw [if_neg ?_]
                · show (true, (p_sp (p_pk (I 90) n) (D.1 + 1)).2, D.2.1 ||| (1 <<< ((2 : Int32) &&& 31)), (p_sp (p_pk (I 90) n) (D.1 + 1)).1, p_upf D.2.2.2.1 2 (p_dg (p_pk (I 90) n) (D.1 + 1)).1, D.2.2.2.2) = _
                  rw [esp, a1]
                · show ¬ ((p_dg (p_pk (I 90) n) (D.1 + 1)).1 = -1 ∨ (p_sp (p_pk (I 90) n) (D.1 + 1)).1 < (p_dg (p_pk (I 90) n) (D.1 + 1)).1 ∨ tp_hi 2 < (p_sp (p_pk (I 90) n) (D.1 + 1)).1)
                  rw [esp, a1, hhi]
                  exact fun z => z.elim ny (fun z => z.elim (fun z => (Int32.lt_irrefl z).elim) (g9 y hy))
              rw [es] at hK
              exact hK _ (fun _ => p_dm_spn (M := (h, m, u, x, F, N, L)) hD hy hy)
        · generalize hfe : tm_ix (p_mfr (p_pk (I 90) n D.1) 0 5) = f at *
          have e : p_item (p_pk (I 90) n) D = p_val (p_pk (I 90) n) f (D.1 + 1, D.2) := by unfold p_item; rw [if_neg (fun z => z.elim h1 h2), if_neg h3, if_neg h4, hfe]
          rw [e] at hK
          have f3 : f ≠ 3 := fun z => h3 (by rw [ef, z]; rfl)
          have f2 : f ≠ 2 := fun z => h4 (by rw [ef, z]; rfl)
          simp only [h3, not_false_eq_true, if_true]
          rw [ef, m127_v d K hS hR hn hn100 hp lf f3 f2]
          rcases p_dg_mv (p_pk (I 90) n) (D.1 + 1) with ⟨a1, a2⟩ | ⟨y, hy, a1, a2⟩
          · have gA : tp_hi f < 10000 := by
              have : f = 0 ∨ f = 1 ∨ f = 4 := by omega
              rcases this with rfl | rfl | rfl <;> decide
            rw [a2, if_pos gA]
            have es : (p_val (p_pk (I 90) n) f (D.1 + 1, D.2)).1 = false := by
              unfold p_val
              rw [if_pos (Or.inl a1)]
            rw [es] at hK
            exact hK _ (fun z => absurd z (by simp))
          · have ny : ¬ nI y = -1 := fun z => by
              have := congrArg Int32.toInt z
              rw [nI_toInt (by omega)] at this
              have e1 : (-1 : Int32).toInt = -1 := by decide
              omega
            rw [a2]
            by_cases h5 : tp_hi f < nI y
            · rw [if_pos h5]
              have es : (p_val (p_pk (I 90) n) f (D.1 + 1, D.2)).1 = false := by
                unfold p_val
                rw [if_pos (Or.inr (by show tp_hi f < (p_dg (p_pk (I 90) n) (D.1 + 1)).1; rw [a1]; exact h5))]
              rw [es] at hK
              exact hK _ (fun z => absurd z (by simp))
            · rw [if_neg h5]
              have es : p_val (p_pk (I 90) n) f (D.1 + 1, D.2) = (true, (p_dg (p_pk (I 90) n) (D.1 + 1)).2, D.2.1 ||| (1 <<< (nI f &&& 31)), D.2.2.1, p_upf D.2.2.2.1 f (nI y), D.2.2.2.2) := by
                unfold p_val
                rw [if_neg ?_]
                · show (true, (p_dg (p_pk (I 90) n) (D.1 + 1)).2, D.2.1 ||| (1 <<< (nI f &&& 31)), D.2.2.1, p_upf D.2.2.2.1 f (p_dg (p_pk (I 90) n) (D.1 + 1)).1, D.2.2.2.2) = _
                  rw [a1]
                · show ¬ ((p_dg (p_pk (I 90) n) (D.1 + 1)).1 = -1 ∨ tp_hi f < (p_dg (p_pk (I 90) n) (D.1 + 1)).1)
                  rw [a1]
                  exact fun z => z.elim ny h5
              rw [es] at hK
              exact hK _ (fun _ => p_dm_val (M := (h, m, u, x, F, N, L)) hD lf f3 f2 hy)
end MI2
