/-! The law: call by call. -/
theorem q_sw23 (v : Int32) : (∃ k, k < 23 ∧ v = nI k) ∨ (v.toInt < 0 ∨ 22 < v.toInt) := by
  by_cases h : v.toInt < 0 ∨ 22 < v.toInt
  · exact Or.inr h
  · have hv : tm_in v 23 := ⟨by omega, by omega⟩
    exact Or.inl ⟨tm_ix v, (q_of hv).2, (q_of hv).1⟩
theorem law_l (e L : Nat) (hL : L ≤ 3072) (K : Option Value → tm_H → Prop) (hK : ∀ h, iv h → K (some (.int 1)) h) : ∀ (n i : Nat) (G : tm_G) (I : Nat → Nat → Int32) (J : Nat → Nat → Int64) (R : Nat → Nat → Option Nat), L ≤ i + n → i ≤ 3100 → iv (G, I, J, R) → G.2.2 0 = (1, L) → tm_A (e + 15) 175 18 [some (.ref 0), some (.ref 3), some (.ref 89), some (.int (nI i))] [] (G, I, J, R) K := by
  have hexit : ∀ (i : Nat) (G : tm_G) (I : Nat → Nat → Int32) (J : Nat → Nat → Int64) (R : Nat → Nat → Option Nat), iv (G, I, J, R) → G.2.2 0 = (1, L) → nI L - 6 < nI i → tm_A (e + 15) 175 18 [some (.ref 0), some (.ref 3), some (.ref 89), some (.int (nI i))] [] (G, I, J, R) K := fun i G I J R hi hG hc => by
    have hlen : Int32.ofNat L = nI L := rfl
    rw [r175_18]
    simp only [r175_19, r175_20, r175_21, r175_23, r175_24, r175_865, r175_866, hG, hlen, hc, if_true, tm_in, or_true, true_or, tm_cs0, tm_cs1, tm_cs2, tm_cs3, tm_cs4, true_and, and_true, and_self, Option.toList_some, Option.toList_none, List.cons_append, List.nil_append, tm_rf_some, tm_rf_none]
    exact hK _ hi
  have hsub : (nI L - 6).toInt = (L : Int) - 6 := pk_sub_toInt (a := L) (b := 6) (by omega) (by decide)
  intro n
  induction n with
  | zero =>
    intro i G I J R h1 h2 hi hG
    refine hexit i G I J R hi hG ?_
    rw [Int32.lt_iff_toInt_lt, hsub, nI_toInt (by omega)]
    omega
  | succ n ih =>
    intro i G I J R h1 h2 hi hG
    by_cases hc : nI L - 6 < nI i
    · exact hexit i G I J R hi hG hc
    · have h6 : i + 6 ≤ L := by
        have := hc
        rw [Int32.lt_iff_toInt_lt, hsub, nI_toInt (by omega)] at this
        omega
      have hlen : Int32.ofNat L = nI L := rfl
      obtain ⟨hS, hR0⟩ : tp_S G ∧ True := by
        obtain ⟨nw, rp, ch, m, oc, pr, tl, fa, ro, dy, rd, hp⟩ := hi
        exact ⟨hp.1.1, trivial⟩
      have h0 : fr0 (G, I, J, R) := ⟨by show 3 ≤ G.1; have := hS.1; omega, by show (G.2.2 0).1 = 1; rw [hG]⟩
      have a2 : nI i + 2 = nI (i + 2) := by rw [show (2 : Int32) = nI 2 from rfl, nI_add]
      have a3 : nI i + 3 = nI (i + 3) := by rw [show (3 : Int32) = nI 3 from rfl, nI_add]
      have a4 : nI i + 4 = nI (i + 4) := by rw [show (4 : Int32) = nI 4 from rfl, nI_add]
      have a5 : nI i + 5 = nI (i + 5) := by rw [show (5 : Int32) = nI 5 from rfl, nI_add]
      have a6 : nI i + 6 = nI (i + 6) := by rw [show (6 : Int32) = nI 6 from rfl, nI_add]
      have x0 : tm_in (nI i) L := q_in (by omega) (by omega)
      have x1 : tm_in (nI (i + 1)) L := q_in (by omega) (by omega)
      have x2 : tm_in (nI (i + 2)) L := q_in (by omega) (by omega)
      have x3 : tm_in (nI (i + 3)) L := q_in (by omega) (by omega)
      have x4 : tm_in (nI (i + 4)) L := q_in (by omega) (by omega)
      have x5 : tm_in (nI (i + 5)) L := q_in (by omega) (by omega)
      have y0 : tm_ix (nI i) = i := q_ix (by omega)
      have y1 : tm_ix (nI (i + 1)) = i + 1 := q_ix (by omega)
      have y2 : tm_ix (nI (i + 2)) = i + 2 := q_ix (by omega)
      have y3 : tm_ix (nI (i + 3)) = i + 3 := q_ix (by omega)
      have y4 : tm_ix (nI (i + 4)) = i + 4 := q_ix (by omega)
      have y5 : tm_ix (nI (i + 5)) = i + 5 := q_ix (by omega)
      have s3 := sh_3 hS
      have next : ∀ (G2 : tm_G) (I2 : Nat → Nat → Int32) (J2 : Nat → Nat → Int64) (R2 : Nat → Nat → Option Nat), iv (G2, I2, J2, R2) → G2.2.2 0 = (1, L) → tm_A (e + 15) 175 859 [some (.ref 0), some (.ref 3), some (.ref 89), some (.int (nI i))] [] (G2, I2, J2, R2) K := fun G2 I2 J2 R2 hi2 hG2 => by
        simp only [r175_859, r175_862, a6]
        exact ih (i + 6) G2 I2 J2 R2 (by omega) (by omega) hi2 hG2
      have keep : ∀ {G2 : tm_G} {I2 : Nat → Nat → Int32} {J2 : Nat → Nat → Int64} {R2 : Nat → Nat → Option Nat}, fr (G, I, J, R) (G2, I2, J2, R2) → G2.2.2 0 = (1, L) ∧ G2.2.2 89 = (0, 10) ∧ I2 0 = I 0 := fun f => by
        have := hS.1
        exact ⟨(f.2.1 0 (by show 0 < G.1; omega)).trans hG, (f.2.1 89 (by show 89 < G.1; omega)).trans (sh_89 hS), f.2.2⟩
      rw [r175_18]
      simp only [r175_19, r175_20, r175_21, r175_23, r175_24, r175_27, r175_28, r175_29, r175_30, r175_32, hG, hlen, hc, if_false, x0, y0, tm_in, or_true, true_or, tm_cs0, tm_cs1, tm_cs2, tm_cs3, tm_cs4, true_and, and_true, and_self, Option.toList_some, Option.toList_none, List.cons_append, List.nil_append, tm_rf_some, tm_rf_none]
      rw [r175_33]
      rcases q_sw23 (I 0 i &&& 31) with ⟨k, hk, ek⟩ | hv
      · have hk2 : k = 0 ∨ k = 1 ∨ k = 2 ∨ k = 3 ∨ k = 4 ∨ k = 5 ∨ k = 6 ∨ k = 7 ∨ k = 8 ∨ k = 9 ∨ k = 10 ∨ k = 11 ∨ k = 12 ∨ k = 13 ∨ k = 14 ∨ k = 15 ∨ k = 16 ∨ k = 17 ∨ k = 18 ∨ k = 19 ∨ k = 20 ∨ k = 21 ∨ k = 22 := by omega
        rw [ek]
        rcases hk2 with rfl | rfl | rfl | rfl | rfl | rfl | rfl | rfl | rfl | rfl | rfl | rfl | rfl | rfl | rfl | rfl | rfl | rfl | rfl | rfl | rfl | rfl | rfl
        · rw [show tm_tsw 826 0 22 #[107, 130, 193, 216, 229, 242, 265, 298, 341, 364, 387, 430, 463, 516, 559, 592, 615, 638, 681, 714, 747, 780, 803] 33 (nI 0) = 140 by decide]
          simp only [r175_140, r175_140n, r175_141, r175_142, r175_143, r175_144, r175_145, r175_146, hG, s3, nI_1, x1, y1, tm_in, or_true, true_or, tm_cs0, tm_cs1, tm_cs2, tm_cs3, tm_cs4, true_and, and_true, and_self, Option.toList_some, Option.toList_none, List.cons_append, List.nil_append, tm_rf_some, tm_rf_none]
          refine tm_A_mono (fun r h1 z => ?_) (iv_both_x h0 (bo_days (e + 13) _ hi))
          obtain ⟨x, rfl, f1, f2⟩ := z
          obtain ⟨G1, I1, J1, R1⟩ := h1
          obtain ⟨k1, k2, k3⟩ := keep f1
          simp only [r175_149, r175_149n, r175_150, r175_151, r175_152, r175_153, r175_154, r175_155, k1, k2, k3, nI_1, x1, y1, tm_in, or_true, true_or, tm_cs0, tm_cs1, tm_cs2, tm_cs3, tm_cs4, true_and, and_true, and_self, Option.toList_some, Option.toList_none, List.cons_append, List.nil_append, tm_rf_some, tm_rf_none]
          refine tm_A_mono (fun r' h2 z => ?_) f2
          obtain ⟨rfl, hi2, f3⟩ := z
          obtain ⟨G2, I2, J2, R2⟩ := h2
          simp only [r175_158, if_true, tm_in, or_true, true_or, tm_cs0, tm_cs1, tm_cs2, tm_cs3, tm_cs4, true_and, and_true, and_self, Option.toList_some, Option.toList_none, List.cons_append, List.nil_append, tm_rf_some, tm_rf_none]
          exact next G2 I2 J2 R2 hi2 (keep f3).1
        · rw [show tm_tsw 826 0 22 #[107, 130, 193, 216, 229, 242, 265, 298, 341, 364, 387, 430, 463, 516, 559, 592, 615, 638, 681, 714, 747, 780, 803] 33 (nI 1) = 163 by decide]
          simp only [r175_163, r175_163n, r175_164, r175_165, r175_166, r175_167, r175_168, r175_169, r175_170, r175_171, r175_172, r175_173, r175_174, r175_175, r175_176, r175_177, r175_178, r175_179, r175_180, r175_181, r175_182, r175_183, r175_184, r175_185, r175_186, r175_187, r175_188, r175_189, hG, s3, nI_1, a2, a3, a4, a5, x1, y1, x2, y2, x3, y3, x4, y4, x5, y5, tm_in, or_true, true_or, tm_cs0, tm_cs1, tm_cs2, tm_cs3, tm_cs4, true_and, and_true, and_self, Option.toList_some, Option.toList_none, List.cons_append, List.nil_append, tm_rf_some, tm_rf_none]
          refine tm_A_mono (fun r h1 z => ?_) (iv_both_x h0 (bo_feed (e + 12) _ _ _ _ _ hi))
          obtain ⟨x, rfl, f1, f2⟩ := z
          obtain ⟨G1, I1, J1, R1⟩ := h1
          obtain ⟨k1, k2, k3⟩ := keep f1
          simp only [r175_192, r175_192n, r175_193, r175_194, r175_195, r175_196, r175_197, r175_198, r175_199, r175_200, r175_201, r175_202, r175_203, r175_204, r175_205, r175_206, r175_207, r175_208, r175_209, r175_210, r175_211, r175_212, r175_213, r175_214, r175_215, r175_216, r175_217, r175_218, k1, k2, k3, nI_1, a2, a3, a4, a5, x1, y1, x2, y2, x3, y3, x4, y4, x5, y5, tm_in, or_true, true_or, tm_cs0, tm_cs1, tm_cs2, tm_cs3, tm_cs4, true_and, and_true, and_self, Option.toList_some, Option.toList_none, List.cons_append, List.nil_append, tm_rf_some, tm_rf_none]
          refine tm_A_mono (fun r' h2 z => ?_) f2
          obtain ⟨rfl, hi2, f3⟩ := z
          obtain ⟨G2, I2, J2, R2⟩ := h2
          simp only [r175_221, if_true, tm_in, or_true, true_or, tm_cs0, tm_cs1, tm_cs2, tm_cs3, tm_cs4, true_and, and_true, and_self, Option.toList_some, Option.toList_none, List.cons_append, List.nil_append, tm_rf_some, tm_rf_none]
          exact next G2 I2 J2 R2 hi2 (keep f3).1
        · rw [show tm_tsw 826 0 22 #[107, 130, 193, 216, 229, 242, 265, 298, 341, 364, 387, 430, 463, 516, 559, 592, 615, 638, 681, 714, 747, 780, 803] 33 (nI 2) = 226 by decide]
          simp only [r175_226, r175_226n, r175_227, r175_228, r175_229, r175_230, r175_231, r175_232, hG, s3, nI_1, x1, y1, tm_in, or_true, true_or, tm_cs0, tm_cs1, tm_cs2, tm_cs3, tm_cs4, true_and, and_true, and_self, Option.toList_some, Option.toList_none, List.cons_append, List.nil_append, tm_rf_some, tm_rf_none]
          refine tm_A_mono (fun r h1 z => ?_) (iv_both_x h0 (bo_end (e + 13) _ hi))
          obtain ⟨x, rfl, f1, f2⟩ := z
          obtain ⟨G1, I1, J1, R1⟩ := h1
          obtain ⟨k1, k2, k3⟩ := keep f1
          simp only [r175_235, r175_235n, r175_236, r175_237, r175_238, r175_239, r175_240, r175_241, k1, k2, k3, nI_1, x1, y1, tm_in, or_true, true_or, tm_cs0, tm_cs1, tm_cs2, tm_cs3, tm_cs4, true_and, and_true, and_self, Option.toList_some, Option.toList_none, List.cons_append, List.nil_append, tm_rf_some, tm_rf_none]
          refine tm_A_mono (fun r' h2 z => ?_) f2
          obtain ⟨rfl, hi2, f3⟩ := z
          obtain ⟨G2, I2, J2, R2⟩ := h2
          simp only [r175_244, if_true, tm_in, or_true, true_or, tm_cs0, tm_cs1, tm_cs2, tm_cs3, tm_cs4, true_and, and_true, and_self, Option.toList_some, Option.toList_none, List.cons_append, List.nil_append, tm_rf_some, tm_rf_none]
          exact next G2 I2 J2 R2 hi2 (keep f3).1
        · rw [show tm_tsw 826 0 22 #[107, 130, 193, 216, 229, 242, 265, 298, 341, 364, 387, 430, 463, 516, 559, 592, 615, 638, 681, 714, 747, 780, 803] 33 (nI 3) = 249 by decide]
          simp only [r175_249, r175_249n, r175_250, hG, s3, nI_1, true_and, tm_in, or_true, true_or, tm_cs0, tm_cs1, tm_cs2, tm_cs3, tm_cs4, true_and, and_true, and_self, Option.toList_some, Option.toList_none, List.cons_append, List.nil_append, tm_rf_some, tm_rf_none]
          refine tm_A_mono (fun r h1 z => ?_) (iv_both_x h0 (bo_fault (e + 9)  hi))
          obtain ⟨x, rfl, f1, f2⟩ := z
          obtain ⟨G1, I1, J1, R1⟩ := h1
          obtain ⟨k1, k2, k3⟩ := keep f1
          simp only [r175_253, r175_253n, r175_254, k1, k2, k3, nI_1, true_and, tm_in, or_true, true_or, tm_cs0, tm_cs1, tm_cs2, tm_cs3, tm_cs4, true_and, and_true, and_self, Option.toList_some, Option.toList_none, List.cons_append, List.nil_append, tm_rf_some, tm_rf_none]
          refine tm_A_mono (fun r' h2 z => ?_) f2
          obtain ⟨rfl, hi2, f3⟩ := z
          obtain ⟨G2, I2, J2, R2⟩ := h2
          simp only [r175_257, if_true, tm_in, or_true, true_or, tm_cs0, tm_cs1, tm_cs2, tm_cs3, tm_cs4, true_and, and_true, and_self, Option.toList_some, Option.toList_none, List.cons_append, List.nil_append, tm_rf_some, tm_rf_none]
          exact next G2 I2 J2 R2 hi2 (keep f3).1
        · rw [show tm_tsw 826 0 22 #[107, 130, 193, 216, 229, 242, 265, 298, 341, 364, 387, 430, 463, 516, 559, 592, 615, 638, 681, 714, 747, 780, 803] 33 (nI 4) = 262 by decide]
          simp only [r175_262, r175_262n, r175_263, hG, s3, nI_1, true_and, tm_in, or_true, true_or, tm_cs0, tm_cs1, tm_cs2, tm_cs3, tm_cs4, true_and, and_true, and_self, Option.toList_some, Option.toList_none, List.cons_append, List.nil_append, tm_rf_some, tm_rf_none]
          refine tm_A_mono (fun r h1 z => ?_) (iv_both_x h0 (bo_report (e + 9)  hi))
          obtain ⟨x, rfl, f1, f2⟩ := z
          obtain ⟨G1, I1, J1, R1⟩ := h1
          obtain ⟨k1, k2, k3⟩ := keep f1
          simp only [r175_266, r175_266n, r175_267, k1, k2, k3, nI_1, true_and, tm_in, or_true, true_or, tm_cs0, tm_cs1, tm_cs2, tm_cs3, tm_cs4, true_and, and_true, and_self, Option.toList_some, Option.toList_none, List.cons_append, List.nil_append, tm_rf_some, tm_rf_none]
          refine tm_A_mono (fun r' h2 z => ?_) f2
          obtain ⟨rfl, hi2, f3⟩ := z
          obtain ⟨G2, I2, J2, R2⟩ := h2
          simp only [r175_270, if_true, tm_in, or_true, true_or, tm_cs0, tm_cs1, tm_cs2, tm_cs3, tm_cs4, true_and, and_true, and_self, Option.toList_some, Option.toList_none, List.cons_append, List.nil_append, tm_rf_some, tm_rf_none]
          exact next G2 I2 J2 R2 hi2 (keep f3).1
        · rw [show tm_tsw 826 0 22 #[107, 130, 193, 216, 229, 242, 265, 298, 341, 364, 387, 430, 463, 516, 559, 592, 615, 638, 681, 714, 747, 780, 803] 33 (nI 5) = 275 by decide]
          simp only [r175_275, r175_275n, r175_276, r175_277, r175_278, r175_279, r175_280, r175_281, hG, s3, nI_1, x1, y1, tm_in, or_true, true_or, tm_cs0, tm_cs1, tm_cs2, tm_cs3, tm_cs4, true_and, and_true, and_self, Option.toList_some, Option.toList_none, List.cons_append, List.nil_append, tm_rf_some, tm_rf_none]
          refine tm_A_mono (fun r h1 z => ?_) (iv_both_x h0 (bo_correct (e + 9) _ hi))
          obtain ⟨x, rfl, f1, f2⟩ := z
          obtain ⟨G1, I1, J1, R1⟩ := h1
          obtain ⟨k1, k2, k3⟩ := keep f1
          simp only [r175_284, r175_284n, r175_285, r175_286, r175_287, r175_288, r175_289, r175_290, k1, k2, k3, nI_1, x1, y1, tm_in, or_true, true_or, tm_cs0, tm_cs1, tm_cs2, tm_cs3, tm_cs4, true_and, and_true, and_self, Option.toList_some, Option.toList_none, List.cons_append, List.nil_append, tm_rf_some, tm_rf_none]
          refine tm_A_mono (fun r' h2 z => ?_) f2
          obtain ⟨rfl, hi2, f3⟩ := z
          obtain ⟨G2, I2, J2, R2⟩ := h2
          simp only [r175_293, if_true, tm_in, or_true, true_or, tm_cs0, tm_cs1, tm_cs2, tm_cs3, tm_cs4, true_and, and_true, and_self, Option.toList_some, Option.toList_none, List.cons_append, List.nil_append, tm_rf_some, tm_rf_none]
          exact next G2 I2 J2 R2 hi2 (keep f3).1
        · rw [show tm_tsw 826 0 22 #[107, 130, 193, 216, 229, 242, 265, 298, 341, 364, 387, 430, 463, 516, 559, 592, 615, 638, 681, 714, 747, 780, 803] 33 (nI 6) = 298 by decide]
          simp only [r175_298, r175_298n, r175_299, r175_300, r175_301, r175_302, r175_303, r175_304, r175_305, r175_306, r175_307, r175_308, r175_309, hG, s3, nI_1, a2, x1, y1, x2, y2, tm_in, or_true, true_or, tm_cs0, tm_cs1, tm_cs2, tm_cs3, tm_cs4, true_and, and_true, and_self, Option.toList_some, Option.toList_none, List.cons_append, List.nil_append, tm_rf_some, tm_rf_none]
          refine tm_A_mono (fun r h1 z => ?_) (iv_both_x h0 (bo_deny (e + 11) _ _ hi))
          obtain ⟨x, rfl, f1, f2⟩ := z
          obtain ⟨G1, I1, J1, R1⟩ := h1
          obtain ⟨k1, k2, k3⟩ := keep f1
          simp only [r175_312, r175_312n, r175_313, r175_314, r175_315, r175_316, r175_317, r175_318, r175_319, r175_320, r175_321, r175_322, r175_323, k1, k2, k3, nI_1, a2, x1, y1, x2, y2, tm_in, or_true, true_or, tm_cs0, tm_cs1, tm_cs2, tm_cs3, tm_cs4, true_and, and_true, and_self, Option.toList_some, Option.toList_none, List.cons_append, List.nil_append, tm_rf_some, tm_rf_none]
          refine tm_A_mono (fun r' h2 z => ?_) f2
          obtain ⟨rfl, hi2, f3⟩ := z
          obtain ⟨G2, I2, J2, R2⟩ := h2
          simp only [r175_326, if_true, tm_in, or_true, true_or, tm_cs0, tm_cs1, tm_cs2, tm_cs3, tm_cs4, true_and, and_true, and_self, Option.toList_some, Option.toList_none, List.cons_append, List.nil_append, tm_rf_some, tm_rf_none]
          exact next G2 I2 J2 R2 hi2 (keep f3).1
        · rw [show tm_tsw 826 0 22 #[107, 130, 193, 216, 229, 242, 265, 298, 341, 364, 387, 430, 463, 516, 559, 592, 615, 638, 681, 714, 747, 780, 803] 33 (nI 7) = 331 by decide]
          simp only [r175_331, r175_331n, r175_332, r175_333, r175_334, r175_335, r175_336, r175_337, r175_338, r175_339, r175_340, r175_341, r175_342, r175_343, r175_344, r175_345, r175_346, r175_347, hG, s3, nI_1, a2, a3, x1, y1, x2, y2, x3, y3, tm_in, or_true, true_or, tm_cs0, tm_cs1, tm_cs2, tm_cs3, tm_cs4, true_and, and_true, and_self, Option.toList_some, Option.toList_none, List.cons_append, List.nil_append, tm_rf_some, tm_rf_none]
          refine tm_A_mono (fun r h1 z => ?_) (iv_both_x h0 (bo_hand (e + 12) _ _ _ hi))
          obtain ⟨x, rfl, f1, f2⟩ := z
          obtain ⟨G1, I1, J1, R1⟩ := h1
          obtain ⟨k1, k2, k3⟩ := keep f1
          simp only [r175_350, r175_350n, r175_351, r175_352, r175_353, r175_354, r175_355, r175_356, r175_357, r175_358, r175_359, r175_360, r175_361, r175_362, r175_363, r175_364, r175_365, r175_366, k1, k2, k3, nI_1, a2, a3, x1, y1, x2, y2, x3, y3, tm_in, or_true, true_or, tm_cs0, tm_cs1, tm_cs2, tm_cs3, tm_cs4, true_and, and_true, and_self, Option.toList_some, Option.toList_none, List.cons_append, List.nil_append, tm_rf_some, tm_rf_none]
          refine tm_A_mono (fun r' h2 z => ?_) f2
          obtain ⟨rfl, hi2, f3⟩ := z
          obtain ⟨G2, I2, J2, R2⟩ := h2
          simp only [r175_369, if_true, tm_in, or_true, true_or, tm_cs0, tm_cs1, tm_cs2, tm_cs3, tm_cs4, true_and, and_true, and_self, Option.toList_some, Option.toList_none, List.cons_append, List.nil_append, tm_rf_some, tm_rf_none]
          exact next G2 I2 J2 R2 hi2 (keep f3).1
        · rw [show tm_tsw 826 0 22 #[107, 130, 193, 216, 229, 242, 265, 298, 341, 364, 387, 430, 463, 516, 559, 592, 615, 638, 681, 714, 747, 780, 803] 33 (nI 8) = 374 by decide]
          simp only [r175_374, r175_374n, r175_375, r175_376, r175_377, r175_378, r175_379, r175_380, hG, s3, nI_1, x1, y1, tm_in, or_true, true_or, tm_cs0, tm_cs1, tm_cs2, tm_cs3, tm_cs4, true_and, and_true, and_self, Option.toList_some, Option.toList_none, List.cons_append, List.nil_append, tm_rf_some, tm_rf_none]
          refine tm_A_mono (fun r h1 z => ?_) (iv_both_x h0 (bo_opens (e + 13) _ hi))
          obtain ⟨x, rfl, f1, f2⟩ := z
          obtain ⟨G1, I1, J1, R1⟩ := h1
          obtain ⟨k1, k2, k3⟩ := keep f1
          simp only [r175_383, r175_383n, r175_384, r175_385, r175_386, r175_387, r175_388, r175_389, k1, k2, k3, nI_1, x1, y1, tm_in, or_true, true_or, tm_cs0, tm_cs1, tm_cs2, tm_cs3, tm_cs4, true_and, and_true, and_self, Option.toList_some, Option.toList_none, List.cons_append, List.nil_append, tm_rf_some, tm_rf_none]
          refine tm_A_mono (fun r' h2 z => ?_) f2
          obtain ⟨rfl, hi2, f3⟩ := z
          obtain ⟨G2, I2, J2, R2⟩ := h2
          simp only [r175_392, if_true, tm_in, or_true, true_or, tm_cs0, tm_cs1, tm_cs2, tm_cs3, tm_cs4, true_and, and_true, and_self, Option.toList_some, Option.toList_none, List.cons_append, List.nil_append, tm_rf_some, tm_rf_none]
          exact next G2 I2 J2 R2 hi2 (keep f3).1
        · rw [show tm_tsw 826 0 22 #[107, 130, 193, 216, 229, 242, 265, 298, 341, 364, 387, 430, 463, 516, 559, 592, 615, 638, 681, 714, 747, 780, 803] 33 (nI 9) = 397 by decide]
          simp only [r175_397, r175_397n, r175_398, r175_399, r175_400, r175_401, r175_402, r175_403, hG, s3, nI_1, x1, y1, tm_in, or_true, true_or, tm_cs0, tm_cs1, tm_cs2, tm_cs3, tm_cs4, true_and, and_true, and_self, Option.toList_some, Option.toList_none, List.cons_append, List.nil_append, tm_rf_some, tm_rf_none]
          refine tm_A_mono (fun r h1 z => ?_) (iv_both_x h0 (bo_price (e + 13) _ hi))
          obtain ⟨x, rfl, f1, f2⟩ := z
          obtain ⟨G1, I1, J1, R1⟩ := h1
          obtain ⟨k1, k2, k3⟩ := keep f1
          simp only [r175_406, r175_406n, r175_407, r175_408, r175_409, r175_410, r175_411, r175_412, k1, k2, k3, nI_1, x1, y1, tm_in, or_true, true_or, tm_cs0, tm_cs1, tm_cs2, tm_cs3, tm_cs4, true_and, and_true, and_self, Option.toList_some, Option.toList_none, List.cons_append, List.nil_append, tm_rf_some, tm_rf_none]
          refine tm_A_mono (fun r' h2 z => ?_) f2
          obtain ⟨rfl, hi2, f3⟩ := z
          obtain ⟨G2, I2, J2, R2⟩ := h2
          simp only [r175_415, if_true, tm_in, or_true, true_or, tm_cs0, tm_cs1, tm_cs2, tm_cs3, tm_cs4, true_and, and_true, and_self, Option.toList_some, Option.toList_none, List.cons_append, List.nil_append, tm_rf_some, tm_rf_none]
          exact next G2 I2 J2 R2 hi2 (keep f3).1
        · rw [show tm_tsw 826 0 22 #[107, 130, 193, 216, 229, 242, 265, 298, 341, 364, 387, 430, 463, 516, 559, 592, 615, 638, 681, 714, 747, 780, 803] 33 (nI 10) = 420 by decide]
          simp only [r175_420, r175_420n, r175_421, r175_422, r175_423, r175_424, r175_425, r175_426, r175_427, r175_428, r175_429, r175_430, r175_431, r175_432, r175_433, r175_434, r175_435, r175_436, hG, s3, nI_1, a2, a3, x1, y1, x2, y2, x3, y3, tm_in, or_true, true_or, tm_cs0, tm_cs1, tm_cs2, tm_cs3, tm_cs4, true_and, and_true, and_self, Option.toList_some, Option.toList_none, List.cons_append, List.nil_append, tm_rf_some, tm_rf_none]
          refine tm_A_mono (fun r h1 z => ?_) (iv_both_x h0 (bo_field (e + 9) _ _ _ hi))
          obtain ⟨x, rfl, f1, f2⟩ := z
          obtain ⟨G1, I1, J1, R1⟩ := h1
          obtain ⟨k1, k2, k3⟩ := keep f1
          simp only [r175_439, r175_439n, r175_440, r175_441, r175_442, r175_443, r175_444, r175_445, r175_446, r175_447, r175_448, r175_449, r175_450, r175_451, r175_452, r175_453, r175_454, r175_455, k1, k2, k3, nI_1, a2, a3, x1, y1, x2, y2, x3, y3, tm_in, or_true, true_or, tm_cs0, tm_cs1, tm_cs2, tm_cs3, tm_cs4, true_and, and_true, and_self, Option.toList_some, Option.toList_none, List.cons_append, List.nil_append, tm_rf_some, tm_rf_none]
          refine tm_A_mono (fun r' h2 z => ?_) f2
          obtain ⟨rfl, hi2, f3⟩ := z
          obtain ⟨G2, I2, J2, R2⟩ := h2
          simp only [r175_458, if_true, tm_in, or_true, true_or, tm_cs0, tm_cs1, tm_cs2, tm_cs3, tm_cs4, true_and, and_true, and_self, Option.toList_some, Option.toList_none, List.cons_append, List.nil_append, tm_rf_some, tm_rf_none]
          exact next G2 I2 J2 R2 hi2 (keep f3).1
        · rw [show tm_tsw 826 0 22 #[107, 130, 193, 216, 229, 242, 265, 298, 341, 364, 387, 430, 463, 516, 559, 592, 615, 638, 681, 714, 747, 780, 803] 33 (nI 11) = 463 by decide]
          simp only [r175_463, r175_463n, r175_464, r175_465, r175_466, r175_467, r175_468, r175_469, r175_470, r175_471, r175_472, r175_473, r175_474, hG, s3, nI_1, a2, x1, y1, x2, y2, tm_in, or_true, true_or, tm_cs0, tm_cs1, tm_cs2, tm_cs3, tm_cs4, true_and, and_true, and_self, Option.toList_some, Option.toList_none, List.cons_append, List.nil_append, tm_rf_some, tm_rf_none]
          refine tm_A_mono (fun r h1 z => ?_) (iv_both_x h0 (bo_upper (e + 9) _ _ hi))
          obtain ⟨x, rfl, f1, f2⟩ := z
          obtain ⟨G1, I1, J1, R1⟩ := h1
          obtain ⟨k1, k2, k3⟩ := keep f1
          simp only [r175_477, r175_477n, r175_478, r175_479, r175_480, r175_481, r175_482, r175_483, r175_484, r175_485, r175_486, r175_487, r175_488, k1, k2, k3, nI_1, a2, x1, y1, x2, y2, tm_in, or_true, true_or, tm_cs0, tm_cs1, tm_cs2, tm_cs3, tm_cs4, true_and, and_true, and_self, Option.toList_some, Option.toList_none, List.cons_append, List.nil_append, tm_rf_some, tm_rf_none]
          refine tm_A_mono (fun r' h2 z => ?_) f2
          obtain ⟨rfl, hi2, f3⟩ := z
          obtain ⟨G2, I2, J2, R2⟩ := h2
          simp only [r175_491, if_true, tm_in, or_true, true_or, tm_cs0, tm_cs1, tm_cs2, tm_cs3, tm_cs4, true_and, and_true, and_self, Option.toList_some, Option.toList_none, List.cons_append, List.nil_append, tm_rf_some, tm_rf_none]
          exact next G2 I2 J2 R2 hi2 (keep f3).1
        · rw [show tm_tsw 826 0 22 #[107, 130, 193, 216, 229, 242, 265, 298, 341, 364, 387, 430, 463, 516, 559, 592, 615, 638, 681, 714, 747, 780, 803] 33 (nI 12) = 496 by decide]
          simp only [r175_496, r175_496n, r175_497, r175_498, r175_499, r175_500, r175_501, r175_502, r175_503, r175_504, r175_505, r175_506, r175_507, r175_508, r175_509, r175_510, r175_511, r175_512, r175_513, r175_514, r175_515, r175_516, r175_517, hG, s3, nI_1, a2, a3, a4, x1, y1, x2, y2, x3, y3, x4, y4, tm_in, or_true, true_or, tm_cs0, tm_cs1, tm_cs2, tm_cs3, tm_cs4, true_and, and_true, and_self, Option.toList_some, Option.toList_none, List.cons_append, List.nil_append, tm_rf_some, tm_rf_none]
          refine tm_A_mono (fun r h1 z => ?_) (iv_both_x h0 (bo_letter (e + 9) _ _ _ _ hi))
          obtain ⟨x, rfl, f1, f2⟩ := z
          obtain ⟨G1, I1, J1, R1⟩ := h1
          obtain ⟨k1, k2, k3⟩ := keep f1
          simp only [r175_520, r175_520n, r175_521, r175_522, r175_523, r175_524, r175_525, r175_526, r175_527, r175_528, r175_529, r175_530, r175_531, r175_532, r175_533, r175_534, r175_535, r175_536, r175_537, r175_538, r175_539, r175_540, r175_541, k1, k2, k3, nI_1, a2, a3, a4, x1, y1, x2, y2, x3, y3, x4, y4, tm_in, or_true, true_or, tm_cs0, tm_cs1, tm_cs2, tm_cs3, tm_cs4, true_and, and_true, and_self, Option.toList_some, Option.toList_none, List.cons_append, List.nil_append, tm_rf_some, tm_rf_none]
          refine tm_A_mono (fun r' h2 z => ?_) f2
          obtain ⟨rfl, hi2, f3⟩ := z
          obtain ⟨G2, I2, J2, R2⟩ := h2
          simp only [r175_544, if_true, tm_in, or_true, true_or, tm_cs0, tm_cs1, tm_cs2, tm_cs3, tm_cs4, true_and, and_true, and_self, Option.toList_some, Option.toList_none, List.cons_append, List.nil_append, tm_rf_some, tm_rf_none]
          exact next G2 I2 J2 R2 hi2 (keep f3).1
        · rw [show tm_tsw 826 0 22 #[107, 130, 193, 216, 229, 242, 265, 298, 341, 364, 387, 430, 463, 516, 559, 592, 615, 638, 681, 714, 747, 780, 803] 33 (nI 13) = 549 by decide]
          simp only [r175_549, r175_549n, r175_550, r175_551, r175_552, r175_553, r175_554, r175_555, r175_556, r175_557, r175_558, r175_559, r175_560, r175_561, r175_562, r175_563, r175_564, r175_565, hG, s3, nI_1, a2, a3, x1, y1, x2, y2, x3, y3, tm_in, or_true, true_or, tm_cs0, tm_cs1, tm_cs2, tm_cs3, tm_cs4, true_and, and_true, and_self, Option.toList_some, Option.toList_none, List.cons_append, List.nil_append, tm_rf_some, tm_rf_none]
          refine tm_A_mono (fun r h1 z => ?_) (iv_both_x h0 (bo_pair (e + 9) _ _ _ hi))
          obtain ⟨x, rfl, f1, f2⟩ := z
          obtain ⟨G1, I1, J1, R1⟩ := h1
          obtain ⟨k1, k2, k3⟩ := keep f1
          simp only [r175_568, r175_568n, r175_569, r175_570, r175_571, r175_572, r175_573, r175_574, r175_575, r175_576, r175_577, r175_578, r175_579, r175_580, r175_581, r175_582, r175_583, r175_584, k1, k2, k3, nI_1, a2, a3, x1, y1, x2, y2, x3, y3, tm_in, or_true, true_or, tm_cs0, tm_cs1, tm_cs2, tm_cs3, tm_cs4, true_and, and_true, and_self, Option.toList_some, Option.toList_none, List.cons_append, List.nil_append, tm_rf_some, tm_rf_none]
          refine tm_A_mono (fun r' h2 z => ?_) f2
          obtain ⟨rfl, hi2, f3⟩ := z
          obtain ⟨G2, I2, J2, R2⟩ := h2
          simp only [r175_587, if_true, tm_in, or_true, true_or, tm_cs0, tm_cs1, tm_cs2, tm_cs3, tm_cs4, true_and, and_true, and_self, Option.toList_some, Option.toList_none, List.cons_append, List.nil_append, tm_rf_some, tm_rf_none]
          exact next G2 I2 J2 R2 hi2 (keep f3).1
        · rw [show tm_tsw 826 0 22 #[107, 130, 193, 216, 229, 242, 265, 298, 341, 364, 387, 430, 463, 516, 559, 592, 615, 638, 681, 714, 747, 780, 803] 33 (nI 14) = 592 by decide]
          simp only [r175_592, r175_592n, r175_593, r175_594, r175_595, r175_596, r175_597, r175_598, r175_599, r175_600, r175_601, r175_602, r175_603, hG, s3, nI_1, a2, x1, y1, x2, y2, tm_in, or_true, true_or, tm_cs0, tm_cs1, tm_cs2, tm_cs3, tm_cs4, true_and, and_true, and_self, Option.toList_some, Option.toList_none, List.cons_append, List.nil_append, tm_rf_some, tm_rf_none]
          refine tm_A_mono (fun r h1 z => ?_) (iv_both_x h0 (bo_group (e + 0) _ _ hi))
          obtain ⟨x, rfl, f1, f2⟩ := z
          obtain ⟨G1, I1, J1, R1⟩ := h1
          obtain ⟨k1, k2, k3⟩ := keep f1
          simp only [r175_606, r175_606n, r175_607, r175_608, r175_609, r175_610, r175_611, r175_612, r175_613, r175_614, r175_615, r175_616, r175_617, k1, k2, k3, nI_1, a2, x1, y1, x2, y2, tm_in, or_true, true_or, tm_cs0, tm_cs1, tm_cs2, tm_cs3, tm_cs4, true_and, and_true, and_self, Option.toList_some, Option.toList_none, List.cons_append, List.nil_append, tm_rf_some, tm_rf_none]
          refine tm_A_mono (fun r' h2 z => ?_) f2
          obtain ⟨rfl, hi2, f3⟩ := z
          obtain ⟨G2, I2, J2, R2⟩ := h2
          simp only [r175_620, if_true, tm_in, or_true, true_or, tm_cs0, tm_cs1, tm_cs2, tm_cs3, tm_cs4, true_and, and_true, and_self, Option.toList_some, Option.toList_none, List.cons_append, List.nil_append, tm_rf_some, tm_rf_none]
          exact next G2 I2 J2 R2 hi2 (keep f3).1
        · rw [show tm_tsw 826 0 22 #[107, 130, 193, 216, 229, 242, 265, 298, 341, 364, 387, 430, 463, 516, 559, 592, 615, 638, 681, 714, 747, 780, 803] 33 (nI 15) = 625 by decide]
          simp only [r175_625, r175_625n, r175_626, r175_627, r175_628, r175_629, r175_630, r175_631, hG, s3, nI_1, x1, y1, tm_in, or_true, true_or, tm_cs0, tm_cs1, tm_cs2, tm_cs3, tm_cs4, true_and, and_true, and_self, Option.toList_some, Option.toList_none, List.cons_append, List.nil_append, tm_rf_some, tm_rf_none]
          refine tm_A_mono (fun r h1 z => ?_) (iv_both_x h0 (bo_cost (e + 0) _ hi))
          obtain ⟨x, rfl, f1, f2⟩ := z
          obtain ⟨G1, I1, J1, R1⟩ := h1
          obtain ⟨k1, k2, k3⟩ := keep f1
          simp only [r175_634, r175_634n, r175_635, r175_636, r175_637, r175_638, r175_639, r175_640, k1, k2, k3, nI_1, x1, y1, tm_in, or_true, true_or, tm_cs0, tm_cs1, tm_cs2, tm_cs3, tm_cs4, true_and, and_true, and_self, Option.toList_some, Option.toList_none, List.cons_append, List.nil_append, tm_rf_some, tm_rf_none]
          refine tm_A_mono (fun r' h2 z => ?_) f2
          obtain ⟨rfl, hi2, f3⟩ := z
          obtain ⟨G2, I2, J2, R2⟩ := h2
          simp only [r175_643, if_true, tm_in, or_true, true_or, tm_cs0, tm_cs1, tm_cs2, tm_cs3, tm_cs4, true_and, and_true, and_self, Option.toList_some, Option.toList_none, List.cons_append, List.nil_append, tm_rf_some, tm_rf_none]
          exact next G2 I2 J2 R2 hi2 (keep f3).1
        · rw [show tm_tsw 826 0 22 #[107, 130, 193, 216, 229, 242, 265, 298, 341, 364, 387, 430, 463, 516, 559, 592, 615, 638, 681, 714, 747, 780, 803] 33 (nI 16) = 648 by decide]
          simp only [r175_648, r175_648n, r175_649, r175_650, r175_651, r175_652, r175_653, r175_654, hG, s3, nI_1, x1, y1, tm_in, or_true, true_or, tm_cs0, tm_cs1, tm_cs2, tm_cs3, tm_cs4, true_and, and_true, and_self, Option.toList_some, Option.toList_none, List.cons_append, List.nil_append, tm_rf_some, tm_rf_none]
          refine tm_A_mono (fun r h1 z => ?_) (iv_both_x h0 (bo_groups (e + 0) _ hi))
          obtain ⟨x, rfl, f1, f2⟩ := z
          obtain ⟨G1, I1, J1, R1⟩ := h1
          obtain ⟨k1, k2, k3⟩ := keep f1
          simp only [r175_657, r175_657n, r175_658, r175_659, r175_660, r175_661, r175_662, r175_663, k1, k2, k3, nI_1, x1, y1, tm_in, or_true, true_or, tm_cs0, tm_cs1, tm_cs2, tm_cs3, tm_cs4, true_and, and_true, and_self, Option.toList_some, Option.toList_none, List.cons_append, List.nil_append, tm_rf_some, tm_rf_none]
          refine tm_A_mono (fun r' h2 z => ?_) f2
          obtain ⟨rfl, hi2, f3⟩ := z
          obtain ⟨G2, I2, J2, R2⟩ := h2
          simp only [r175_666, if_true, tm_in, or_true, true_or, tm_cs0, tm_cs1, tm_cs2, tm_cs3, tm_cs4, true_and, and_true, and_self, Option.toList_some, Option.toList_none, List.cons_append, List.nil_append, tm_rf_some, tm_rf_none]
          exact next G2 I2 J2 R2 hi2 (keep f3).1
        · rw [show tm_tsw 826 0 22 #[107, 130, 193, 216, 229, 242, 265, 298, 341, 364, 387, 430, 463, 516, 559, 592, 615, 638, 681, 714, 747, 780, 803] 33 (nI 17) = 671 by decide]
          simp only [r175_671, r175_671n, r175_672, r175_673, r175_674, r175_675, r175_676, r175_677, r175_678, r175_679, r175_680, r175_681, r175_682, r175_683, r175_684, r175_685, r175_686, r175_687, hG, s3, nI_1, a2, a3, x1, y1, x2, y2, x3, y3, tm_in, or_true, true_or, tm_cs0, tm_cs1, tm_cs2, tm_cs3, tm_cs4, true_and, and_true, and_self, Option.toList_some, Option.toList_none, List.cons_append, List.nil_append, tm_rf_some, tm_rf_none]
          refine tm_A_mono (fun r h1 z => ?_) (iv_both_x h0 (bo_happening (e + 0) _ _ _ hi))
          obtain ⟨x, rfl, f1, f2⟩ := z
          obtain ⟨G1, I1, J1, R1⟩ := h1
          obtain ⟨k1, k2, k3⟩ := keep f1
          simp only [r175_690, r175_690n, r175_691, r175_692, r175_693, r175_694, r175_695, r175_696, r175_697, r175_698, r175_699, r175_700, r175_701, r175_702, r175_703, r175_704, r175_705, r175_706, k1, k2, k3, nI_1, a2, a3, x1, y1, x2, y2, x3, y3, tm_in, or_true, true_or, tm_cs0, tm_cs1, tm_cs2, tm_cs3, tm_cs4, true_and, and_true, and_self, Option.toList_some, Option.toList_none, List.cons_append, List.nil_append, tm_rf_some, tm_rf_none]
          refine tm_A_mono (fun r' h2 z => ?_) f2
          obtain ⟨rfl, hi2, f3⟩ := z
          obtain ⟨G2, I2, J2, R2⟩ := h2
          simp only [r175_709, if_true, tm_in, or_true, true_or, tm_cs0, tm_cs1, tm_cs2, tm_cs3, tm_cs4, true_and, and_true, and_self, Option.toList_some, Option.toList_none, List.cons_append, List.nil_append, tm_rf_some, tm_rf_none]
          exact next G2 I2 J2 R2 hi2 (keep f3).1
        · rw [show tm_tsw 826 0 22 #[107, 130, 193, 216, 229, 242, 265, 298, 341, 364, 387, 430, 463, 516, 559, 592, 615, 638, 681, 714, 747, 780, 803] 33 (nI 18) = 714 by decide]
          simp only [r175_714, r175_714n, r175_715, r175_716, r175_717, r175_718, r175_719, r175_720, r175_721, r175_722, r175_723, r175_724, r175_725, hG, s3, nI_1, a2, x1, y1, x2, y2, tm_in, or_true, true_or, tm_cs0, tm_cs1, tm_cs2, tm_cs3, tm_cs4, true_and, and_true, and_self, Option.toList_some, Option.toList_none, List.cons_append, List.nil_append, tm_rf_some, tm_rf_none]
          refine tm_A_mono (fun r h1 z => ?_) (iv_both_x h0 (bo_at (e + 0) _ _ hi))
          obtain ⟨x, rfl, f1, f2⟩ := z
          obtain ⟨G1, I1, J1, R1⟩ := h1
          obtain ⟨k1, k2, k3⟩ := keep f1
          simp only [r175_728, r175_728n, r175_729, r175_730, r175_731, r175_732, r175_733, r175_734, r175_735, r175_736, r175_737, r175_738, r175_739, k1, k2, k3, nI_1, a2, x1, y1, x2, y2, tm_in, or_true, true_or, tm_cs0, tm_cs1, tm_cs2, tm_cs3, tm_cs4, true_and, and_true, and_self, Option.toList_some, Option.toList_none, List.cons_append, List.nil_append, tm_rf_some, tm_rf_none]
          refine tm_A_mono (fun r' h2 z => ?_) f2
          obtain ⟨rfl, hi2, f3⟩ := z
          obtain ⟨G2, I2, J2, R2⟩ := h2
          simp only [r175_742, if_true, tm_in, or_true, true_or, tm_cs0, tm_cs1, tm_cs2, tm_cs3, tm_cs4, true_and, and_true, and_self, Option.toList_some, Option.toList_none, List.cons_append, List.nil_append, tm_rf_some, tm_rf_none]
          exact next G2 I2 J2 R2 hi2 (keep f3).1
        · rw [show tm_tsw 826 0 22 #[107, 130, 193, 216, 229, 242, 265, 298, 341, 364, 387, 430, 463, 516, 559, 592, 615, 638, 681, 714, 747, 780, 803] 33 (nI 19) = 747 by decide]
          simp only [r175_747, r175_747n, r175_748, r175_749, r175_750, r175_751, r175_752, r175_753, r175_754, r175_755, r175_756, r175_757, r175_758, hG, s3, nI_1, a2, x1, y1, x2, y2, tm_in, or_true, true_or, tm_cs0, tm_cs1, tm_cs2, tm_cs3, tm_cs4, true_and, and_true, and_self, Option.toList_some, Option.toList_none, List.cons_append, List.nil_append, tm_rf_some, tm_rf_none]
          refine tm_A_mono (fun r h1 z => ?_) (iv_both_x h0 (bo_shape (e + 9) _ _ hi))
          obtain ⟨x, rfl, f1, f2⟩ := z
          obtain ⟨G1, I1, J1, R1⟩ := h1
          obtain ⟨k1, k2, k3⟩ := keep f1
          simp only [r175_761, r175_761n, r175_762, r175_763, r175_764, r175_765, r175_766, r175_767, r175_768, r175_769, r175_770, r175_771, r175_772, k1, k2, k3, nI_1, a2, x1, y1, x2, y2, tm_in, or_true, true_or, tm_cs0, tm_cs1, tm_cs2, tm_cs3, tm_cs4, true_and, and_true, and_self, Option.toList_some, Option.toList_none, List.cons_append, List.nil_append, tm_rf_some, tm_rf_none]
          refine tm_A_mono (fun r' h2 z => ?_) f2
          obtain ⟨rfl, hi2, f3⟩ := z
          obtain ⟨G2, I2, J2, R2⟩ := h2
          simp only [r175_775, if_true, tm_in, or_true, true_or, tm_cs0, tm_cs1, tm_cs2, tm_cs3, tm_cs4, true_and, and_true, and_self, Option.toList_some, Option.toList_none, List.cons_append, List.nil_append, tm_rf_some, tm_rf_none]
          exact next G2 I2 J2 R2 hi2 (keep f3).1
        · rw [show tm_tsw 826 0 22 #[107, 130, 193, 216, 229, 242, 265, 298, 341, 364, 387, 430, 463, 516, 559, 592, 615, 638, 681, 714, 747, 780, 803] 33 (nI 20) = 780 by decide]
          simp only [r175_780, r175_780n, r175_781, r175_782, r175_783, r175_784, r175_785, r175_786, r175_787, r175_788, r175_789, r175_790, r175_791, hG, s3, nI_1, a2, x1, y1, x2, y2, tm_in, or_true, true_or, tm_cs0, tm_cs1, tm_cs2, tm_cs3, tm_cs4, true_and, and_true, and_self, Option.toList_some, Option.toList_none, List.cons_append, List.nil_append, tm_rf_some, tm_rf_none]
          refine tm_A_mono (fun r h1 z => ?_) (iv_both_x h0 (bo_form (e + 7) _ _ hi))
          obtain ⟨x, rfl, f1, f2⟩ := z
          obtain ⟨G1, I1, J1, R1⟩ := h1
          obtain ⟨k1, k2, k3⟩ := keep f1
          simp only [r175_794, r175_794n, r175_795, r175_796, r175_797, r175_798, r175_799, r175_800, r175_801, r175_802, r175_803, r175_804, r175_805, k1, k2, k3, nI_1, a2, x1, y1, x2, y2, tm_in, or_true, true_or, tm_cs0, tm_cs1, tm_cs2, tm_cs3, tm_cs4, true_and, and_true, and_self, Option.toList_some, Option.toList_none, List.cons_append, List.nil_append, tm_rf_some, tm_rf_none]
          refine tm_A_mono (fun r' h2 z => ?_) f2
          obtain ⟨rfl, hi2, f3⟩ := z
          obtain ⟨G2, I2, J2, R2⟩ := h2
          simp only [r175_808, if_true, tm_in, or_true, true_or, tm_cs0, tm_cs1, tm_cs2, tm_cs3, tm_cs4, true_and, and_true, and_self, Option.toList_some, Option.toList_none, List.cons_append, List.nil_append, tm_rf_some, tm_rf_none]
          exact next G2 I2 J2 R2 hi2 (keep f3).1
        · rw [show tm_tsw 826 0 22 #[107, 130, 193, 216, 229, 242, 265, 298, 341, 364, 387, 430, 463, 516, 559, 592, 615, 638, 681, 714, 747, 780, 803] 33 (nI 21) = 813 by decide]
          simp only [r175_813, r175_813n, r175_814, r175_815, r175_816, r175_817, r175_818, r175_819, hG, s3, nI_1, x1, y1, tm_in, or_true, true_or, tm_cs0, tm_cs1, tm_cs2, tm_cs3, tm_cs4, true_and, and_true, and_self, Option.toList_some, Option.toList_none, List.cons_append, List.nil_append, tm_rf_some, tm_rf_none]
          refine tm_A_mono (fun r h1 z => ?_) (iv_both_x h0 (bo_forms (e + 7) _ hi))
          obtain ⟨x, rfl, f1, f2⟩ := z
          obtain ⟨G1, I1, J1, R1⟩ := h1
          obtain ⟨k1, k2, k3⟩ := keep f1
          simp only [r175_822, r175_822n, r175_823, r175_824, r175_825, r175_826, r175_827, r175_828, k1, k2, k3, nI_1, x1, y1, tm_in, or_true, true_or, tm_cs0, tm_cs1, tm_cs2, tm_cs3, tm_cs4, true_and, and_true, and_self, Option.toList_some, Option.toList_none, List.cons_append, List.nil_append, tm_rf_some, tm_rf_none]
          refine tm_A_mono (fun r' h2 z => ?_) f2
          obtain ⟨rfl, hi2, f3⟩ := z
          obtain ⟨G2, I2, J2, R2⟩ := h2
          simp only [r175_831, if_true, tm_in, or_true, true_or, tm_cs0, tm_cs1, tm_cs2, tm_cs3, tm_cs4, true_and, and_true, and_self, Option.toList_some, Option.toList_none, List.cons_append, List.nil_append, tm_rf_some, tm_rf_none]
          exact next G2 I2 J2 R2 hi2 (keep f3).1
        · rw [show tm_tsw 826 0 22 #[107, 130, 193, 216, 229, 242, 265, 298, 341, 364, 387, 430, 463, 516, 559, 592, 615, 638, 681, 714, 747, 780, 803] 33 (nI 22) = 836 by decide]
          simp only [r175_836, r175_836n, r175_837, r175_838, r175_839, r175_840, r175_841, r175_842, hG, s3, nI_1, x1, y1, tm_in, or_true, true_or, tm_cs0, tm_cs1, tm_cs2, tm_cs3, tm_cs4, true_and, and_true, and_self, Option.toList_some, Option.toList_none, List.cons_append, List.nil_append, tm_rf_some, tm_rf_none]
          refine tm_A_mono (fun r h1 z => ?_) (iv_both_x h0 (bo_count (e + 13) _ hi))
          obtain ⟨x, rfl, f1, f2⟩ := z
          obtain ⟨G1, I1, J1, R1⟩ := h1
          obtain ⟨k1, k2, k3⟩ := keep f1
          simp only [r175_845, r175_845n, r175_846, r175_847, r175_848, r175_849, r175_850, r175_851, k1, k2, k3, nI_1, x1, y1, tm_in, or_true, true_or, tm_cs0, tm_cs1, tm_cs2, tm_cs3, tm_cs4, true_and, and_true, and_self, Option.toList_some, Option.toList_none, List.cons_append, List.nil_append, tm_rf_some, tm_rf_none]
          refine tm_A_mono (fun r' h2 z => ?_) f2
          obtain ⟨rfl, hi2, f3⟩ := z
          obtain ⟨G2, I2, J2, R2⟩ := h2
          simp only [r175_854, if_true, tm_in, or_true, true_or, tm_cs0, tm_cs1, tm_cs2, tm_cs3, tm_cs4, true_and, and_true, and_self, Option.toList_some, Option.toList_none, List.cons_append, List.nil_append, tm_rf_some, tm_rf_none]
          exact next G2 I2 J2 R2 hi2 (keep f3).1
      · rw [show tm_tsw 826 0 22 #[107, 130, 193, 216, 229, 242, 265, 298, 341, 364, 387, 430, 463, 516, 559, 592, 615, 638, 681, 714, 747, 780, 803] 33 (I 0 i &&& 31) = 859 by unfold tm_tsw; rw [if_pos hv]; rfl]
        exact next G I J R hi hG
theorem tp_law0 : tp_goal := fun L xs hL => by
  refine law_start 985 L xs _ (fun G I J R hi hG => ?_)
  refine law_l 985 L hL _ (fun h hi => ⟨rfl, ?_⟩) L 0 G I J R (by omega) (by omega) hi hG
  obtain ⟨nw, rp, ch, m, oc, pr, tl, fa, ro, dy, rd, hp⟩ := hi
  obtain ⟨g1, g2⟩ := hp.1.2.2.2.2.2.2.2.2.2
  have h70 := (iv_70 hp.1).2
  exact ⟨by omega, by omega⟩
