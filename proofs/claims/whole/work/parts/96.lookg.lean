/-! Looking at groups. -/
section LKG
variable {G : tm_G} {I : Nat → Nat → Int32} {J : Nat → Nat → Int64} {R : Nat → Nat → Option Nat} {nw rp ch n oc pr q m : Nat} {tl fa ro dy rd : Nat → Nat}
theorem ck_bd2 (hb : iv_b G I R nw rp ch n oc pr tl fa ro dy rd) (hk : iv_kn I rp (rp + ch) fa rd q m) (hm : m ≤ 10) (r s : Nat) : ck_C I m r s = 1000 ∨ (-36 ≤ ck_C I m r s ∧ ck_C I m r s ≤ 19) := by
  unfold ck_C
  by_cases g : r < m ∧ s < m
  · rw [if_pos g]
    obtain ⟨z, ez, z1, z2⟩ := ck_da hb hk (show r < 10 by omega) (show s < 10 by omega)
    unfold p_pc
    by_cases h : I (48 + 1 * r) s = 2 ∨ p_dif I (16 + 3 * r) (16 + 3 * s) 4 ∨ 9 < p_da I (16 + 3 * r) (16 + 3 * s)
    · rw [if_pos h]
      exact Or.inl (by decide)
    · rw [if_neg h]
      right
      have h9 : ¬ 9 < p_da I (16 + 3 * r) (16 + 3 * s) := fun y => h (Or.inr (Or.inr y))
      rw [ez] at h9
      have h9' : z ≤ 9 := by
        have := (iI_le (a := z) (b := 9) (by omega) (by omega)).mp (Int32.not_lt.mp h9)
        exact this
      obtain ⟨t, et, ht⟩ := p_ng_b (nm := fun i => if i < ck_n I r then I (16 + 3 * r + 2) i else -1) (hy := fun z => p_hn (I (16 + 3 * s + 2)) z 0 (ck_n I s)) (ho := fun z => p_ho I (ck_n I) z 0 m) 3 0 0
      have eg : p_gain I (ck_n I) m r s = nI t := et
      rw [ez, eg, ← iI_nat, iI_sub]
      have e6 : ∀ (P : Prop) [Decidable P], (if P then (6 : Int32) else 0) = iI (if P then 6 else 0) := fun P _ => by split <;> rfl
      have e4 : ∀ (P : Prop) [Decidable P], (if P then (4 : Int32) else 0) = iI (if P then 4 else 0) := fun P _ => by split <;> rfl
      rw [e6, e4, iI_add, iI_add]
      have b6 : ∀ (P : Prop) [Decidable P], 0 ≤ (if P then (6 : Int) else 0) ∧ (if P then (6 : Int) else 0) ≤ 6 := fun P _ => by split <;> omega
      have b4 : ∀ (P : Prop) [Decidable P], 0 ≤ (if P then (4 : Int) else 0) ∧ (if P then (4 : Int) else 0) ≤ 4 := fun P _ => by split <;> omega
      have c6 := b6 (p_dif I (16 + 3 * r) (16 + 3 * s) 0)
      have c4 := b4 (p_np I (16 + 3 * r) (16 + 3 * s))
      rw [iI_toInt (by omega) (by omega)]
      omega
  · rw [if_neg g]
    omega
theorem c29 (d : Nat) (K : Option Value → tm_H → Prop) (hS : tp_S G) : tm_R d 29 [.ref 71] (G, I, J, R) K ↔ K (some (.int (if J 71 4 = lI gp_NV then 0 else 1))) (G, I, J, R) := by
  rw [e29]
  simp only [r29_0, r29_1, r29_4, r29_7, r29_8, sh_71 hS, lg_cmp_0, lI_nv, tm_in, or_true, true_or, tm_cs0, tm_cs1, tm_cs2, tm_cs3, tm_cs4, true_and, and_true, and_self, Option.toList_some, Option.toList_none, List.cons_append, List.nil_append, tm_rf_some, tm_rf_none]
  by_cases h : J 71 4 = lI gp_NV
  · simp only [h, if_true, r29_15, r29_16, tm_z0, tm_in, or_true, true_or, tm_cs0, tm_cs1, tm_cs2, tm_cs3, tm_cs4, true_and, and_true, and_self, Option.toList_some, Option.toList_none, List.cons_append, List.nil_append, tm_rf_some, tm_rf_none]
  · simp only [h, if_false, r29_11, r29_12, r29_15, r29_16, tm_z1, tm_in, or_true, true_or, tm_cs0, tm_cs1, tm_cs2, tm_cs3, tm_cs4, true_and, and_true, and_self, Option.toList_some, Option.toList_none, List.cons_append, List.nil_append, tm_rf_some, tm_rf_none]
/-- looking at groups, for any day -/
theorem c110i (d : Nat) (x : Int32) (K : Option Value → tm_H → Prop) (hp : iv_p G I J R nw rp ch n oc pr tl fa ro dy rd) (h0 : ¬ tm_in x (nw + 1) → K (some (.int 0)) (G, I, J, R)) (h1 : ∀ q m I1 J1, q ≤ nw → x = nI q → m ≤ 10 → iv_b G I1 R nw rp ch n oc pr tl fa ro dy rd → iv_c I1 J1 rp ch oc pr fa rd q m → iv_gr I1 J1 m oc → K (some (.int (if J1 71 4 = lI gp_NV then 0 else 1))) (G, I1, J1, R)) : tm_R (d + 7) 110 [.ref 3, .int x] (G, I, J, R) K := by
  obtain ⟨hS, hR, -⟩ := hp.1
  rw [e110]
  simp only [r110_0, r110_1, r110_2, sh_3 hS, tm_in, or_true, true_or, tm_cs0, tm_cs1, tm_cs2, tm_cs3, tm_cs4, true_and, and_true, and_self, Option.toList_some, Option.toList_none, List.cons_append, List.nil_append, tm_rf_some, tm_rf_none]
  refine c109i (d + 2) x _ hp (fun h => ?_) (fun q m I1 hq e hm hb hc => ?_)
  · simp only [r110_5, r110_8, r110_9, not_true, if_false, tm_z0, tm_in, or_true, true_or, tm_cs0, tm_cs1, tm_cs2, tm_cs3, tm_cs4, true_and, and_true, and_self, Option.toList_some, Option.toList_none, List.cons_append, List.nil_append, tm_rf_some, tm_rf_none]
    exact h0 h
  · have tail : ∀ I2 J2, iv_b G I2 R nw rp ch n oc pr tl fa ro dy rd → iv_c I2 J2 rp ch oc pr fa rd q m → iv_gr I2 J2 m oc → tm_A (d + 6 + 1) 110 59 [some (.ref 3), some (.int x)] [] (G, I2, J2, R) K := fun I2 J2 hb2 hc2 hg2 => by
      simp only [r110_59, r110_60, r110_63, sh_3 hS, sh_71 hS, rf_3_5 hR, c29 _ _ hS, tm_in, or_true, true_or, tm_cs0, tm_cs1, tm_cs2, tm_cs3, tm_cs4, true_and, and_true, and_self, Option.toList_some, Option.toList_none, List.cons_append, List.nil_append, tm_rf_some, tm_rf_none]
      have hk := h1 q m I2 J2 hq e hm hb2 hc2 hg2
      by_cases hz : J2 71 4 = lI gp_NV
      · rw [if_pos hz] at hk ⊢
        simp only [r110_66, tm_z0, tm_in, or_true, true_or, tm_cs0, tm_cs1, tm_cs2, tm_cs3, tm_cs4, true_and, and_true, and_self, Option.toList_some, Option.toList_none, List.cons_append, List.nil_append, tm_rf_some, tm_rf_none]
        exact hk
      · rw [if_neg hz] at hk ⊢
        simp only [r110_66, tm_z1, tm_in, or_true, true_or, tm_cs0, tm_cs1, tm_cs2, tm_cs3, tm_cs4, true_and, and_true, and_self, Option.toList_some, Option.toList_none, List.cons_append, List.nil_append, tm_rf_some, tm_rf_none]
        exact hk
    simp only [r110_5, r110_8, r110_9, r110_10, r110_11, r110_14, show ¬ (1 : Int32) = 0 by decide, not_false_eq_true, if_true, sh_3 hS, tm_in, or_true, true_or, tm_cs0, tm_cs1, tm_cs2, tm_cs3, tm_cs4, true_and, and_true, and_self, Option.toList_some, Option.toList_none, List.cons_append, List.nil_append, tm_rf_some, tm_rf_none]
    rcases hc.2.2.1 with z | ⟨z, hg⟩
    · have s6 := hb.2.2.2.1.2.2.2.2.2.1
      have hh := hb.2.2.2.2.2.1
      have hcn : ∀ r, r < m → I1 (16 + 3 * r + 1) 3 = nI (ck_n I1 r) ∧ ck_n I1 r ≤ 3 := fun r hr => iv_cn hb hc.2.1 (by omega)
      simp only [z, not_true, if_false, r110_17, r110_18, r110_21, r110_22, r110_25, r110_26, r110_29, sh_3 hS, sh_58 hS, sh_14 hS, sh_46 hS, rf_3_2 hR, rf_3_3 hR, rf_3_4 hR, tm_in, or_true, true_or, tm_cs0, tm_cs1, tm_cs2, tm_cs3, tm_cs4, true_and, and_true, and_self, Option.toList_some, Option.toList_none, List.cons_append, List.nil_append, tm_rf_some, tm_rf_none]
      rw [e60]
      simp only [r60_0, r60_1]
      rw [← nI_0]
      refine c60_l (d + 1) _ hS hR hm hc.2.1.2.2.1 hcn m 0 I1 (fun _ => 0) _ (by omega) (fun _ _ => rfl) (fun r s hr => by omega) (fun r hr => by omega) (fun I2 pt he hcost hpt => ?_)
      have i14 : I2 14 1 = nI m := by rw [he 14 (by omega)]; exact hc.2.1.2.2.1
      have i38 : I2 3 8 = nI oc := by rw [he 3 (by omega)]; exact s6.1
      simp only [r110_32, r110_33, r110_36, r110_37, r110_40, r110_41, r110_44, r110_47, r110_48, r110_51, sh_3 hS, sh_14 hS, sh_58 hS, sh_71 hS, rf_3_2 hR, rf_3_4 hR, rf_3_5 hR, c42 _ _ hS, i14, i38, tm_in, or_true, true_or, tm_cs0, tm_cs1, tm_cs2, tm_cs3, tm_cs4, true_and, and_true, and_self, Option.toList_some, Option.toList_none, List.cons_append, List.nil_append, tm_rf_some, tm_rf_none]
      have hT : cg_tab I2 (ck_C I1 m) m := by
        refine ⟨fun r s h1 h2 => ?_, ?_, hm, fun r s _ _ => ck_bd2 hb hc.2.1 hm r s⟩
        · rw [hcost r s (by omega) h2 (by omega)]
          unfold ck_C
          rw [if_pos ⟨by omega, h2⟩, iI_of]
        · unfold iv_low
          rw [he 74 (by omega)]
          exact hb.2.2.2.2.2.2.2.2.1
      have h2m : (2 : Nat) ^ m ≤ 2 ^ 10 := Nat.pow_le_pow_right (by decide) hm
      refine c23 (d + 3) _ hS hR (T := ck_T I1) (pt := pt) hT (ck_bd hb hc.2.1 hm) s6.2.2 (fun r hr => ⟨(hpt r hr).1, by have := (hpt r hr).2.1; omega⟩) (fun r s hr => ?_) (fun I3 J3 X g1 g2 g3 g4 g5 => ?_)
      · rw [(hpt r hr).2.2 s]
        unfold ck_T
        exact ⟨fun w => ⟨w.1, by omega, by omega, w.2⟩, fun w => ⟨w.1, w.2.2.2⟩⟩
      · simp only [r110_54, r110_55, r110_56, sh_3 hS, tm_z1, tm_in, or_true, true_or, tm_cs0, tm_cs1, tm_cs2, tm_cs3, tm_cs4, true_and, and_true, and_self, Option.toList_some, Option.toList_none, List.cons_append, List.nil_append, tm_rf_some, tm_rf_none]
        have eo : ∀ b, b ≠ 3 → b ≠ 75 → b ≠ 71 → ¬ (60 ≤ b ∧ b ≤ 70) → up2 I3 3 11 1 b = I1 b := fun b h3 h75 h71 h => by rw [up2_row h3, g1 b h75 h71, he b h]
        have e3k : ∀ k, k ≠ 11 → up2 I3 3 11 1 3 k = I1 3 k := fun k hk => by rw [up2_ne hk, g1 3 (by decide) (by decide), he 3 (by omega)]
        have h57 : ∀ b, 16 ≤ b → b ≤ 57 → up2 I3 3 11 1 b = I1 b := fun b h1 h2 => eo b (by omega) (by omega) (by omega) (by omega)
        have hsrow : ∀ b, b ≠ 3 → (b < 14 ∨ 45 < b) → (b < 71 ∨ b = 74 ∨ 88 < b) → (b < 60 ∨ 70 < b) → up2 I3 3 11 1 b = I1 b := fun b a1 a2 a3 a4 => eo b a1 (by omega) (by omega) (by omega)
        have hb' : iv_b G (up2 I3 3 11 1) R nw rp ch n oc pr tl fa ro dy rd := by
          have hb2 : iv_b G (fun b => if 60 ≤ b ∧ b ≤ 70 then up2 I3 3 11 1 b else I1 b) R nw rp ch n oc pr tl fa ro dy rd := iv_b_scr hb (fun b k hs => by
            show (if 60 ≤ b ∧ b ≤ 70 then up2 I3 3 11 1 b else I1 b) k = I1 b k
            rw [if_neg (by unfold scr at hs; omega)])
          refine iv_b_keep hb2 (fun b a1 a2 a3 => ?_) (fun k hk => ?_)
          · show up2 I3 3 11 1 b = (if 60 ≤ b ∧ b ≤ 70 then up2 I3 3 11 1 b else I1 b)
            by_cases w : 60 ≤ b ∧ b ≤ 70
            · rw [if_pos w]
            · rw [if_neg w]
              exact hsrow b a1 a2 a3 (by omega)
          · show up2 I3 3 11 1 3 k = (if 60 ≤ 3 ∧ 3 ≤ 70 then up2 I3 3 11 1 3 else I1 3) k
            rw [if_neg (by omega)]
            exact e3k k (by omega)
        have hk' : iv_kn (up2 I3 3 11 1) rp (rp + ch) fa rd q m := iv_kn_congr (fun b h1 h2 => eo b (by omega) (by omega) (by omega) (by omega)) (fun b h1 h2 => eo b (by omega) (by omega) (by omega) (by omega)) (fun j hj => by
          obtain ⟨-, -, -, -, -, t6⟩ := hb.2.2.2.2.2.2.1.1 j hj
          exact ⟨eo _ (by omega) (by omega) (by omega) (by omega), eo _ (by omega) (by omega) (by omega) (by omega), eo _ (by omega) (by omega) (by omega) (by omega)⟩) hc.2.1
        have hg' : iv_gr (up2 I3 3 11 1) J3 m oc := by
          unfold iv_gr
          rw [ck_congr_C h57 hm, ck_congr_T h57, up2_row (show 71 ≠ 3 by decide), up2_row (show 75 ≠ 3 by decide)]
          refine ⟨g2, X, g3, g4, fun f hf hX r hr => ?_⟩
          rw [g5 r hr]
          apply iI_15
          have t : ∀ r, r < m → (gp_all m).testBit r = true := fun r h => by rw [gp_all_t]; simp [h]
          rw [hX, gp_key_df, p16]
          exact gp_dec hm hr (fun j hj => gp_ok_15 hm hf.1 j hj (t j hj)) _
        refine tail _ _ hb' ⟨by rw [e3k 10 (by decide)]; exact hc.1, hk', Or.inr ⟨up2_at, hg'⟩, ?_⟩ hg'
        rw [e3k 12 (by decide)]
        exact hc.2.2.2.imp id (fun y => ⟨y.1, iv_fs_congr (fun b h1 h2 => eo b (by omega) (by omega) (by omega) (by omega)) (eo 76 (by omega) (by omega) (by omega) (by omega)) (eo 88 (by omega) (by omega) (by omega) (by omega)) hm y.2⟩)
    · simp only [z, show ¬ (1 : Int32) = 0 by decide, not_false_eq_true, if_true]
      exact tail I1 J hb hc hg
end LKG
