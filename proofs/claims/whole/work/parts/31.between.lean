/-! Pairs.between, and what the desk answers of fields, bounds, letters, shapes, pairs. -/
section BTW
variable {G : tm_G} {I : Nat → Nat → Int32} {J : Nat → Nat → Int64} {R : Nat → Nat → Option Nat} {x y : Nat}
/-- what common names of the reports r and s take off -/
def p_gain (I : Nat → Nat → Int32) (cn : Nat → Nat) (m r s : Nat) : Int32 := p_ng (fun i => if i < cn r then I (16 + 3 * r + 2) i else -1) (fun z => p_hn (I (16 + 3 * s + 2)) z 0 (cn s)) (fun z => p_ho I cn z 0 m) 0 3 0
theorem c67 (d : Nat) (K : Option Value → tm_H → Prop) (hS : tp_S G) (hR : tp_R R) {m : Nat} (hm : I 14 1 = nI m) (hm10 : m ≤ 10) {cn : Nat → Nat} (hcn : ∀ r, r < m → I (16 + 3 * r + 1) 3 = nI (cn r) ∧ cn r ≤ 3) {r s : Nat} (hr : r < m) (hs : s < m) : tm_R (d + 2) 67 [.ref 14, .ref (16 + 3 * r), .ref (16 + 3 * s)] (G, I, J, R) K ↔ K (some (.int (p_gain I cn m r s))) (G, I, J, R) := by
  have hX := tp_Fk hS hR (show r < 10 by omega)
  have hY := tp_Fk hS hR (show s < 10 by omega)
  rw [e67]
  simp only [r67_0, r67_1, r67_2, r67_3]
  exact c67_l d K hS hR hX hY hm hm10 hcn (hcn r hr).1 (hcn r hr).2 (hcn s hs).1 (hcn s hs).2 3 0 0 _ _ rfl
/-- what it costs to take r and s for one -/
def p_pc (I : Nat → Nat → Int32) (cn : Nat → Nat) (m r s : Nat) : Int32 :=
  if I (48 + 1 * r) s = 2 ∨ p_dif I (16 + 3 * r) (16 + 3 * s) 4 ∨ 9 < p_da I (16 + 3 * r) (16 + 3 * s) then 1000
  else (p_da I (16 + 3 * r) (16 + 3 * s) - p_gain I cn m r s) + (if p_dif I (16 + 3 * r) (16 + 3 * s) 0 then 6 else 0) + (if p_np I (16 + 3 * r) (16 + 3 * s) then 4 else 0)
theorem c63 (d : Nat) (a b : Int32) (K : Option Value → tm_H → Prop) (hS : tp_S G) (hR : tp_R R) {m : Nat} (hm : I 14 1 = nI m) (hm10 : m ≤ 10) {cn : Nat → Nat} (hcn : ∀ r, r < m → I (16 + 3 * r + 1) 3 = nI (cn r) ∧ cn r ≤ 3) : tm_R (d + 4) 63 [.ref 14, .ref 46, .int a, .int b] (G, I, J, R) K ↔ K (some (.int (if tm_in a m ∧ tm_in b m then p_pc I cn m (tm_ix a) (tm_ix b) else -1000))) (G, I, J, R) := by
  rw [e63]
  by_cases ha : tm_in a m
  · by_cases hb : tm_in b m
    · rw [if_pos (⟨ha, hb⟩ : tm_in a m ∧ tm_in b m)]
      have hr := (q_of ha).2
      have hs := (q_of hb).2
      have hX := tp_Fk hS hR (show tm_ix a < 10 by omega)
      have hY := tp_Fk hS hR (show tm_ix b < 10 by omega)
      have ha' : tm_in a 10 := ⟨ha.1, by have := ha.2; omega⟩
      have hb' : tm_in b 10 := ⟨hb.1, by have := hb.2; omega⟩
      simp only [r63_0, r63_1, r63_2, r63_5, r63_7, r63_8, r63_9, r63_12, r63_14, r63_16, r63_19, r63_21, r63_28, r63_29, r63_30, r63_31, r63_34, r63_35, sh_14 hS, sh_46 hS, c43 _ _ _ hS hR hm hm10, if_pos ha, if_pos hb, c37 _ _ _ _ hS hR ha' hb', tm_in, or_true, true_or, tm_cs0, tm_cs1, tm_cs2, tm_cs3, tm_cs4, true_and, and_true, and_self, Option.toList_some, Option.toList_none, List.cons_append, List.nil_append, tm_rf_some, tm_rf_none]
      unfold p_pc
      generalize hfx : 16 + 3 * tm_ix a = fx at *
      generalize hfy : 16 + 3 * tm_ix b = fy at *
      by_cases h1 : I (48 + 1 * tm_ix a) (tm_ix b) = 2
      · rw [if_pos h1, if_pos (Or.inl h1)]
        simp only [r63_61, r63_64]
      · rw [if_neg h1]
        simp only [r63_38, r63_40, r63_42, r63_43, r63_46, c64 _ _ _ hX hY, tm_in, or_true, true_or, tm_cs0, tm_cs1, tm_cs2, tm_cs3, tm_cs4, true_and, and_true, and_self, Option.toList_some, Option.toList_none, List.cons_append, List.nil_append, tm_rf_some, tm_rf_none]
        by_cases h2 : p_dif I fx fy 4
        · rw [if_pos (Or.inr (Or.inl h2))]
          simp only [if_pos h2, show ¬ (1 : Int32) = 0 by decide, not_false_eq_true, if_true, r63_61, r63_64]
        · simp only [if_neg h2, not_true, if_false, r63_49, r63_51, r63_53, r63_56, r63_58, c65 _ _ hX hY, tm_in, or_true, true_or, tm_cs0, tm_cs1, tm_cs2, tm_cs3, tm_cs4, true_and, and_true, and_self, Option.toList_some, Option.toList_none, List.cons_append, List.nil_append, tm_rf_some, tm_rf_none]
          by_cases h3 : (9 : Int32) < p_da I fx fy
          · rw [if_neg (Int32.not_le.mpr h3), if_pos (Or.inr (Or.inr h3))]
            simp only [r63_61, r63_64]
          · have hn : ¬ (I (48 + 1 * tm_ix a) (tm_ix b) = 2 ∨ p_dif I fx fy 4 ∨ 9 < p_da I fx fy) := fun q => q.elim h1 (fun q => q.elim h2 h3)
            rw [if_pos (Int32.not_lt.mp h3), if_neg hn]
            simp only [r63_65, r63_67, r63_69, r63_72, r63_73, r63_75, r63_77, c65 _ _ hX hY, tm_in, or_true, true_or, tm_cs0, tm_cs1, tm_cs2, tm_cs3, tm_cs4, true_and, and_true, and_self, Option.toList_some, Option.toList_none, List.cons_append, List.nil_append, tm_rf_some, tm_rf_none]
            have hgain := c67 (I := I) (J := J) (d + 1) (fun r h' => tm_A (d + 3 + 1) 63 80 [some (.ref 14), some (.ref 46), some (.int a), some (.int b), some (.ref fx), some (.ref fy), none] (r.toList ++ [.int (p_da I fx fy)]) h' K) hS hR hm hm10 hcn hr hs
            rw [hfx, hfy] at hgain
            rw [hgain]
            generalize p_gain I cn m (tm_ix a) (tm_ix b) = gn
            simp only [r63_80, r63_81, r63_83, r63_85, r63_87, r63_89, r63_90, r63_93, c64 _ _ _ hX hY, tm_in, or_true, true_or, tm_cs0, tm_cs1, tm_cs2, tm_cs3, tm_cs4, true_and, and_true, and_self, Option.toList_some, Option.toList_none, List.cons_append, List.nil_append, tm_rf_some, tm_rf_none]
            by_cases h4 : p_dif I fx fy 0
            · simp only [if_pos h4, show ¬ (1 : Int32) = 0 by decide, if_false, r63_96, r63_98, r63_102, r63_103, r63_105, r63_107, r63_109, r63_111, r63_114, c66 _ _ hX hY, tm_in, or_true, true_or, tm_cs0, tm_cs1, tm_cs2, tm_cs3, tm_cs4, true_and, and_true, and_self, Option.toList_some, Option.toList_none, List.cons_append, List.nil_append, tm_rf_some, tm_rf_none]
              by_cases h5 : p_np I fx fy
              · simp only [if_pos h5, show ¬ (1 : Int32) = 0 by decide, if_false, r63_117, r63_118, r63_122, r63_123, r63_125, r63_127]
              · simp only [if_neg h5, if_true, r63_121, r63_122, r63_123, r63_125, r63_127]
            · simp only [if_neg h4, if_true, r63_101, r63_102, r63_103, r63_105, r63_107, r63_109, r63_111, r63_114, c66 _ _ hX hY, tm_in, or_true, true_or, tm_cs0, tm_cs1, tm_cs2, tm_cs3, tm_cs4, true_and, and_true, and_self, Option.toList_some, Option.toList_none, List.cons_append, List.nil_append, tm_rf_some, tm_rf_none]
              by_cases h5 : p_np I fx fy
              · simp only [if_pos h5, show ¬ (1 : Int32) = 0 by decide, if_false, r63_117, r63_118, r63_122, r63_123, r63_125, r63_127]
              · simp only [if_neg h5, if_true, r63_121, r63_122, r63_123, r63_125, r63_127]
    · rw [if_neg (fun q : tm_in a m ∧ tm_in b m => hb q.2)]
      simp only [r63_0, r63_1, r63_2, r63_5, r63_7, r63_8, r63_9, r63_12n, r63_14, r63_16, r63_19n, r63_21n, r63_24, r63_27, sh_14 hS, c43 _ _ _ hS hR hm hm10, if_pos ha, if_neg hb, tm_in, or_true, true_or, tm_cs0, tm_cs1, tm_cs2, tm_cs3, tm_cs4, true_and, and_true, and_self, Option.toList_some, Option.toList_none, List.cons_append, List.nil_append, tm_rf_some, tm_rf_none]
  · rw [if_neg (fun q : tm_in a m ∧ tm_in b m => ha q.1)]
    by_cases hb : tm_in b m
    · simp only [r63_0, r63_1, r63_2, r63_5n, r63_7, r63_8, r63_9, r63_12, r63_14n, r63_16n, r63_24, r63_27, sh_14 hS, c43 _ _ _ hS hR hm hm10, if_neg ha, if_pos hb, tm_in, or_true, true_or, tm_cs0, tm_cs1, tm_cs2, tm_cs3, tm_cs4, true_and, and_true, and_self, Option.toList_some, Option.toList_none, List.cons_append, List.nil_append, tm_rf_some, tm_rf_none]
    · simp only [r63_0, r63_1, r63_2, r63_5n, r63_7, r63_8, r63_9, r63_12n, r63_14n, r63_16n, r63_24, r63_27, sh_14 hS, c43 _ _ _ hS hR hm hm10, if_neg ha, if_neg hb, tm_in, or_true, true_or, tm_cs0, tm_cs1, tm_cs2, tm_cs3, tm_cs4, true_and, and_true, and_self, Option.toList_some, Option.toList_none, List.cons_append, List.nil_append, tm_rf_some, tm_rf_none]
end BTW
