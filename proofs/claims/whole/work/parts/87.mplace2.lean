/-! The reference: place. -/
section DF2
variable {G : tm_G} {I : Nat → Nat → Int32} {J : Nat → Nat → Int64} {R : Nat → Nat → Option Nat} {m oc : Nat} {C : Nat → Nat → Int} {T : Nat → Nat → Prop} {Tb : Nat → Nat → Bool}
theorem m155_leaf (d : Nat) (K : Option Value → tm_H → Prop) (hS : tp_S G) (hR : tp_R R) (hT : dp_tab I C Tb m oc) (hTs : ∀ r s, T r s → T s r ∧ r ≠ s) {gs : Nat} {w f : Nat → Nat} {B : Option (Nat → Nat)} {fd bc bg : Int32} {bw way : Nat → Int32} (hgs : gs ≤ m) (hr : gp_rel m gs w f) (hp : gp_pre C T m f) (hway : ∀ j, j < m → way j = nI (w j)) (hst : dp_st C T oc m B fd bc bg bw) (hbef : gp_bef m m f B) (hK : ∀ B' fd' bc' bg' bw', gp_post C oc m (gp_V C T m m f) B B' → dp_st C T oc m B' fd' bc' bg' bw' → K none (G, tp_dp I fd' bc' bg' bw' way, J, R)) : tm_R d 155 [.ref 89, .int (nI m), .int (nI gs), .int (iI (gp_pc C oc f m))] (G, tp_dp I fd bc bg bw way, J, R) K := by
  obtain ⟨t1, t2, t3, t4, t5, t6, t7, t8⟩ := hT
  have hv := gp_val_full hTs hr hp
  have i26 : ∀ fd bc bg bw, tp_dp I fd bc bg bw way 89 26 = nI m := fun fd bc bg bw => by rw [dp_89 (by decide)]; exact t1
  have hcf := gp_cost_bd (S := gp_all m) (f := f) t2 t8 (show (0 : Int) ≤ oc ∧ (oc : Int) ≤ 100 by omega)
  have new : ∀ (B : Option (Nat → Nat)) (fd bc bg : Int32) (bw : Nat → Int32), (∀ b, B = some b → gp_val C T m (gp_all m) b ∧ gp_cost C oc m (gp_all m) f < gp_cost C oc m (gp_all m) b) → (∀ B' fd' bc' bg' bw', gp_post C oc m (gp_V C T m m f) B B' → dp_st C T oc m B' fd' bc' bg' bw' → K none (G, tp_dp I fd' bc' bg' bw' way, J, R)) → tm_A d 155 23 [some (.ref 89), some (.int (nI m)), some (.int (nI gs)), some (.int (iI (gp_pc C oc f m))), none, none] [] (G, tp_dp I fd bc bg bw way, J, R) K := by
    intro B fd bc bg bw hB hK
    simp only [r155_23, r155_24, r155_25, r155_28, r155_29, r155_30, r155_33, r155_34, r155_35, r155_38, r155_39, sh_89 hS, dp_u34, dp_u32, dp_u33, tm_z1, tm_in, or_true, true_or, tm_cs0, tm_cs1, tm_cs2, tm_cs3, tm_cs4, true_and, and_true, and_self, Option.toList_some, Option.toList_none, List.cons_append, List.nil_append, tm_rf_some, tm_rf_none]
    rw [← nI_0]
    refine m155_c d K hS hR t1 t2 _ _ _ _ m 0 bw (by omega) (fun i hi => by omega) (fun bw' hbw' => ?_)
    refine hK (some f) _ _ _ _ (gp_leaf_new t2 hv hB) (Or.inr ⟨f, w, gs, rfl, rfl, hv, hr, ?_, rfl, fun j hj => ?_⟩)
    · rw [gp_cost_pc]
    · rw [hbw' j hj, hway j hj]
  rw [e155]
  simp only [r155_0, r155_1, r155_2, r155_5, r155_8, r155_9, r155_12, sh_89 hS, i26, dp_34, not_true, if_false, tm_in, or_true, true_or, tm_cs0, tm_cs1, tm_cs2, tm_cs3, tm_cs4, true_and, and_true, and_self, Option.toList_some, Option.toList_none, List.cons_append, List.nil_append, tm_rf_some, tm_rf_none]
  rcases hst with ⟨b1, b2⟩ | ⟨b, wb, gb, b1, b2, b3, b4, b5, b6, b7⟩
  · subst b2
    simp only [if_true]
    exact new B 0 bc bg bw (fun b hb => by rw [b1] at hb; cases hb) hK
  · subst b2
    have hcb := gp_cost_bd (S := gp_all m) (f := b) t2 t8 (show (0 : Int) ≤ oc ∧ (oc : Int) ≤ 100 by omega)
    have hle : bc ≤ iI (gp_pc C oc f m) ↔ gp_cost C oc m (gp_all m) b ≤ gp_cost C oc m (gp_all m) f := by
      rw [b5, ← gp_cost_pc]
      exact iI_le (by omega) (by omega)
    simp only [show ¬ (1 : Int32) = 0 by decide, if_false, r155_15, r155_16, r155_17, r155_20, sh_89 hS, dp_32, hle, tm_in, or_true, true_or, tm_cs0, tm_cs1, tm_cs2, tm_cs3, tm_cs4, true_and, and_true, and_self, Option.toList_some, Option.toList_none, List.cons_append, List.nil_append, tm_rf_some, tm_rf_none]
    by_cases h : gp_cost C oc m (gp_all m) b ≤ gp_cost C oc m (gp_all m) f
    · rw [if_pos h]
      simp only [r155_70]
      exact hK B _ _ _ _ (gp_leaf_old b1 hbef h) (Or.inr ⟨b, wb, gb, b1, rfl, b3, b4, b5, b6, b7⟩)
    · rw [if_neg h]
      exact new B 1 bc bg bw (fun b' hb' => by
        have : b' = b := Option.some.inj (hb'.symm.trans b1)
        subst this
        exact ⟨b3, by omega⟩) hK
theorem m155 (d : Nat) (hS : tp_S G) (hR : tp_R R) (hT : dp_tab I C Tb m oc) (hTs : ∀ r s, T r s → T s r ∧ r ≠ s) (hTb : ∀ j k, j < m → k < m → (Tb j k = true ↔ T j k)) : ∀ (n k gs : Nat) (w f : Nat → Nat) (B : Option (Nat → Nat)) (fd bc bg : Int32) (bw way : Nat → Int32) (K : Option Value → tm_H → Prop), k + n = m → gs ≤ k → gp_rel k gs w f → gp_pre C T k f → (∀ j, j < k → way j = nI (w j)) → dp_st C T oc m B fd bc bg bw → gp_bef m k f B → (∀ B' fd' bc' bg' bw' way', gp_post C oc m (gp_V C T m k f) B B' → dp_st C T oc m B' fd' bc' bg' bw' → (∀ j, j < k → way' j = nI (w j)) → K none (G, tp_dp I fd' bc' bg' bw' way', J, R)) → tm_R (d + n + 2) 155 [.ref 89, .int (nI k), .int (nI gs), .int (iI (gp_pc C oc f k))] (G, tp_dp I fd bc bg bw way, J, R) K := by
  have hT0 := hT
  obtain ⟨t1, t2, t3, t4, t5, t6, t7, t8⟩ := hT
  intro n
  induction n with
  | zero =>
    intro k gs w f B fd bc bg bw way K hk hgs hr hp hway hst hbef hK
    have : k = m := by omega
    subst this
    exact m155_leaf _ K hS hR hT0 hTs hgs hr hp hway hst hbef (fun B' fd' bc' bg' bw' h1 h2 => hK B' fd' bc' bg' bw' way h1 h2 hway)
  | succ n ih =>
    intro k gs w f B fd bc bg bw way K hk hgs hr hp hway hst hbef hK
    have hkm : k < m := by omega
    have hw10 : ∀ j, j < k → w j ≤ 10 := fun j hj => by have := (hr.1 j hj).1; omega
    have hne : ¬ nI k = nI m := fun z => by
      have := (nI_eq (by omega) (by omega)).mp z
      omega
    have i26 : ∀ fd bc bg bw way, tp_dp I fd bc bg bw way 89 26 = nI m := fun fd bc bg bw way => by rw [dp_89 (by decide)]; exact t1
    have i3 : ∀ fd bc bg bw way, tp_dp I fd bc bg bw way 89 3 = nI oc := fun fd bc bg bw way => by rw [dp_89 (by decide)]; exact t3
    have ik : tm_in (nI k) 10 := q_in (by omega) (by decide)
    rw [e155]
    simp only [r155_0, r155_1, r155_2, r155_5, r155_71, r155_72, sh_89 hS, i26, hne, not_false_eq_true, if_true, tm_in, or_true, true_or, tm_cs0, tm_cs1, tm_cs2, tm_cs3, tm_cs4, true_and, and_true, and_self, Option.toList_some, Option.toList_none, List.cons_append, List.nil_append, tm_rf_some, tm_rf_none]
    have loop : ∀ (t g : Nat) (B : Option (Nat → Nat)) (fd bc bg : Int32) (bw way : Nat → Int32) (o5 : Option Value), g + t = gs + 1 → (∀ j, j < k → way j = nI (w j)) → dp_st C T oc m B fd bc bg bw → (∀ g' v', g ≤ g' → g' ≤ gs → gp_fv k gs w f g' v' → gp_bef m (k + 1) (gp_up f k v') B) → (∀ B' fd' bc' bg' bw' way', gp_post C oc m (gp_from C T m k gs w f g) B B' → dp_st C T oc m B' fd' bc' bg' bw' → (∀ j, j < k → way' j = nI (w j)) → K none (G, tp_dp I fd' bc' bg' bw' way', J, R)) → tm_A (d + (n + 1) + 2) 155 74 [some (.ref 89), some (.int (nI k)), some (.int (nI gs)), some (.int (iI (gp_pc C oc f k))), some (.int (nI g)), o5] [] (G, tp_dp I fd bc bg bw way, J, R) K := by
      intro t
      induction t with
      | zero =>
        intro g B fd bc bg bw way o5 hg hway hst hbf hK
        have : g = gs + 1 := by omega
        subst this
        have hc : nI gs < nI (gs + 1) := (nI_ltI (by omega) (by omega)).mpr (by omega)
        rw [r155_74]
        simp only [r155_76, r155_77, r155_149, hc, if_true]
        exact hK B _ _ _ _ _ (gp_post_empty (fun x => gp_from_end hkm hr)) hst hway
      | succ t iht =>
        intro g B fd bc bg bw way o5 hg hway hst hbf hK
        have hggs : g ≤ gs := by omega
        have hc : ¬ nI gs < nI g := fun z => by
          have := (nI_ltI (by omega) (by omega)).mp z
          omega
        obtain ⟨v, hv⟩ := gp_fv_ex hr hggs
        have hfs := fun h => gp_from_s (C := C) (T := T) (m := m) (h := h) hkm hr hv hggs
        rw [r155_74]
        simp only [r155_76, r155_77, r155_80, r155_81, r155_82, r155_84, hc, if_false, sh_89 hS, tm_in, or_true, true_or, tm_cs0, tm_cs1, tm_cs2, tm_cs3, tm_cs4, true_and, and_true, and_self, Option.toList_some, Option.toList_none, List.cons_append, List.nil_append, tm_rf_some, tm_rf_none]
        rw [m154 (d + (n + 1) + 1) _ hS hR hT0 hkm (show g ≤ 10 by omega) hw10 hway]
        simp only [r155_87, r155_89, r155_91, r155_93, tm_in, or_true, true_or, tm_cs0, tm_cs1, tm_cs2, tm_cs3, tm_cs4, true_and, and_true, and_self, Option.toList_some, Option.toList_none, List.cons_append, List.nil_append, tm_rf_some, tm_rf_none]
        cases hj : p_jn w C Tb k g k 0 0 with
        | none =>
          have h6 : (1000000 : Int32) ≤ p_jv none := by decide
          simp only [h6, if_true, r155_143, r155_146, nI_1]
          obtain ⟨i, hi1, hi2, hi3⟩ := p_jn_none k 0 0 hj
          have hemp : ∀ h, ¬ gp_V C T m (k + 1) (gp_up f k v) h := fun h => gp_conf hkm hr hv (show i < k by omega) (hi3.imp id (fun z => ⟨z.1, (hTb i k (by omega) hkm).mp z.2⟩))
          refine iht (g + 1) B _ _ _ _ _ _ (by omega) hway hst (fun g' v' h1 h2 h3 => hbf g' v' (by omega) h2 h3) (fun B' fd' bc' bg' bw' way' h1 h2 h3 => hK B' _ _ _ _ _ ?_ h2 h3)
          exact gp_post_or (gp_post_empty hemp) h1 hfs
        | some c =>
          obtain ⟨hsum, hok⟩ := p_jn_some k 0 0 c hj
          have hsum' : gp_s (fun i => if w i = g then C i k else 0) k = c := by
            rw [Nat.zero_add] at hsum
            have : gp_s (fun i => if w i = g then C i k else 0) 0 = 0 := rfl
            omega
          have hbd := gp_s_bd (g := fun i => if w i = g then C i k else 0) (B := 1000) k (fun r hr2 => by
            have := t8 r k
            show -(1000 : Int) ≤ (if w r = g then C r k else 0) ∧ (if w r = g then C r k else 0) ≤ 1000
            split <;> omega)
          rw [hsum'] at hbd
          have hk1000 : k * 1000 ≤ 10000 := by omega
          have h6 : ¬ (1000000 : Int32) ≤ p_jv (some c) := fun z => by
            have := (iI_le (a := 1000000) (b := c) (by omega) (by omega)).mp z
            omega
          have hpc := gp_pc_s (C := C) (o := (oc : Int)) hr hv
          rw [hsum'] at hpc
          have hrel := gp_fv_rel hr hv
          have hpre := gp_pre_s (C := C) (T := T) hr hv hp (fun j hj2 => ⟨(hok j (by omega) (by omega)).1, fun hne2 hTT => (hok j (by omega) (by omega)).2 hne2 ((hTb j k (by omega) hkm).mpr hTT)⟩)
          have hway' : ∀ j, j < k + 1 → p_upf way k (nI g) j = nI (gp_up w k g j) := fun j hj2 => by
            unfold p_upf gp_up
            by_cases e : j = k
            · rw [if_pos e, if_pos e]
            · rw [if_neg e, if_neg e]
              exact hway j (by omega)
          have hgs' : (if g = gs then gs + 1 else gs) ≤ k + 1 := by split <;> omega
          have hcall := ih (k + 1) (if g = gs then gs + 1 else gs) (gp_up w k g) (gp_up f k v) B fd bc bg bw (p_upf way k (nI g)) (fun r h' => tm_A (d + (n + 1) + 2) 155 143 [some (.ref 89), some (.int (nI k)), some (.int (nI gs)), some (.int (iI (gp_pc C oc f k))), some (.int (nI g)), some (.int (iI c))] (r.toList ++ []) h' K) (by omega) hgs' hrel hpre hway' hst (hbf g v (Nat.le_refl _) hggs hv) (fun B1 fd1 bc1 bg1 bw1 way1 p1 st1 w1 => ?_)
          · rw [hpc] at hcall
            simp only [h6, if_false, r155_96, r155_97, r155_100, r155_101, r155_103, r155_104, r155_105, r155_106, r155_107, r155_108, r155_110, r155_111, sh_89 hS, sh_108 hS, rf_89_30 hR, ik, q_ix (show k < 2147483648 by omega), dp_u108, nI_1, show 3 ≤ 108 by decide, tm_in, or_true, true_or, tm_cs0, tm_cs1, tm_cs2, tm_cs3, tm_cs4, true_and, and_true, and_self, Option.toList_some, Option.toList_none, List.cons_append, List.nil_append, tm_rf_some, tm_rf_none]
            have hgg : nI g = nI gs ↔ g = gs := nI_eq (by omega) (by omega)
            by_cases e : g = gs
            · rw [if_pos e, if_pos e] at hcall
              have es : iI (gp_pc C oc f k) + p_jv (some c) + nI oc = iI (gp_pc C oc f k + ((oc : Int) + c)) := by
                show iI (gp_pc C oc f k) + iI c + nI oc = _
                rw [← iI_nat, iI_add, iI_add]
                congr 1
                omega
              simp only [hgg, e, not_true, if_false, r155_114, r155_115, r155_116, r155_117, r155_120, r155_121, r155_122, r155_124, r155_125, r155_127, r155_128, r155_131, r155_132, r155_135, r155_138, r155_139, r155_140, sh_89 hS, i3, nI_1, es, tm_in, or_true, true_or, tm_cs0, tm_cs1, tm_cs2, tm_cs3, tm_cs4, true_and, and_true, and_self, Option.toList_some, Option.toList_none, List.cons_append, List.nil_append, tm_rf_some, tm_rf_none]
              rw [e] at hcall
              exact hcall
            · rw [if_neg e, if_neg e] at hcall
              have es : iI (gp_pc C oc f k) + p_jv (some c) + 0 = iI (gp_pc C oc f k + (0 + c)) := by
                show iI (gp_pc C oc f k) + iI c + 0 = _
                rw [Int32.add_zero, iI_add, Int.zero_add]
              simp only [hgg, e, not_false_eq_true, if_true, r155_120, r155_121, r155_122, r155_124, r155_125, r155_127, r155_128, r155_131, r155_132, r155_135, r155_138, r155_139, r155_140, sh_89 hS, es, tm_in, or_true, true_or, tm_cs0, tm_cs1, tm_cs2, tm_cs3, tm_cs4, true_and, and_true, and_self, Option.toList_some, Option.toList_none, List.cons_append, List.nil_append, tm_rf_some, tm_rf_none]
              exact hcall
          · simp only [r155_143, r155_146, nI_1, tm_in, or_true, true_or, tm_cs0, tm_cs1, tm_cs2, tm_cs3, tm_cs4, true_and, and_true, and_self, Option.toList_some, Option.toList_none, List.cons_append, List.nil_append, tm_rf_some, tm_rf_none]
            refine iht (g + 1) B1 _ _ _ _ _ _ (by omega) (fun j hj2 => by rw [w1 j (by omega), gp_up_ne (by omega)]) st1 (fun g' v' h1 h2 h3 => ?_) (fun B' fd' bc' bg' bw' way' q1 q2 q3 => hK B' _ _ _ _ _ (gp_post_or p1 q1 hfs) q2 q3)
            exact gp_bef_n t2 hkm hr hv h3 (by omega) (hbf g' v' (by omega) h2 h3) p1
    rw [← nI_0]
    refine loop (gs + 1) 0 B fd bc bg bw way none (by omega) hway hst (fun g' v' _ _ _ => gp_bef_s (gs := gs) (w := w) (g := g') hbef) (fun B' fd' bc' bg' bw' way' q1 q2 q3 => hK B' _ _ _ _ _ ?_ q2 q3)
    exact ⟨q1.1.imp id (fun ⟨h, z, e⟩ => ⟨h, (gp_from_0 hkm hr).mp z, e⟩), fun h hh => q1.2.1 h ((gp_from_0 hkm hr).mpr hh), q1.2.2⟩
end DF2
