/-! The class: the least grouping. -/
noncomputable def cg_K (C : Nat → Nat → Int) (T : Nat → Nat → Prop) (oc m g : Nat) : Int := @ite _ (gp_val C T m g (fun _ => p_low 10 g)) (Classical.propDecidable _) (gp_key C oc m g (fun _ => p_low 10 g)) gp_NV
theorem cg_K_y {C : Nat → Nat → Int} {T : Nat → Nat → Prop} {oc m g : Nat} (h : gp_val C T m g (fun _ => p_low 10 g)) : cg_K C T oc m g = gp_key C oc m g (fun _ => p_low 10 g) := by
  unfold cg_K
  exact if_pos h
theorem cg_K_n {C : Nat → Nat → Int} {T : Nat → Nat → Prop} {oc m g : Nat} (h : ¬ gp_val C T m g (fun _ => p_low 10 g)) : cg_K C T oc m g = gp_NV := by
  unfold cg_K
  exact if_neg h
theorem tns_iff {pt : Nat → Nat} {g : Nat} : ∀ m, tns pt m g = true ↔ ∃ r, r < m ∧ tn1 pt r g = true
  | 0 => by
    constructor
    · intro h; exact absurd h (by simp [tns])
    · rintro ⟨r, h, -⟩; omega
  | m + 1 => by
    rw [tns, Bool.or_eq_true, tns_iff m]
    constructor
    · rintro (⟨r, a, b⟩ | h)
      · exact ⟨r, by omega, b⟩
      · exact ⟨m, by omega, h⟩
    · rintro ⟨r, a, b⟩
      by_cases e : r = m
      · subst e; exact Or.inr b
      · exact Or.inl ⟨r, by omega, b⟩
theorem tn1_iff {pt : Nat → Nat} {r g : Nat} : tn1 pt r g = true ↔ g.testBit r = true ∧ ∃ s, (pt r).testBit s = true ∧ g.testBit s = false := by
  unfold tn1
  rw [Bool.and_eq_true, decide_eq_true_eq]
  constructor
  · rintro ⟨a, b⟩
    refine ⟨a, ?_⟩
    obtain ⟨s, hs⟩ := Nat.exists_testBit_of_ne_zero b
    rw [sdf_t] at hs
    simp at hs
    exact ⟨s, hs⟩
  · rintro ⟨a, s, b, c⟩
    refine ⟨a, fun z => ?_⟩
    have : (sdf (pt r) g).testBit s = true := by rw [sdf_t, b, c]; rfl
    rw [z, Nat.zero_testBit] at this
    exact absurd this (by decide)
theorem gp_val_iff {C : Nat → Nat → Int} {T : Nat → Nat → Prop} {m g : Nat} {pt : Nat → Nat} (hm : m ≤ 10) (hg1 : 1 ≤ g) (hg : g < 2 ^ m) (hpt : ∀ r s, r < m → ((pt r).testBit s = true ↔ s < m ∧ T r s)) : gp_val C T m g (fun _ => p_low 10 g) ↔ gp_nb C m g ∧ ¬ tns pt m g = true := by
  have h2m : (2 : Nat) ^ m ≤ 2 ^ 10 := Nat.pow_le_pow_right (by decide) hm
  have hl := low_gp hg1 (show g < 1024 by omega)
  constructor
  · rintro ⟨-, a, b⟩
    refine ⟨fun j r h1 h2 h3 h4 => a j r h1 h2 h3 h4 rfl, fun z => ?_⟩
    obtain ⟨r, hr, ht⟩ := (tns_iff m).mp z
    obtain ⟨t1, s, t2, t3⟩ := tn1_iff.mp ht
    obtain ⟨s1, s2⟩ := (hpt r s hr).mp t2
    have := (b r s hr s1 t1 s2).1
    rw [t3] at this
    exact absurd this (by decide)
  · rintro ⟨a, b⟩
    refine ⟨fun r hr hb => ⟨?_, hl.1, rfl⟩, fun j r h1 h2 h3 h4 _ => a j r h1 h2 h3 h4, fun r s h1 h2 h3 h4 => ⟨?_, rfl⟩⟩
    · show p_low 10 g ≤ r
      apply Nat.le_of_not_lt
      intro z
      exact hl.2 r z hb
    · by_cases z : g.testBit s = true
      · exact z
      · exact absurd ((tns_iff m).mpr ⟨r, h1, tn1_iff.mpr ⟨h3, s, (hpt r s h1).mpr ⟨h2, h4⟩, by simpa using z⟩⟩) b
theorem sub_lt {U S l : Nat} (h : ∀ k, U.testBit k = true → S.testBit k = true) (h1 : S.testBit l = true) (h2 : U.testBit l = false) : U < S := by
  have e : S &&& U = U := Nat.eq_of_testBit_eq (fun k => by
    rw [Nat.testBit_and]
    by_cases z : U.testBit k = true
    · rw [z, h k z]; rfl
    · have z' : U.testBit k = false := by simpa using z
      rw [z']; simp)
  have hle : S &&& U ≤ S := Nat.and_le_left
  rw [e] at hle
  have hne : U ≠ S := fun z => by
    rw [z, h1] at h2
    exact absurd h2 (by decide)
  omega
section CG3
variable {G : tm_G} {I : Nat → Nat → Int32} {J : Nat → Nat → Int64} {R : Nat → Nat → Option Nat} {m oc : Nat} {C : Nat → Nat → Int} {T : Nat → Nat → Prop}
theorem gp_lst_bd (hm : m ≤ 10) (hC : ∀ j r, -1000 ≤ C j r ∧ C j r ≤ 1000) (hoc : oc ≤ 100) {S : Nat} {x : Int} (h : gp_lst C T oc m S x) : -1152921504606846976 ≤ x ∧ x ≤ 1152921504606846976 := by
  rcases h.2 with ⟨a, -⟩ | ⟨f, vf, e⟩
  · unfold gp_NV at a
    omega
  · have := gp_key_bd (o := (oc : Int)) (S := S) (f := f) hm hC (by omega) (gp_ok_15 hm vf.1)
    omega
theorem c28 (d : Nat) (K : Option Value → tm_H → Prop) (hS : tp_S G) (hR : tp_R R) (hm : m ≤ 10) (hlow : iv_low I) (hC : ∀ j r, -1000 ≤ C j r ∧ C j r ≤ 1000) (hoc : oc ≤ 100) {S : Nat} (hS1 : 1 ≤ S) (hS2 : S < 2 ^ m) {LL : Nat → Int} (h72 : ∀ g, 1 ≤ g → g < 2 ^ m → J 72 g = lI (cg_K C T oc m g)) (h73 : ∀ U, U < S → J 73 U = lI (LL U) ∧ gp_lst C T oc m U (LL U)) (hK : ∀ X, gp_lst C T oc m S X → K (some (.long (lI X))) (G, I, J, R)) : tm_R (d + 2) 28 [.ref 71, .int (nI S)] (G, I, J, R) K := by
  have h2m : (2 : Nat) ^ m ≤ 2 ^ 10 := Nat.pow_le_pow_right (by decide) hm
  have hS3 : S < 1024 := by omega
  have hl := low_gp hS1 hS3
  have hl10 := low_lt S hS3 hS1
  have el : I 74 S = nI (p_low 10 S) := hlow S hS1 hS3
  generalize p_low 10 S = l at hl hl10 el
  have iS : tm_in (nI S) 1024 := q_in hS3 (by decide)
  have ho : sdf S (2 ^ l) < 1024 := lt_of_bits (t := 10) (fun k hk => by rw [sdf_t, bit_lt (t := 10) hS3 hk]; rfl)
  have ob : ∀ k, (sdf S (2 ^ l)).testBit k = (S.testBit k && !decide (l = k)) := fun k => by rw [sdf_t, Nat.testBit_two_pow]
  have obT : ∀ k, (sdf S (2 ^ l)).testBit k = true ↔ S.testBit k = true ∧ k ≠ l := fun k => by
    rw [ob]
    simp only [Bool.and_eq_true, Bool.not_eq_true', decide_eq_false_iff_not]
    exact ⟨fun z => ⟨z.1, fun e => z.2 e.symm⟩, fun z => ⟨z.1, fun e => z.2 e.symm⟩⟩
  have hbc := sbc_bc _ ho
  have h2p : (2 : Nat) ^ sbc 10 (sdf S (2 ^ l)) ≤ 2 ^ 10 := Nat.pow_le_pow_right (by decide) hbc.2
  have hpp : 0 < (2 : Nat) ^ sbc 10 (sdf S (2 ^ l)) := Nat.pow_pos (by decide)
  have gsm : ∀ g, (∀ k, g.testBit k = true → S.testBit k = true) → g < 2 ^ m := fun g hg => lt_of_bits (fun k hk => by
    by_cases z : g.testBit k = true
    · have := hg k z
      rw [bit_lt hS2 hk] at this
      exact absurd this (by decide)
    · simpa using z)
  have low_g : ∀ g, g.testBit l = true → (∀ k, g.testBit k = true → S.testBit k = true) → gp_low g l := fun g h1 h2 => ⟨h1, fun r hr z => hl.2 r hr (h2 r z)⟩
  have g1 : ∀ g, g.testBit l = true → 1 ≤ g := fun g h1 => by
    apply Nat.pos_of_ne_zero
    intro z
    rw [z, Nat.zero_testBit] at h1
    exact absurd h1 (by decide)
  have Kbd : ∀ g, -1152921504606846976 ≤ cg_K C T oc m g ∧ cg_K C T oc m g ≤ 1152921504606846976 := fun g => by
    by_cases h : gp_val C T m g (fun _ => p_low 10 g)
    · rw [cg_K_y h]
      have := gp_key_bd (o := (oc : Int)) (S := g) (f := fun _ => p_low 10 g) hm hC (by omega) (gp_ok_15 hm h.1)
      omega
    · rw [cg_K_n h]
      unfold gp_NV
      omega
  rw [e28]
  simp only [r28_0, r28_1, r28_2, r28_5, r28_6, r28_7, r28_8, r28_9, r28_10, r28_11, r28_12, r28_13, r28_14, r28_15, r28_16, r28_18, r28_21, r28_23, r28_24, r28_25, r28_28, r28_29, sh_71 hS, sh_74 hS, rf_71_2 hR, iS, q_ix (show S < 2147483648 by omega), el, nI_1s (show l < 31 by omega), nI_sdf, m174, hbc.1, nI_1s (show sbc 10 (sdf S (2 ^ l)) < 31 by omega), lI_nv, tm_in, or_true, true_or, tm_cs0, tm_cs1, tm_cs2, tm_cs3, tm_cs4, true_and, and_true, and_self, Option.toList_some, Option.toList_none, List.cons_append, List.nil_append, tm_rf_some, tm_rf_none]
  refine c28_l (d + 1) K hS hR (y := J 72) (z := J 73) (KK := cg_K C T oc m) (LL := LL) rfl rfl hl10 ho (fun g hg hgl hgs => ?_) (fun U hU => ?_) _ (2 ^ sbc 10 (sdf S (2 ^ l))) _ gp_NV _ _ _ _ (Nat.le_refl _) (fun t ht => ?_) (by unfold gp_NV; omega) (fun F' c1 c2 c3 => ?_)
  · have gS : ∀ k, g.testBit k = true → S.testBit k = true := fun k hk => by
      rcases hgs k hk with a | a
      · exact ((obT k).mp a).1
      · rw [a]; exact hl.1
    exact ⟨h72 g (g1 g hgl) (gsm g gS), Kbd g⟩
  · have hlt : U < S := sub_lt (l := l) (fun k hk => ((obT k).mp (hU k hk)).1) hl.1 (by
      by_cases z : U.testBit l = true
      · exact absurd rfl ((obT l).mp (hU l z)).2
      · simpa using z)
    obtain ⟨a, b⟩ := h73 U hlt
    exact ⟨a, gp_lst_bd hm hC hoc b⟩
  · have : t = 2 ^ sbc 10 (sdf S (2 ^ l)) - 1 := by omega
    rw [this, sbm_top 10 _ ho]
  · refine hK F' (gp_step (Kk := cg_K C T oc m) (L := LL) hm hC (by omega) hS2 hl (fun g hg hgl => ?_) (fun g U hU hgl hgS hUe => ?_) (fun g U hg hU hgl hgS hUe n1 n2 => ?_) ?_)
    · have e : p_low 10 g = l := gp_low_u (low_gp (g1 g hgl.1) (by omega)) hgl
      constructor
      · intro h
        rw [← e] at h ⊢
        rw [cg_K_y h]
      · intro h
        rw [← e] at h
        exact cg_K_n h
    · refine (h73 U (sub_lt (l := l) (fun k hk => ?_) hl.1 ?_)).2
      · rw [hUe] at hk
        simp at hk
        exact hk.1
      · rw [hUe, hgl]
        simp
    · obtain ⟨t, ht, et⟩ := sbm_onto 10 (sdf S (2 ^ l)) (sdf g (2 ^ l)) ho (fun k hk => by
        rw [sdf_t, Nat.testBit_two_pow] at hk
        simp at hk
        exact (obT k).mpr ⟨hgS k hk.1, fun z => hk.2 z.symm⟩)
      have e1 : sbm 10 (sdf S (2 ^ l)) t ||| 2 ^ l = g := by
        rw [et]
        apply Nat.eq_of_testBit_eq
        intro k
        rw [Nat.testBit_or, sdf_t, Nat.testBit_two_pow]
        by_cases z : l = k
        · subst z; simp [hgl]
        · simp [z]
      have e2 : sdf (sdf S (2 ^ l)) (sbm 10 (sdf S (2 ^ l)) t) = U := by
        rw [et]
        apply Nat.eq_of_testBit_eq
        intro k
        rw [sdf_t, ob, sdf_t, Nat.testBit_two_pow, hUe]
        by_cases z : l = k
        · subst z; simp [hgl]
        · simp [z]
      have := c2 t ht (by rw [e1]; exact n1) (by rw [e2]; exact n2)
      rw [e1, e2] at this
      exact this
    · rcases c3 with z | ⟨t, ht, a, b, c⟩
      · exact Or.inl z
      · have hsub : ∀ k, (sbm 10 (sdf S (2 ^ l)) t).testBit k = true → (sdf S (2 ^ l)).testBit k = true := fun k hk => by
          have := sbm_sub 10 (sdf S (2 ^ l)) t
          have h2 : (sbm 10 (sdf S (2 ^ l)) t &&& sdf S (2 ^ l)).testBit k = true := by rw [this]; exact hk
          rw [Nat.testBit_and] at h2
          simp at h2
          exact h2.2
        have gS : ∀ k, (sbm 10 (sdf S (2 ^ l)) t ||| 2 ^ l).testBit k = true → S.testBit k = true := fun k hk => by
          rw [Nat.testBit_or, Nat.testBit_two_pow] at hk
          simp at hk
          rcases hk with z | z
          · exact ((obT k).mp (hsub k z)).1
          · rw [← z]; exact hl.1
        refine Or.inr ⟨sbm 10 (sdf S (2 ^ l)) t ||| 2 ^ l, sdf (sdf S (2 ^ l)) (sbm 10 (sdf S (2 ^ l)) t), gsm _ gS, gsm _ (fun k hk => ?_), ?_, gS, fun k => ?_, a, b, c⟩
        · rw [sdf_t] at hk
          simp at hk
          exact ((obT k).mp hk.1).1
        · rw [Nat.testBit_or, Nat.testBit_two_pow_self]
          simp
        · rw [sdf_t, ob, Nat.testBit_or, Nat.testBit_two_pow]
          by_cases z : l = k
          · simp [z]
          · simp [z]
end CG3
