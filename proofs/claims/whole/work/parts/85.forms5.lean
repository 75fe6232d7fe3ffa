/-! Forms: the reference's loops; forms on both. -/
section MF2
variable {G : tm_G} {I I' : Nat → Nat → Int32} {J : Nat → Nat → Int64} {R : Nat → Nat → Option Nat} {nw rp ch n oc pr q m : Nat} {tl fa ro dy rd : Nat → Nat} {sh : Nat → Nat}
theorem kw_keep (h : kw G I R nw rp ch n oc pr tl fa ro dy rd q m) (e : ∀ b k, ¬ scr b k → I' b k = I b k) (e4 : I' 104 = I 104) (e5 : I' 105 = I 105) (e26 : I' 89 26 = I 89 26) : kw G I' R nw rp ch n oc pr tl fa ro dy rd q m := by
  obtain ⟨h1, h2, h3, h4, h5, h6⟩ := h
  refine ⟨iv_b_scr h1 e, iv_kn_scr h1 h2 e, h3, by rw [e26]; exact h4, fun r hr => by rw [e5]; exact h5 r hr, fun r f hr hf => ?_⟩
  rw [e4, p_rf_congr (fun b a1 a2 => scr_row e (by omega))]
  exact h6 r f hr hf
theorem ms_self : tp_ms I (I 89 37) (I 89 38) (I 111) = I := by
  funext b k; simp only [tp_ms]; grind
theorem m170_1 (d : Nat) (K : Option Value → tm_H → Prop) (hS : tp_S G) (hR : tp_R R) (hT : ms_tab I sh m pr) (o1 o3 o4 : Option Value) : ∀ (k a : Nat) (s : fs_S) (my cs : Int32) (w : Nat → Int32), a + k = 32 → ms_rel s my cs w → (∀ my' cs' w', ms_rel (fs_1 sh m pr k a s) my' cs' w' → tm_A (d + 4) 170 77 [some (.ref 89), o1, some (.int (nI 32)), o3, o4] [] (G, tp_ms I my' cs' w', J, R) K) → tm_A (d + 4) 170 57 [some (.ref 89), o1, some (.int (nI a)), o3, o4] [] (G, tp_ms I my cs w, J, R) K := by
  intro k
  induction k with
  | zero =>
    intro a s my cs w ha hr hK
    have : a = 32 := by omega
    subst this
    have hc : (32 : Int32) ≤ nI 32 := by decide
    rw [r170_57]
    simp only [r170_58, r170_60, hc, if_true]
    exact hK my cs w hr
  | succ k ih =>
    intro a s my cs w ha hr hK
    have hc : ¬ (32 : Int32) ≤ nI a := fun z => by
      have := (q_le (a := 32) (b := a) rfl rfl (by decide) (by omega)).mp z
      omega
    rw [r170_57]
    simp only [r170_58, r170_60, r170_63, r170_64, r170_65, r170_66, r170_67, r170_68, hc, if_false, sh_89 hS, tm_in, or_true, true_or, tm_cs0, tm_cs1, tm_cs2, tm_cs3, tm_cs4, true_and, and_true, and_self, Option.toList_some, Option.toList_none, List.cons_append, List.nil_append, tm_rf_some, tm_rf_none]
    refine m169 d _ hS hR hT (many := 1) (b := 0) (c := 0) (B := a) (C := a) ⟨by decide, by decide⟩ (by omega) (by decide) (by decide) (fun z => absurd z (by decide)) (fun z => absurd z (by decide)) (ms_1 sh a 0 0 m) hr (fun my' cs' w' hr' => ?_)
    simp only [r170_71, r170_74, nI_1, tm_in, or_true, true_or, tm_cs0, tm_cs1, tm_cs2, tm_cs3, tm_cs4, true_and, and_true, and_self, Option.toList_some, Option.toList_none, List.cons_append, List.nil_append, tm_rf_some, tm_rf_none]
    exact ih (a + 1) _ _ _ _ (by omega) hr' hK
theorem m170_2b (d : Nat) (K : Option Value → tm_H → Prop) (hS : tp_S G) (hR : tp_R R) (hT : ms_tab I sh m pr) {a : Nat} (ha : a < 32) (o1 o4 : Option Value) : ∀ (k b : Nat) (s : fs_S) (my cs : Int32) (w : Nat → Int32), b + k = 32 → ms_rel s my cs w → (∀ my' cs' w', ms_rel (fs_2b sh m pr a k b s) my' cs' w' → tm_A (d + 4) 170 109 [some (.ref 89), o1, some (.int (nI a)), some (.int (nI 32)), o4] [] (G, tp_ms I my' cs' w', J, R) K) → tm_A (d + 4) 170 89 [some (.ref 89), o1, some (.int (nI a)), some (.int (nI b)), o4] [] (G, tp_ms I my cs w, J, R) K := by
  intro k
  induction k with
  | zero =>
    intro b s my cs w hb hr hK
    have : b = 32 := by omega
    subst this
    have hc : (32 : Int32) ≤ nI 32 := by decide
    rw [r170_89]
    simp only [r170_90, r170_92, hc, if_true]
    exact hK my cs w hr
  | succ k ih =>
    intro b s my cs w hb hr hK
    have hc : ¬ (32 : Int32) ≤ nI b := fun z => by
      have := (q_le (a := 32) (b := b) rfl rfl (by decide) (by omega)).mp z
      omega
    rw [r170_89]
    simp only [r170_90, r170_92, r170_95, r170_96, r170_97, r170_98, r170_99, r170_100, hc, if_false, sh_89 hS, tm_in, or_true, true_or, tm_cs0, tm_cs1, tm_cs2, tm_cs3, tm_cs4, true_and, and_true, and_self, Option.toList_some, Option.toList_none, List.cons_append, List.nil_append, tm_rf_some, tm_rf_none]
    refine m169 d _ hS hR hT (many := 2) (c := 0) (B := b) (C := b) ⟨by decide, by decide⟩ ha (by omega) (by decide) (fun _ => rfl) (fun z => absurd z (by decide)) (ms_2 sh a b 0 m) hr (fun my' cs' w' hr' => ?_)
    simp only [r170_103, r170_106, nI_1, tm_in, or_true, true_or, tm_cs0, tm_cs1, tm_cs2, tm_cs3, tm_cs4, true_and, and_true, and_self, Option.toList_some, Option.toList_none, List.cons_append, List.nil_append, tm_rf_some, tm_rf_none]
    exact ih (b + 1) _ _ _ _ (by omega) hr' hK
theorem m170_2 (d : Nat) (K : Option Value → tm_H → Prop) (hS : tp_S G) (hR : tp_R R) (hT : ms_tab I sh m pr) (o1 o4 : Option Value) : ∀ (k a : Nat) (s : fs_S) (my cs : Int32) (w : Nat → Int32) (o3 : Option Value), a + k = 32 → ms_rel s my cs w → (∀ my' cs' w' o3', ms_rel (fs_2 sh m pr k a s) my' cs' w' → tm_A (d + 4) 170 115 [some (.ref 89), o1, some (.int (nI 32)), o3', o4] [] (G, tp_ms I my' cs' w', J, R) K) → tm_A (d + 4) 170 79 [some (.ref 89), o1, some (.int (nI a)), o3, o4] [] (G, tp_ms I my cs w, J, R) K := by
  intro k
  induction k with
  | zero =>
    intro a s my cs w o3 ha hr hK
    have : a = 32 := by omega
    subst this
    have hc : (32 : Int32) ≤ nI 32 := by decide
    rw [r170_79]
    simp only [r170_80, r170_82, hc, if_true]
    exact hK my cs w o3 hr
  | succ k ih =>
    intro a s my cs w o3 ha hr hK
    have hc : ¬ (32 : Int32) ≤ nI a := fun z => by
      have := (q_le (a := 32) (b := a) rfl rfl (by decide) (by omega)).mp z
      omega
    rw [r170_79]
    simp only [r170_80, r170_82, r170_85, r170_86, r170_87, r170_88, hc, if_false, nI_1]
    refine m170_2b d K hS hR hT (show a < 32 by omega) o1 o4 (31 - a) (a + 1) s my cs w (by omega) hr (fun my' cs' w' hr' => ?_)
    simp only [r170_109, r170_112, nI_1]
    exact ih (a + 1) _ _ _ _ _ (by omega) hr' hK
theorem m170_3c (d : Nat) (K : Option Value → tm_H → Prop) (hS : tp_S G) (hR : tp_R R) (hT : ms_tab I sh m pr) {a b : Nat} (ha : a < 32) (hb : b < 32) (o1 : Option Value) : ∀ (k c : Nat) (s : fs_S) (my cs : Int32) (w : Nat → Int32), c + k = 32 → ms_rel s my cs w → (∀ my' cs' w', ms_rel (fs_3c sh m pr a b k c s) my' cs' w' → tm_A (d + 4) 170 160 [some (.ref 89), o1, some (.int (nI a)), some (.int (nI b)), some (.int (nI 32))] [] (G, tp_ms I my' cs' w', J, R) K) → tm_A (d + 4) 170 138 [some (.ref 89), o1, some (.int (nI a)), some (.int (nI b)), some (.int (nI c))] [] (G, tp_ms I my cs w, J, R) K := by
  intro k
  induction k with
  | zero =>
    intro c s my cs w hcc hr hK
    have : c = 32 := by omega
    subst this
    have hc : (32 : Int32) ≤ nI 32 := by decide
    rw [r170_138]
    simp only [r170_140, r170_142, hc, if_true]
    exact hK my cs w hr
  | succ k ih =>
    intro c s my cs w hcc hr hK
    have hc : ¬ (32 : Int32) ≤ nI c := fun z => by
      have := (q_le (a := 32) (b := c) rfl rfl (by decide) (by omega)).mp z
      omega
    rw [r170_138]
    simp only [r170_140, r170_142, r170_145, r170_146, r170_147, r170_148, r170_150, r170_151, hc, if_false, sh_89 hS, tm_in, or_true, true_or, tm_cs0, tm_cs1, tm_cs2, tm_cs3, tm_cs4, true_and, and_true, and_self, Option.toList_some, Option.toList_none, List.cons_append, List.nil_append, tm_rf_some, tm_rf_none]
    refine m169 d _ hS hR hT (many := 3) (B := b) (C := c) ⟨by decide, by decide⟩ ha hb (by omega) (fun _ => rfl) (fun _ => rfl) (ms_3 sh a b c m) hr (fun my' cs' w' hr' => ?_)
    simp only [r170_154, r170_157, nI_1, tm_in, or_true, true_or, tm_cs0, tm_cs1, tm_cs2, tm_cs3, tm_cs4, true_and, and_true, and_self, Option.toList_some, Option.toList_none, List.cons_append, List.nil_append, tm_rf_some, tm_rf_none]
    exact ih (c + 1) _ _ _ _ (by omega) hr' hK
theorem m170_3b (d : Nat) (K : Option Value → tm_H → Prop) (hS : tp_S G) (hR : tp_R R) (hT : ms_tab I sh m pr) {a : Nat} (ha : a < 32) (o1 : Option Value) : ∀ (k b : Nat) (s : fs_S) (my cs : Int32) (w : Nat → Int32) (o4 : Option Value), b + k = 32 → ms_rel s my cs w → (∀ my' cs' w' o4', ms_rel (fs_3b sh m pr a k b s) my' cs' w' → tm_A (d + 4) 170 166 [some (.ref 89), o1, some (.int (nI a)), some (.int (nI 32)), o4'] [] (G, tp_ms I my' cs' w', J, R) K) → tm_A (d + 4) 170 127 [some (.ref 89), o1, some (.int (nI a)), some (.int (nI b)), o4] [] (G, tp_ms I my cs w, J, R) K := by
  intro k
  induction k with
  | zero =>
    intro b s my cs w o4 hb hr hK
    have : b = 32 := by omega
    subst this
    have hc : (32 : Int32) ≤ nI 32 := by decide
    rw [r170_127]
    simp only [r170_128, r170_130, hc, if_true]
    exact hK my cs w o4 hr
  | succ k ih =>
    intro b s my cs w o4 hb hr hK
    have hc : ¬ (32 : Int32) ≤ nI b := fun z => by
      have := (q_le (a := 32) (b := b) rfl rfl (by decide) (by omega)).mp z
      omega
    rw [r170_127]
    simp only [r170_128, r170_130, r170_133, r170_134, r170_135, r170_136, hc, if_false, nI_1]
    refine m170_3c d K hS hR hT ha (show b < 32 by omega) o1 (31 - b) (b + 1) s my cs w (by omega) hr (fun my' cs' w' hr' => ?_)
    simp only [r170_160, r170_163, nI_1]
    exact ih (b + 1) _ _ _ _ _ (by omega) hr' hK
theorem m170_3 (d : Nat) (K : Option Value → tm_H → Prop) (hS : tp_S G) (hR : tp_R R) (hT : ms_tab I sh m pr) (o1 : Option Value) : ∀ (k a : Nat) (s : fs_S) (my cs : Int32) (w : Nat → Int32) (o3 o4 : Option Value), a + k = 32 → ms_rel s my cs w → (∀ my' cs' w', ms_rel (fs_3 sh m pr k a s) my' cs' w' → K none (G, tp_ms I my' cs' w', J, R)) → tm_A (d + 4) 170 117 [some (.ref 89), o1, some (.int (nI a)), o3, o4] [] (G, tp_ms I my cs w, J, R) K := by
  intro k
  induction k with
  | zero =>
    intro a s my cs w o3 o4 ha hr hK
    have : a = 32 := by omega
    subst this
    have hc : (32 : Int32) ≤ nI 32 := by decide
    rw [r170_117]
    simp only [r170_118, r170_120, r170_172, hc, if_true]
    exact hK my cs w hr
  | succ k ih =>
    intro a s my cs w o3 o4 ha hr hK
    have hc : ¬ (32 : Int32) ≤ nI a := fun z => by
      have := (q_le (a := 32) (b := a) rfl rfl (by decide) (by omega)).mp z
      omega
    rw [r170_117]
    simp only [r170_118, r170_120, r170_123, r170_124, r170_125, r170_126, hc, if_false, nI_1]
    refine m170_3b d K hS hR hT (show a < 32 by omega) o1 (31 - a) (a + 1) s my cs w _ (by omega) hr (fun my' cs' w' o4' hr' => ?_)
    simp only [r170_166, r170_169, nI_1]
    exact ih (a + 1) _ _ _ _ _ _ (by omega) hr' hK
theorem m170_s (d : Nat) (K : Option Value → tm_H → Prop) (o1 o3 o4 : Option Value) : ∀ (k i : Nat) (I : Nat → Nat → Int32), i + k = m → kw G I R nw rp ch n oc pr tl fa ro dy rd q m → (∀ r, r < i → I 110 r = I (16 + 3 * r) 0) → (∀ I', kw G I' R nw rp ch n oc pr tl fa ro dy rd q m → (∀ b, b ≠ 110 → I' b = I b) → (∀ r, r < m → I' 110 r = I' (16 + 3 * r) 0) → tm_A (d + 4) 170 55 [some (.ref 89), o1, some (.int (nI m)), o3, o4] [] (G, I', J, R) K) → tm_A (d + 4) 170 25 [some (.ref 89), o1, some (.int (nI i)), o3, o4] [] (G, I, J, R) K := by
  intro k
  induction k with
  | zero =>
    intro i I hi h hr hK
    have : i = m := by omega
    subst this
    have hS := h.1.1
    have hc : nI i ≤ nI i := Int32.le_refl _
    rw [r170_25]
    simp only [r170_26, r170_27, r170_30, sh_89 hS, h.2.2.2.1, hc, if_true, tm_in, or_true, true_or, tm_cs0, tm_cs1, tm_cs2, tm_cs3, tm_cs4, true_and, and_true, and_self, Option.toList_some, Option.toList_none, List.cons_append, List.nil_append, tm_rf_some, tm_rf_none]
    exact hK I h (fun _ _ => rfl) hr
  | succ k ih =>
    intro i I hi h hr hK
    have hS := h.1.1
    have hR := h.1.2.1
    have hm := h.2.2.1
    have hc : ¬ nI m ≤ nI i := fun z => by
      have := (q_le (a := m) (b := i) rfl rfl (by omega) (by omega)).mp z
      omega
    have i1 : tm_in (nI i) 10 := q_in (by omega) (by decide)
    rw [r170_25]
    simp only [r170_26, r170_27, r170_30, r170_33, r170_34, r170_37, r170_38, r170_39, r170_40, r170_43, r170_44, r170_45, r170_48, r170_49, r170_52, sh_89 hS, sh_105 hS, sh_110 hS, rf_89_27 hR, rf_89_35 hR, h.2.2.2.1, hc, if_false, i1, q_ix (show i < 2147483648 by omega), h.2.2.2.2.1 i (by omega), m165 _ _ h (show i < m by omega), nI_1, show 3 ≤ 110 by decide, tm_in, or_true, true_or, tm_cs0, tm_cs1, tm_cs2, tm_cs3, tm_cs4, true_and, and_true, and_self, Option.toList_some, Option.toList_none, List.cons_append, List.nil_append, tm_rf_some, tm_rf_none]
    refine ih (i + 1) _ (by omega) (kw_keep h (fun b k hs => ?_) (up2_row (by decide)) (up2_row (by decide)) (by rw [up2_row (by decide)])) (fun r hr2 => ?_) (fun I' h1 h2 h3 => hK I' h1 (fun b hb => by rw [h2 b hb, up2_row hb]) h3)
    · rw [up2_row (by unfold scr at hs; omega)]
    · rw [up2_row (show 16 + 3 * r ≠ 110 by omega)]
      by_cases e : r = i
      · subst e; rw [up2_at]
      · rw [up2_ne e]
        exact hr r (by omega)
theorem fs_all_3 (sh : Nat → Nat) (m pr : Nat) : (fs_all sh m pr).1 ≤ 3 := by
  have st : ∀ many a b c s, many ≤ 3 → (s : fs_S).1 ≤ 3 → (fs_st sh m pr many a b c s).1 ≤ 3 := fun many a b c s h h2 => by
    unfold fs_st
    split
    · exact h
    · exact h2
  have a1 : ∀ k a s, (s : fs_S).1 ≤ 3 → (fs_1 sh m pr k a s).1 ≤ 3 := by
    intro k
    induction k with
    | zero => intro a s h; exact h
    | succ k ih => intro a s h; rw [fs_1]; exact ih _ _ (st _ _ _ _ _ (by decide) h)
  have a2b : ∀ a k b s, (s : fs_S).1 ≤ 3 → (fs_2b sh m pr a k b s).1 ≤ 3 := by
    intro a k
    induction k with
    | zero => intro b s h; exact h
    | succ k ih => intro b s h; rw [fs_2b]; exact ih _ _ (st _ _ _ _ _ (by decide) h)
  have a2 : ∀ k a s, (s : fs_S).1 ≤ 3 → (fs_2 sh m pr k a s).1 ≤ 3 := by
    intro k
    induction k with
    | zero => intro a s h; exact h
    | succ k ih => intro a s h; rw [fs_2]; exact ih _ _ (a2b _ _ _ _ h)
  have a3c : ∀ a b k c s, (s : fs_S).1 ≤ 3 → (fs_3c sh m pr a b k c s).1 ≤ 3 := by
    intro a b k
    induction k with
    | zero => intro c s h; exact h
    | succ k ih => intro c s h; rw [fs_3c]; exact ih _ _ (st _ _ _ _ _ (by decide) h)
  have a3b : ∀ a k b s, (s : fs_S).1 ≤ 3 → (fs_3b sh m pr a k b s).1 ≤ 3 := by
    intro a k
    induction k with
    | zero => intro b s h; exact h
    | succ k ih => intro b s h; rw [fs_3b]; exact ih _ _ (a3c _ _ _ _ _ h)
  have a3 : ∀ k a s, (s : fs_S).1 ≤ 3 → (fs_3 sh m pr k a s).1 ≤ 3 := by
    intro k
    induction k with
    | zero => intro a s h; exact h
    | succ k ih => intro a s h; rw [fs_3]; exact ih _ _ (a3b _ _ _ _ h)
  unfold fs_all
  split
  · exact Nat.zero_le 3
  · exact a3 _ _ _ (a2 _ _ _ (a1 _ _ _ (by decide)))
theorem m170 (d : Nat) (K : Option Value → tm_H → Prop) (hb : iv_b G I R nw rp ch n oc pr tl fa ro dy rd) (hq : q ≤ nw) (hm : m ≤ 10) (hk : iv_kn I rp (rp + ch) fa rd q m) (hK : ∀ I', (∀ b k, ¬ scr b k → I' b k = I b k) → I' 89 37 = nI (fs_all (ck_s I) m pr).1 → I' 89 38 = nI (fs_all (ck_s I) m pr).2.1 → fs_row (I' 111) (fs_all (ck_s I) m pr) → K none (G, I', J, R)) : tm_R (d + 4) 170 [.ref 89, .int (nI q)] (G, I, J, R) K := by
  have hS := hb.1
  have hR := hb.2.1
  have s7 := hb.2.2.2.1.2.2.2.2.2.2
  rw [e170]
  simp only [r170_0, r170_1, r170_2, sh_89 hS, tm_in, or_true, true_or, tm_cs0, tm_cs1, tm_cs2, tm_cs3, tm_cs4, true_and, and_true, and_self, Option.toList_some, Option.toList_none, List.cons_append, List.nil_append, tm_rf_some, tm_rf_none]
  refine m139k (d + 2) _ hb hq hm hk (fun I1 hw he => ?_)
  simp only [r170_5, r170_6, r170_7, r170_10, r170_11, r170_12, r170_15, r170_16, sh_89 hS, tm_in, or_true, true_or, tm_cs0, tm_cs1, tm_cs2, tm_cs3, tm_cs4, true_and, and_true, and_self, Option.toList_some, Option.toList_none, List.cons_append, List.nil_append, tm_rf_some, tm_rf_none]
  have e26 : up2 (up2 I1 89 37 0) 89 38 0 89 26 = nI m := by rw [up2_ne (by decide), up2_ne (by decide)]; exact hw.2.2.2.1
  have escr : ∀ b k, ¬ scr b k → up2 (up2 I1 89 37 0) 89 38 0 b k = I1 b k := fun b k h => by
    unfold scr at h
    by_cases hb9 : b = 89
    · subst hb9
      rw [up2_ne (by omega), up2_ne (by omega)]
    · rw [up2_row hb9, up2_row hb9]
  have hw2 := kw_keep (I' := up2 (up2 I1 89 37 0) 89 38 0) hw escr (by rw [up2_row (by decide), up2_row (by decide)]) (by rw [up2_row (by decide), up2_row (by decide)]) (by rw [up2_ne (by decide), up2_ne (by decide)])
  generalize hX : up2 (up2 I1 89 37 0) 89 38 0 = X at *
  have x37 : X 89 37 = 0 := by rw [← hX, up2_ne (by decide), up2_at]
  have x38 : X 89 38 = 0 := by rw [← hX, up2_at]
  rw [e26]
  by_cases h0 : m = 0
  · subst h0
    simp only [r170_19, r170_22, show nI 0 = 0 from rfl, not_true, if_false]
    refine hK X (fun b k h => by rw [escr b k h]; exact he b k h) x37 x38 ?_
    have e : fs_all (ck_s I) 0 pr = (0, 0, 0, 0, 0) := rfl
    rw [e]
    exact ⟨fun z => absurd z (by decide), fun z => absurd z (by decide), fun z => absurd z (by decide)⟩
  · have hne : ¬ nI m = 0 := nI_ne0 (by omega) (by omega)
    have hall : fs_all (ck_s I) m pr = fs_3 (ck_s I) m pr 31 1 (fs_2 (ck_s I) m pr 31 1 (fs_1 (ck_s I) m pr 31 1 (0, 0, 0, 0, 0))) := by
      unfold fs_all
      rw [if_neg h0]
    rw [hall] at hK
    simp only [r170_19, r170_22, r170_23, r170_24, hne, not_false_eq_true, if_true]
    rw [← nI_0]
    refine m170_s d K _ _ _ m 0 X (by omega) hw2 (fun r hr => by omega) (fun I2 h2 h2o h2s => ?_)
    simp only [r170_55, r170_56]
    have i2s : ∀ b k, ¬ scr b k → I2 b k = I b k := fun b k h => by
      rw [h2o b (by unfold scr at h; omega), escr b k h]
      exact he b k h
    have hT : ms_tab I2 (ck_s I) m pr := by
      refine ⟨h2.2.2.2.1, hm, ?_, s7.2.2, fun r hr => ?_⟩
      · rw [i2s 89 4 (by unfold scr; omega)]; exact s7.2.1
      · rw [h2s r hr, scr_row i2s (b := 16 + 3 * r) (by omega)]
        exact ck_s_nI (fun k a b => hk.2.2.2.2 r k (by omega) a b)
    have es : I2 = tp_ms I2 0 0 (I2 111) := by
      have z1 : I2 89 37 = 0 := by rw [h2o 89 (by decide)]; exact x37
      have z2 : I2 89 38 = 0 := by rw [h2o 89 (by decide)]; exact x38
      have := ms_self (I := I2)
      rw [z1, z2] at this
      exact this.symm
    have hr0 : ms_rel (0, 0, 0, 0, 0) 0 0 (I2 111) := ⟨rfl, by decide, rfl, ⟨fun z => absurd z (by decide), fun z => absurd z (by decide), fun z => absurd z (by decide)⟩, by decide⟩
    generalize hw0 : I2 111 = w0 at es hr0
    rw [es]
    refine m170_1 d K hS hR hT _ _ _ 31 1 _ _ _ _ (by decide) hr0 (fun my1 cs1 w1 hr1 => ?_)
    simp only [r170_77, r170_78]
    refine m170_2 d K hS hR hT _ _ 31 1 _ _ _ _ _ (by decide) hr1 (fun my2 cs2 w2 o3 hr2 => ?_)
    simp only [r170_115, r170_116]
    refine m170_3 d K hS hR hT _ 31 1 _ _ _ _ _ _ (by decide) hr2 (fun my3 cs3 w3 hr3 => ?_)
    obtain ⟨z1, z2, z3, z4, z5⟩ := hr3
    exact hK _ (fun b k h => by rw [ms_scr h]; exact i2s b k h) (by rw [ms_37]; exact z1) (by rw [ms_38]; exact z3) (by rw [ms_111]; exact z4)
theorem c106 (d : Nat) (x y : Int32) (K : Option Value → tm_H → Prop) (hp : iv_p G I J R nw rp ch n oc pr tl fa ro dy rd) (h0 : ¬ tm_in y (nw + 1) → K (some (.int (-1))) (G, I, J, R)) (h1 : ∀ q m I1, q ≤ nw → y = nI q → m ≤ 10 → iv_b G I1 R nw rp ch n oc pr tl fa ro dy rd → iv_c I1 J rp ch oc pr fa rd q m → iv_fs I1 m pr → K (some (.int (if tm_in x (fs_all (ck_s I1) m pr).1 then I1 88 (tm_ix x) else -1))) (G, I1, J, R)) : tm_R (d + 7) 106 [.ref 3, .int x, .int y] (G, I, J, R) K := by
  obtain ⟨hS, hR, -⟩ := hp.1
  rw [e106]
  simp only [r106_0, r106_1, r106_2, sh_3 hS, tm_in, or_true, true_or, tm_cs0, tm_cs1, tm_cs2, tm_cs3, tm_cs4, true_and, and_true, and_self, Option.toList_some, Option.toList_none, List.cons_append, List.nil_append, tm_rf_some, tm_rf_none]
  refine c111i d y _ hp (fun h => ?_) (fun q m I1 hq e hm hb hc hf => ?_)
  · simp only [r106_5, r106_19, r106_20, if_true, tm_in, or_true, true_or, tm_cs0, tm_cs1, tm_cs2, tm_cs3, tm_cs4, true_and, and_true, and_self, Option.toList_some, Option.toList_none, List.cons_append, List.nil_append, tm_rf_some, tm_rf_none]
    exact h0 h
  · have hk := h1 q m I1 hq e hm hb hc hf
    have h3 := fs_all_3 (ck_s I1) m pr
    have hx : (0 ≤ x ∧ x < I1 76 2) ↔ tm_in x (fs_all (ck_s I1) m pr).1 := q_inI hf.1 (by omega)
    have c20 : ∀ d K', tm_R d 20 [.ref 76, .int x] (G, I1, J, R) K' ↔ K' (some (.int (if tm_in x (fs_all (ck_s I1) m pr).1 then I1 88 (tm_ix x) else -1))) (G, I1, J, R) := fun d K' => by
      rw [e20]
      by_cases hh : tm_in x (fs_all (ck_s I1) m pr).1
      · have g := hx.mpr hh
        have hi : tm_in x 3 := ⟨hh.1, by have := hh.2; omega⟩
        have g3 := (q_inI (x := x) (N := 3) (n := 3) rfl (by decide)).mpr hi
        have n1 : ¬ x < 0 := Int32.not_lt.mpr g.1
        have n2 : ¬ I1 76 2 ≤ x := Int32.not_le.mpr g.2
        have n3 : ¬ (3 : Int32) ≤ x := Int32.not_le.mpr g3.2
        rw [if_pos hh]
        simp only [r20_0, r20_1, r20_4, r20_5, r20_6, r20_9, r20_12, r20_13, r20_14, r20_17, r20_18, r20_21, r20_22, r20_23, r20_26, r20_27, sh_76 hS, sh_88 hS, rf_76_1 hR, n1, n2, n3, hi, if_false, tm_in, or_true, true_or, tm_cs0, tm_cs1, tm_cs2, tm_cs3, tm_cs4, true_and, and_true, and_self, Option.toList_some, Option.toList_none, List.cons_append, List.nil_append, tm_rf_some, tm_rf_none]
      · rw [if_neg hh]
        have g : ¬ (0 ≤ x ∧ x < I1 76 2) := fun z => hh (hx.mp z)
        simp only [r20_0, r20_1, r20_4, r20_5, r20_6, r20_9, r20_12, r20_13, r20_14, r20_26, r20_27, sh_76 hS, tm_in, or_true, true_or, tm_cs0, tm_cs1, tm_cs2, tm_cs3, tm_cs4, true_and, and_true, and_self, Option.toList_some, Option.toList_none, List.cons_append, List.nil_append, tm_rf_some, tm_rf_none]
        by_cases n1 : x < 0
        · simp only [n1, if_true]
        · have n2 : I1 76 2 ≤ x := Int32.not_lt.mp (fun z => g ⟨Int32.not_lt.mp n1, z⟩)
          simp only [n1, n2, if_true, if_false]
    simp only [r106_5, r106_8, r106_9, r106_12, r106_13, r106_16, r106_19, r106_20, show ¬ (1 : Int32) = 0 by decide, if_false, sh_3 hS, sh_76 hS, rf_3_6 hR, c20, tm_in, or_true, true_or, tm_cs0, tm_cs1, tm_cs2, tm_cs3, tm_cs4, true_and, and_true, and_self, Option.toList_some, Option.toList_none, List.cons_append, List.nil_append, tm_rf_some, tm_rf_none]
    exact hk
theorem c107 (d : Nat) (y : Int32) (K : Option Value → tm_H → Prop) (hp : iv_p G I J R nw rp ch n oc pr tl fa ro dy rd) (h0 : ¬ tm_in y (nw + 1) → K (some (.int (-1))) (G, I, J, R)) (h1 : ∀ q m I1, q ≤ nw → y = nI q → m ≤ 10 → iv_b G I1 R nw rp ch n oc pr tl fa ro dy rd → iv_c I1 J rp ch oc pr fa rd q m → iv_fs I1 m pr → K (some (.int (I1 76 3))) (G, I1, J, R)) : tm_R (d + 7) 107 [.ref 3, .int y] (G, I, J, R) K := by
  obtain ⟨hS, hR, -⟩ := hp.1
  rw [e107]
  simp only [r107_0, r107_1, r107_2, sh_3 hS, tm_in, or_true, true_or, tm_cs0, tm_cs1, tm_cs2, tm_cs3, tm_cs4, true_and, and_true, and_self, Option.toList_some, Option.toList_none, List.cons_append, List.nil_append, tm_rf_some, tm_rf_none]
  refine c111i d y _ hp (fun h => ?_) (fun q m I1 hq e hm hb hc hf => ?_)
  · simp only [r107_5, r107_18, r107_19, if_true, tm_in, or_true, true_or, tm_cs0, tm_cs1, tm_cs2, tm_cs3, tm_cs4, true_and, and_true, and_self, Option.toList_some, Option.toList_none, List.cons_append, List.nil_append, tm_rf_some, tm_rf_none]
    exact h0 h
  · have c21 : ∀ d K', tm_R d 21 [.ref 76] (G, I1, J, R) K' ↔ K' (some (.int (I1 76 3))) (G, I1, J, R) := fun d K' => by
      rw [e21]
      simp only [r21_0, r21_1, r21_4, sh_76 hS, tm_in, or_true, true_or, tm_cs0, tm_cs1, tm_cs2, tm_cs3, tm_cs4, true_and, and_true, and_self, Option.toList_some, Option.toList_none, List.cons_append, List.nil_append, tm_rf_some, tm_rf_none]
    simp only [r107_5, r107_8, r107_9, r107_12, r107_15, r107_18, r107_19, show ¬ (1 : Int32) = 0 by decide, if_false, sh_3 hS, sh_76 hS, rf_3_6 hR, c21, tm_in, or_true, true_or, tm_cs0, tm_cs1, tm_cs2, tm_cs3, tm_cs4, true_and, and_true, and_self, Option.toList_some, Option.toList_none, List.cons_append, List.nil_append, tm_rf_some, tm_rf_none]
    exact h1 q m I1 hq e hm hb hc hf
theorem m171n (d : Nat) (x y : Int32) (K : Option Value → tm_H → Prop) (hp : iv_p G I J R nw rp ch n oc pr tl fa ro dy rd) (hy : ¬ tm_in y (nw + 1)) : tm_R (d + 1) 171 [.ref 89, .int x, .int y] (G, I, J, R) K ↔ K (some (.int (-1))) (G, I, J, R) := by
  obtain ⟨b1, b2, b3, b4, -⟩ := hp.1
  have hnw := b4.1.2.2
  have hq : (0 ≤ y ∧ y ≤ I 89 0) ↔ tm_in y (nw + 1) := q_inI2 b4.1.2.1 (by omega)
  rw [e171]
  simp only [r171_0, r171_1, r171_2, r171_3, r171_6, r171_9, r171_12, r171_13, sh_89 b1, m117, hq, hy, if_false, not_true, tm_in, or_true, true_or, tm_cs0, tm_cs1, tm_cs2, tm_cs3, tm_cs4, true_and, and_true, and_self, Option.toList_some, Option.toList_none, List.cons_append, List.nil_append, tm_rf_some, tm_rf_none]
theorem m172n (d : Nat) (y : Int32) (K : Option Value → tm_H → Prop) (hp : iv_p G I J R nw rp ch n oc pr tl fa ro dy rd) (hy : ¬ tm_in y (nw + 1)) : tm_R (d + 1) 172 [.ref 89, .int y] (G, I, J, R) K ↔ K (some (.int (-1))) (G, I, J, R) := by
  obtain ⟨b1, b2, b3, b4, -⟩ := hp.1
  have hnw := b4.1.2.2
  have hq : (0 ≤ y ∧ y ≤ I 89 0) ↔ tm_in y (nw + 1) := q_inI2 b4.1.2.1 (by omega)
  rw [e172]
  simp only [r172_0, r172_1, r172_2, r172_3, r172_6, r172_9, r172_12, r172_13, sh_89 b1, m117, hq, hy, if_false, not_true, tm_in, or_true, true_or, tm_cs0, tm_cs1, tm_cs2, tm_cs3, tm_cs4, true_and, and_true, and_self, Option.toList_some, Option.toList_none, List.cons_append, List.nil_append, tm_rf_some, tm_rf_none]
theorem m171 (d : Nat) (x : Int32) (K : Option Value → tm_H → Prop) (hb : iv_b G I R nw rp ch n oc pr tl fa ro dy rd) (hq : q ≤ nw) (hm : m ≤ 10) (hk : iv_kn I rp (rp + ch) fa rd q m) (hK : ∀ I' w, (∀ b k, ¬ scr b k → I' b k = I b k) → fs_row w (fs_all (ck_s I) m pr) → K (some (.int (if tm_in x (fs_all (ck_s I) m pr).1 then w (tm_ix x) else -1))) (G, I', J, R)) : tm_R (d + 5) 171 [.ref 89, .int x, .int (nI q)] (G, I, J, R) K := by
  have hS := hb.1
  have hR := hb.2.1
  have b4 := hb.2.2.2.1
  have hnw := b4.1.2.2
  have hqq : (0 ≤ nI q ∧ nI q ≤ I 89 0) ↔ tm_in (nI q) (nw + 1) := q_inI2 b4.1.2.1 (by omega)
  have hq1 : tm_in (nI q) (nw + 1) := q_in (by omega) (by omega)
  rw [e171]
  simp only [r171_0, r171_1, r171_2, r171_3, r171_6, r171_9, r171_12, r171_13, r171_14, r171_15, r171_16, sh_89 hS, m117, hqq, hq1, if_true, show ¬ (1 : Int32) = 0 by decide, not_false_eq_true, tm_in, or_true, true_or, tm_cs0, tm_cs1, tm_cs2, tm_cs3, tm_cs4, true_and, and_true, and_self, Option.toList_some, Option.toList_none, List.cons_append, List.nil_append, tm_rf_some, tm_rf_none]
  refine m170 d _ hb hq hm hk (fun I' he e37 e38 e111 => ?_)
  have h3 := fs_all_3 (ck_s I) m pr
  have hx : (0 ≤ x ∧ x ≤ I' 89 37 - 1) ↔ tm_in x (fs_all (ck_s I) m pr).1 := q_inI3 e37 (by omega)
  have hk' := hK I' (I' 111) he e111
  simp only [r171_19, r171_20, r171_21, r171_22, r171_25, r171_26, r171_27, r171_30, sh_89 hS, m117, hx, tm_in, or_true, true_or, tm_cs0, tm_cs1, tm_cs2, tm_cs3, tm_cs4, true_and, and_true, and_self, Option.toList_some, Option.toList_none, List.cons_append, List.nil_append, tm_rf_some, tm_rf_none]
  by_cases hh : tm_in x (fs_all (ck_s I) m pr).1
  · have hi : tm_in x 3 := ⟨hh.1, by have := hh.2; omega⟩
    rw [if_pos hh] at hk'
    rw [if_pos hh]
    simp only [show ¬ (1 : Int32) = 0 by decide, if_false, r171_33, r171_34, r171_37, r171_38, r171_39, r171_42, r171_43, sh_89 hS, sh_111 hS, rf_89_36 hR, hi, tm_in, or_true, true_or, tm_cs0, tm_cs1, tm_cs2, tm_cs3, tm_cs4, true_and, and_true, and_self, Option.toList_some, Option.toList_none, List.cons_append, List.nil_append, tm_rf_some, tm_rf_none]
    exact hk'
  · rw [if_neg hh] at hk'
    rw [if_neg hh]
    simp only [if_true, r171_42, r171_43]
    exact hk'
theorem m172 (d : Nat) (K : Option Value → tm_H → Prop) (hb : iv_b G I R nw rp ch n oc pr tl fa ro dy rd) (hq : q ≤ nw) (hm : m ≤ 10) (hk : iv_kn I rp (rp + ch) fa rd q m) (hK : ∀ I', (∀ b k, ¬ scr b k → I' b k = I b k) → K (some (.int (nI (fs_all (ck_s I) m pr).2.1))) (G, I', J, R)) : tm_R (d + 5) 172 [.ref 89, .int (nI q)] (G, I, J, R) K := by
  have hS := hb.1
  have b4 := hb.2.2.2.1
  have hnw := b4.1.2.2
  have hqq : (0 ≤ nI q ∧ nI q ≤ I 89 0) ↔ tm_in (nI q) (nw + 1) := q_inI2 b4.1.2.1 (by omega)
  have hq1 : tm_in (nI q) (nw + 1) := q_in (by omega) (by omega)
  rw [e172]
  simp only [r172_0, r172_1, r172_2, r172_3, r172_6, r172_9, r172_12, r172_13, r172_14, r172_15, r172_16, sh_89 hS, m117, hqq, hq1, if_true, show ¬ (1 : Int32) = 0 by decide, not_false_eq_true, tm_in, or_true, true_or, tm_cs0, tm_cs1, tm_cs2, tm_cs3, tm_cs4, true_and, and_true, and_self, Option.toList_some, Option.toList_none, List.cons_append, List.nil_append, tm_rf_some, tm_rf_none]
  refine m170 d _ hb hq hm hk (fun I' he e37 e38 e111 => ?_)
  simp only [r172_19, r172_20, r172_23, sh_89 hS, e38, tm_in, or_true, true_or, tm_cs0, tm_cs1, tm_cs2, tm_cs3, tm_cs4, true_and, and_true, and_self, Option.toList_some, Option.toList_none, List.cons_append, List.nil_append, tm_rf_some, tm_rf_none]
  exact hK I' he
theorem fs_row_eq {w w' : Nat → Int32} {s : fs_S} (h3 : s.1 ≤ 3) (h : fs_row w s) (h' : fs_row w' s) {x : Int32} (hx : tm_in x s.1) : w (tm_ix x) = w' (tm_ix x) := by
  have hq := q_of hx
  generalize tm_ix x = t at hq
  obtain ⟨rfl, ht⟩ := hq
  have : t = 0 ∨ t = 1 ∨ t = 2 := by omega
  rcases this with rfl | rfl | rfl
  · rw [h.1 ht, h'.1 ht]
  · rw [h.2.1 ht, h'.2.1 ht]
  · rw [h.2.2 ht, h'.2.2 ht]
theorem bo_form (d : Nat) (x y : Int32) (hi : iv (G, I, J, R)) : iv_both (d + 7) 106 171 [.int x, .int y] (G, I, J, R) := by
  have hi0 := hi
  obtain ⟨nw, rp, ch, n, oc, pr, tl, fa, ro, dy, rd, hp⟩ : ∃ (nw rp ch n oc pr : Nat) (tl fa ro dy rd : Nat → Nat), iv_p G I J R nw rp ch n oc pr tl fa ro dy rd := hi
  unfold iv_both
  refine c106 d x y _ hp (fun h => ?_) (fun q m I1 hq e hm hb hc hf => ?_)
  · rw [m171n (d + 6) x y _ hp h]
    exact iv_same _ hi0
  · subst e
    refine m171 (d + 2) x _ hb hq hm hc.2.1 (fun I' w he hw => ?_)
    have ee : (if tm_in x (fs_all (ck_s I1) m pr).1 then I1 88 (tm_ix x) else -1) = (if tm_in x (fs_all (ck_s I1) m pr).1 then w (tm_ix x) else -1) := by
      by_cases hh : tm_in x (fs_all (ck_s I1) m pr).1
      · rw [if_pos hh, if_pos hh, fs_row_eq (fs_all_3 _ _ _) hf.2.2 hw hh]
      · rw [if_neg hh, if_neg hh]
    rw [ee]
    exact iv_same _ (iv_of (iv_b_scr hb he) hq (iv_c_scr hb hm hc he rfl))
theorem bo_forms (d : Nat) (y : Int32) (hi : iv (G, I, J, R)) : iv_both (d + 7) 107 172 [.int y] (G, I, J, R) := by
  have hi0 := hi
  obtain ⟨nw, rp, ch, n, oc, pr, tl, fa, ro, dy, rd, hp⟩ : ∃ (nw rp ch n oc pr : Nat) (tl fa ro dy rd : Nat → Nat), iv_p G I J R nw rp ch n oc pr tl fa ro dy rd := hi
  unfold iv_both
  refine c107 d y _ hp (fun h => ?_) (fun q m I1 hq e hm hb hc hf => ?_)
  · rw [m172n (d + 6) y _ hp h]
    exact iv_same _ hi0
  · subst e
    refine m172 (d + 2) _ hb hq hm hc.2.1 (fun I' he => ?_)
    rw [hf.2.1]
    exact iv_same _ (iv_of (iv_b_scr hb he) hq (iv_c_scr hb hm hc he rfl))
end MF2
