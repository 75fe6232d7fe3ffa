/-! Forms: the class's loops. -/
section FR2
variable {G : tm_G} {I : Nat → Nat → Int32} {J : Nat → Nat → Int64} {R : Nat → Nat → Option Nat} {m pr : Nat} {sh : Nat → Nat}
theorem c19 (d : Nat) (K : Option Value → tm_H → Prop) (hS : tp_S G) (hR : tp_R R) (hT : fs_tab I sh m) {many a b c : Nat} (hpr : pr ≤ 50) (hmany : 1 ≤ many ∧ many ≤ 3) (ha : 1 ≤ a ∧ a < 32) (hb : 1 ≤ b ∧ b < 32) (hc : 1 ≤ c ∧ c < 32) {s : fs_S} {my cs : Int32} {w : Nat → Int32} (hr : fs_rel s my cs w) (hY : fs_rel (fs_st sh m pr many a b c s) (nI many) (nI (many * pr + fs_sum sh a b c m)) (fs_w w a b c) → K (some (.int 1)) (G, tp_fs I my (nI (many * pr + fs_sum sh a b c m)) (fs_w w a b c), J, R)) (hN : fs_rel (fs_st sh m pr many a b c s) my cs w → K (some (.int 0)) (G, tp_fs I my cs w, J, R)) : tm_R (d + 1) 19 [.ref 76, .int (nI (many * pr)), .int (nI a), .int (nI b), .int (nI c)] (G, tp_fs I my cs w, J, R) K := by
  have hmp : many * pr ≤ 150 := Nat.le_trans (Nat.mul_le_mul hmany.2 hpr) (by decide)
  have hr0 := hr
  obtain ⟨h1, h2, h3, h4⟩ := hr
  rw [e19]
  simp only [r19_0, r19_1, r19_3, r19_4]
  subst h2
  have hC : (if s.1 = 0 then 1000000 else s.2.1) ≤ 1000000 := by split <;> omega
  have := c19_l (G := G) (I := I) (J := J) (R := R) d K hS hR hT hmp hC ha hb hc (my := my) (w := w) (some (.int (nI (many * pr)))) m 0 (by omega)
  rw [nI_0] at this
  refine this.mpr ?_
  by_cases h : many * pr + fs_sum sh a b c m < if s.1 = 0 then 1000000 else s.2.1
  · rw [if_pos h]
    exact hY (fs_st_y hr0 hT.2.1 hpr hmany h)
  · rw [if_neg h]
    refine hN ?_
    rw [fs_st_n hT.2.1 hpr hmany h]
    exact hr0
theorem c16_l (d : Nat) (K : Option Value → tm_H → Prop) (hS : tp_S G) (hR : tp_R R) (hT : fs_tab I sh m) (hpr : pr ≤ 50) : ∀ (k a : Nat) (s : fs_S) (my cs : Int32) (w : Nat → Int32), a + k = 32 → 1 ≤ a → fs_rel s my cs w → (∀ my' cs' w', fs_rel (fs_1 sh m pr k a s) my' cs' w' → K none (G, tp_fs I my' cs' w', J, R)) → tm_A (d + 2) 16 2 [some (.ref 76), some (.int (nI (1 * pr))), some (.int (nI a))] [] (G, tp_fs I my cs w, J, R) K := by
  intro k
  induction k with
  | zero =>
    intro a s my cs w ha h1 hr hK
    have : a = 32 := by omega
    subst this
    have hc : (31 : Int32) < nI 32 := by decide
    rw [r16_2]
    simp only [r16_3, r16_5, r16_30, hc, if_true]
    exact hK my cs w hr
  | succ k ih =>
    intro a s my cs w ha h1 hr hK
    have hc : ¬ (31 : Int32) < nI a := fun z => by
      have := (q_lt (a := 31) (b := a) rfl rfl (by decide) (by omega)).mp z
      omega
    rw [r16_2]
    simp only [r16_3, r16_5, r16_8, r16_9, r16_10, r16_11, r16_12, r16_13, hc, if_false, sh_76 hS, tm_in, or_true, true_or, tm_cs0, tm_cs1, tm_cs2, tm_cs3, tm_cs4, true_and, and_true, and_self, Option.toList_some, Option.toList_none, List.cons_append, List.nil_append, tm_rf_some, tm_rf_none]
    refine c19 d _ hS hR hT hpr ⟨by decide, by decide⟩ ⟨h1, by omega⟩ ⟨h1, by omega⟩ ⟨h1, by omega⟩ hr (fun hy => ?_) (fun hn => ?_)
    · simp only [r16_16, r16_19, r16_20, r16_21, r16_24, r16_27, show ¬ (1 : Int32) = 0 by decide, if_false, sh_76 hS, fs_u2, nI_1, tm_in, or_true, true_or, tm_cs0, tm_cs1, tm_cs2, tm_cs3, tm_cs4, true_and, and_true, and_self, Option.toList_some, Option.toList_none, List.cons_append, List.nil_append, tm_rf_some, tm_rf_none]
      exact ih (a + 1) _ _ _ _ (by omega) (by omega) hy hK
    · simp only [r16_16, r16_19, r16_20, r16_21, r16_24, r16_27, if_true, nI_1, tm_in, or_true, true_or, tm_cs0, tm_cs1, tm_cs2, tm_cs3, tm_cs4, true_and, and_true, and_self, Option.toList_some, Option.toList_none, List.cons_append, List.nil_append, tm_rf_some, tm_rf_none]
      exact ih (a + 1) _ _ _ _ (by omega) (by omega) hn hK
theorem c17_in (d : Nat) (K : Option Value → tm_H → Prop) (hS : tp_S G) (hR : tp_R R) (hT : fs_tab I sh m) (hpr : pr ≤ 50) {a : Nat} (ha1 : 1 ≤ a) (ha2 : a < 32) : ∀ (k b : Nat) (s : fs_S) (my cs : Int32) (w : Nat → Int32), b + k = 32 → 1 ≤ b → fs_rel s my cs w → (∀ my' cs' w', fs_rel (fs_2b sh m pr a k b s) my' cs' w' → tm_A (d + 2) 17 40 [some (.ref 76), some (.int (nI (2 * pr))), some (.int (nI a)), some (.int (nI 32))] [] (G, tp_fs I my' cs' w', J, R) K) → tm_A (d + 2) 17 12 [some (.ref 76), some (.int (nI (2 * pr))), some (.int (nI a)), some (.int (nI b))] [] (G, tp_fs I my cs w, J, R) K := by
  intro k
  induction k with
  | zero =>
    intro b s my cs w ha h1 hr hK
    have : b = 32 := by omega
    subst this
    have hc : (31 : Int32) < nI 32 := by decide
    rw [r17_12]
    simp only [r17_13, r17_15, hc, if_true]
    exact hK my cs w hr
  | succ k ih =>
    intro b s my cs w ha h1 hr hK
    have hc : ¬ (31 : Int32) < nI b := fun z => by
      have := (q_lt (a := 31) (b := b) rfl rfl (by decide) (by omega)).mp z
      omega
    rw [r17_12]
    simp only [r17_13, r17_15, r17_18, r17_19, r17_20, r17_21, r17_22, r17_23, hc, if_false, sh_76 hS, tm_in, or_true, true_or, tm_cs0, tm_cs1, tm_cs2, tm_cs3, tm_cs4, true_and, and_true, and_self, Option.toList_some, Option.toList_none, List.cons_append, List.nil_append, tm_rf_some, tm_rf_none]
    refine c19 d _ hS hR hT hpr ⟨by decide, by decide⟩ ⟨ha1, ha2⟩ ⟨h1, by omega⟩ ⟨h1, by omega⟩ hr (fun hy => ?_) (fun hn => ?_)
    · simp only [r17_26, r17_29, r17_30, r17_31, r17_34, r17_37, show ¬ (1 : Int32) = 0 by decide, if_false, sh_76 hS, fs_u2, nI_1, tm_in, or_true, true_or, tm_cs0, tm_cs1, tm_cs2, tm_cs3, tm_cs4, true_and, and_true, and_self, Option.toList_some, Option.toList_none, List.cons_append, List.nil_append, tm_rf_some, tm_rf_none]
      exact ih (b + 1) _ _ _ _ (by omega) (by omega) hy hK
    · simp only [r17_26, r17_29, r17_30, r17_31, r17_34, r17_37, if_true, nI_1, tm_in, or_true, true_or, tm_cs0, tm_cs1, tm_cs2, tm_cs3, tm_cs4, true_and, and_true, and_self, Option.toList_some, Option.toList_none, List.cons_append, List.nil_append, tm_rf_some, tm_rf_none]
      exact ih (b + 1) _ _ _ _ (by omega) (by omega) hn hK
theorem c17_l (d : Nat) (K : Option Value → tm_H → Prop) (hS : tp_S G) (hR : tp_R R) (hT : fs_tab I sh m) (hpr : pr ≤ 50) : ∀ (k a : Nat) (s : fs_S) (my cs : Int32) (w : Nat → Int32) (o : Option Value), a + k = 32 → 1 ≤ a → fs_rel s my cs w → (∀ my' cs' w', fs_rel (fs_2 sh m pr k a s) my' cs' w' → K none (G, tp_fs I my' cs' w', J, R)) → tm_A (d + 2) 17 2 [some (.ref 76), some (.int (nI (2 * pr))), some (.int (nI a)), o] [] (G, tp_fs I my cs w, J, R) K := by
  intro k
  induction k with
  | zero =>
    intro a s my cs w o ha h1 hr hK
    have : a = 32 := by omega
    subst this
    have hc : (31 : Int32) < nI 32 := by decide
    rw [r17_2]
    simp only [r17_3, r17_5, r17_46, hc, if_true]
    exact hK my cs w hr
  | succ k ih =>
    intro a s my cs w o ha h1 hr hK
    have hc : ¬ (31 : Int32) < nI a := fun z => by
      have := (q_lt (a := 31) (b := a) rfl rfl (by decide) (by omega)).mp z
      omega
    rw [r17_2]
    simp only [r17_3, r17_5, r17_8, r17_9, r17_10, r17_11, hc, if_false, nI_1]
    refine c17_in d K hS hR hT hpr h1 (by omega) (31 - a) (a + 1) s my cs w (by omega) (by omega) hr (fun my' cs' w' hr' => ?_)
    simp only [r17_40, r17_43, nI_1]
    exact ih (a + 1) _ _ _ _ _ (by omega) (by omega) hr' hK
theorem c18_in (d : Nat) (K : Option Value → tm_H → Prop) (hS : tp_S G) (hR : tp_R R) (hT : fs_tab I sh m) (hpr : pr ≤ 50) {a b : Nat} (ha1 : 1 ≤ a) (ha2 : a < 32) (hb1 : 1 ≤ b) (hb2 : b < 32) : ∀ (k c : Nat) (s : fs_S) (my cs : Int32) (w : Nat → Int32), c + k = 32 → 1 ≤ c → fs_rel s my cs w → (∀ my' cs' w', fs_rel (fs_3c sh m pr a b k c s) my' cs' w' → tm_A (d + 2) 18 53 [some (.ref 76), some (.int (nI (3 * pr))), some (.int (nI a)), some (.int (nI b)), some (.int (nI 32))] [] (G, tp_fs I my' cs' w', J, R) K) → tm_A (d + 2) 18 23 [some (.ref 76), some (.int (nI (3 * pr))), some (.int (nI a)), some (.int (nI b)), some (.int (nI c))] [] (G, tp_fs I my cs w, J, R) K := by
  intro k
  induction k with
  | zero =>
    intro c s my cs w ha h1 hr hK
    have : c = 32 := by omega
    subst this
    have hc : (31 : Int32) < nI 32 := by decide
    rw [r18_23]
    simp only [r18_25, r18_27, hc, if_true]
    exact hK my cs w hr
  | succ k ih =>
    intro c s my cs w ha h1 hr hK
    have hc : ¬ (31 : Int32) < nI c := fun z => by
      have := (q_lt (a := 31) (b := c) rfl rfl (by decide) (by omega)).mp z
      omega
    rw [r18_23]
    simp only [r18_25, r18_27, r18_30, r18_31, r18_32, r18_33, r18_34, r18_36, hc, if_false, sh_76 hS, tm_in, or_true, true_or, tm_cs0, tm_cs1, tm_cs2, tm_cs3, tm_cs4, true_and, and_true, and_self, Option.toList_some, Option.toList_none, List.cons_append, List.nil_append, tm_rf_some, tm_rf_none]
    refine c19 d _ hS hR hT hpr ⟨by decide, by decide⟩ ⟨ha1, ha2⟩ ⟨hb1, hb2⟩ ⟨h1, by omega⟩ hr (fun hy => ?_) (fun hn => ?_)
    · simp only [r18_39, r18_42, r18_43, r18_44, r18_47, r18_50, show ¬ (1 : Int32) = 0 by decide, if_false, sh_76 hS, fs_u2, nI_1, tm_in, or_true, true_or, tm_cs0, tm_cs1, tm_cs2, tm_cs3, tm_cs4, true_and, and_true, and_self, Option.toList_some, Option.toList_none, List.cons_append, List.nil_append, tm_rf_some, tm_rf_none]
      exact ih (c + 1) _ _ _ _ (by omega) (by omega) hy hK
    · simp only [r18_39, r18_42, r18_43, r18_44, r18_47, r18_50, if_true, nI_1, tm_in, or_true, true_or, tm_cs0, tm_cs1, tm_cs2, tm_cs3, tm_cs4, true_and, and_true, and_self, Option.toList_some, Option.toList_none, List.cons_append, List.nil_append, tm_rf_some, tm_rf_none]
      exact ih (c + 1) _ _ _ _ (by omega) (by omega) hn hK
theorem c18_m (d : Nat) (K : Option Value → tm_H → Prop) (hS : tp_S G) (hR : tp_R R) (hT : fs_tab I sh m) (hpr : pr ≤ 50) {a : Nat} (ha1 : 1 ≤ a) (ha2 : a < 32) : ∀ (k b : Nat) (s : fs_S) (my cs : Int32) (w : Nat → Int32) (o : Option Value), b + k = 32 → 1 ≤ b → fs_rel s my cs w → (∀ my' cs' w' o', fs_rel (fs_3b sh m pr a k b s) my' cs' w' → tm_A (d + 2) 18 59 [some (.ref 76), some (.int (nI (3 * pr))), some (.int (nI a)), some (.int (nI 32)), o'] [] (G, tp_fs I my' cs' w', J, R) K) → tm_A (d + 2) 18 12 [some (.ref 76), some (.int (nI (3 * pr))), some (.int (nI a)), some (.int (nI b)), o] [] (G, tp_fs I my cs w, J, R) K := by
  intro k
  induction k with
  | zero =>
    intro b s my cs w o ha h1 hr hK
    have : b = 32 := by omega
    subst this
    have hc : (31 : Int32) < nI 32 := by decide
    rw [r18_12]
    simp only [r18_13, r18_15, hc, if_true]
    exact hK my cs w o hr
  | succ k ih =>
    intro b s my cs w o ha h1 hr hK
    have hc : ¬ (31 : Int32) < nI b := fun z => by
      have := (q_lt (a := 31) (b := b) rfl rfl (by decide) (by omega)).mp z
      omega
    rw [r18_12]
    simp only [r18_13, r18_15, r18_18, r18_19, r18_20, r18_21, hc, if_false, nI_1]
    refine c18_in d K hS hR hT hpr ha1 ha2 h1 (by omega) (31 - b) (b + 1) s my cs w (by omega) (by omega) hr (fun my' cs' w' hr' => ?_)
    simp only [r18_53, r18_56, nI_1]
    exact ih (b + 1) _ _ _ _ _ (by omega) (by omega) hr' hK
theorem c18_l (d : Nat) (K : Option Value → tm_H → Prop) (hS : tp_S G) (hR : tp_R R) (hT : fs_tab I sh m) (hpr : pr ≤ 50) : ∀ (k a : Nat) (s : fs_S) (my cs : Int32) (w : Nat → Int32) (o o2 : Option Value), a + k = 32 → 1 ≤ a → fs_rel s my cs w → (∀ my' cs' w', fs_rel (fs_3 sh m pr k a s) my' cs' w' → K none (G, tp_fs I my' cs' w', J, R)) → tm_A (d + 2) 18 2 [some (.ref 76), some (.int (nI (3 * pr))), some (.int (nI a)), o, o2] [] (G, tp_fs I my cs w, J, R) K := by
  intro k
  induction k with
  | zero =>
    intro a s my cs w o o2 ha h1 hr hK
    have : a = 32 := by omega
    subst this
    have hc : (31 : Int32) < nI 32 := by decide
    rw [r18_2]
    simp only [r18_3, r18_5, r18_65, hc, if_true]
    exact hK my cs w hr
  | succ k ih =>
    intro a s my cs w o o2 ha h1 hr hK
    have hc : ¬ (31 : Int32) < nI a := fun z => by
      have := (q_lt (a := 31) (b := a) rfl rfl (by decide) (by omega)).mp z
      omega
    rw [r18_2]
    simp only [r18_3, r18_5, r18_8, r18_9, r18_10, r18_11, hc, if_false, nI_1]
    refine c18_m d K hS hR hT hpr h1 (by omega) (31 - a) (a + 1) s my cs w _ (by omega) (by omega) hr (fun my' cs' w' o' hr' => ?_)
    simp only [r18_59, r18_62, nI_1]
    exact ih (a + 1) _ _ _ _ _ _ (by omega) (by omega) hr' hK
theorem c15_in (d : Nat) (K : Option Value → tm_H → Prop) (hS : tp_S G) (hR : tp_R R) {r sx : Nat} (hr : r < 10) (hsx : sx < 32) (o1 : Option Value) : ∀ (k f : Nat) (w : Nat → Int32) (o5 o6 : Option Value), f + k = 32 → 1 ≤ f → (∀ g, 1 ≤ g → g < f → w g = nI (fs_mis sx g)) → (∀ w' o5 o6, (∀ g, 1 ≤ g → g < 32 → w' g = nI (fs_mis sx g)) → tm_A (d + 1) 15 72 [some (.ref 76), o1, some (.int (nI r)), some (.int (nI sx)), some (.int (nI 32)), o5, o6] [] (G, upr I (78 + 1 * r) w', J, R) K) → tm_A (d + 1) 15 19 [some (.ref 76), o1, some (.int (nI r)), some (.int (nI sx)), some (.int (nI f)), o5, o6] [] (G, upr I (78 + 1 * r) w, J, R) K := by
  intro k
  induction k with
  | zero =>
    intro f w o5 o6 hf h1 hw hK
    have : f = 32 := by omega
    subst this
    have hc : (31 : Int32) < nI 32 := by decide
    rw [r15_19]
    simp only [r15_21, r15_23, hc, if_true]
    exact hK w o5 o6 hw
  | succ k ih =>
    intro f w o5 o6 hf h1 hw hK
    have hc : ¬ (31 : Int32) < nI f := fun z => by
      have := (q_lt (a := 31) (b := f) rfl rfl (by decide) (by omega)).mp z
      omega
    have b1 := fs_bc sx hsx f (by omega)
    have b2 := fs_bc f (by omega) sx hsx
    have i1 : tm_in (nI r) 10 := q_in hr (by decide)
    have i2 : tm_in (nI f) 32 := q_in (by omega) (by decide)
    have g3 : 3 ≤ 78 + 1 * r := by omega
    have em : (1 : Int32) * nI (fs_pc (f &&& (31 - sx))) + 2 * nI (fs_pc (sx &&& (31 - f))) = nI (fs_mis sx f) := by
      rw [show (1 : Int32) = nI 1 from rfl, show (2 : Int32) = nI 2 from rfl, pk_mul, pk_mul, nI_add, Nat.one_mul]
      rfl
    rw [r15_19]
    simp only [r15_21, r15_23, r15_26, r15_28, r15_29, r15_30, r15_31, r15_32, r15_35, r15_37, r15_38, r15_40, r15_41, r15_42, r15_43, r15_46, r15_48, r15_49, r15_52, r15_53, r15_54, r15_56, r15_57, r15_59, r15_60, r15_61, r15_63, r15_64, r15_65, r15_66, r15_69, hc, if_false, m174, b1, b2, em, sh_76 hS, sh_77 hS, rf_76_0 hR, rf_C hR hr, sh_C hS hr, i1, i2, g3, q_ix (show r < 2147483648 by omega), q_ix (show f < 2147483648 by omega), up2_upr, nI_1, tm_in, or_true, true_or, tm_cs0, tm_cs1, tm_cs2, tm_cs3, tm_cs4, true_and, and_true, and_self, Option.toList_some, Option.toList_none, List.cons_append, List.nil_append, tm_rf_some, tm_rf_none]
    refine ih (f + 1) _ _ _ (by omega) (by omega) (fun g hg1 hg2 => ?_) hK
    by_cases e : g = f
    · rw [if_pos e, e]
    · rw [if_neg e]
      exact hw g hg1 (by omega)
theorem c15_l (d : Nat) (K : Option Value → tm_H → Prop) (hS : tp_S G) (hR : tp_R R) (hm : m ≤ 10) (hsh : ∀ r, r < m → sh r < 32) : ∀ (k r : Nat) (I : Nat → Nat → Int32) (o3 o4 o5 o6 : Option Value), r + k = m → I 14 1 = nI m → I 76 4 = nI m → (∀ r, r < m → I (16 + 3 * r) 0 = nI (sh r)) → (∀ s f, s < r → 1 ≤ f → f < 32 → I (78 + 1 * s) f = nI (fs_mis (sh s) f)) → (∀ I', (∀ b, ¬ (78 ≤ b ∧ b ≤ 87) → I' b = I b) → fs_tab I' sh m → K none (G, I', J, R)) → tm_A (d + 3) 15 2 [some (.ref 76), some (.ref 14), some (.int (nI r)), o3, o4, o5, o6] [] (G, I, J, R) K := by
  intro k
  induction k with
  | zero =>
    intro r I o3 o4 o5 o6 hr h14 h76 hs ht hK
    have : r = m := by omega
    subst this
    have hc : nI r ≤ nI r := Int32.le_refl _
    rw [r15_2]
    simp only [r15_3, r15_4, r15_7, r15_78, sh_76 hS, h76, hc, if_true, tm_in, or_true, true_or, tm_cs0, tm_cs1, tm_cs2, tm_cs3, tm_cs4, true_and, and_true, and_self, Option.toList_some, Option.toList_none, List.cons_append, List.nil_append, tm_rf_some, tm_rf_none]
    exact hK I (fun _ _ => rfl) ⟨h76, hm, ht⟩
  | succ k ih =>
    intro r I o3 o4 o5 o6 hr h14 h76 hs ht hK
    have hc : ¬ nI m ≤ nI r := fun z => by
      have := (q_le (a := m) (b := r) rfl rfl (by omega) (by omega)).mp z
      omega
    have hin : tm_in (nI r) m := q_in (by omega) (by omega)
    rw [r15_2]
    simp only [r15_3, r15_4, r15_7, r15_10, r15_10n, r15_11, r15_12, r15_15, r15_16, r15_17, sh_76 hS, sh_14 hS, h76, hc, if_false, c46 _ _ _ hS hR h14 hm, tm_in, or_true, true_or, tm_cs0, tm_cs1, tm_cs2, tm_cs3, tm_cs4, true_and, and_true, and_self, Option.toList_some, Option.toList_none, List.cons_append, List.nil_append, tm_rf_some, tm_rf_none]
    rw [if_pos hin, q_ix (show r < 2147483648 by omega), hs r (by omega)]
    have hu : I = upr I (78 + 1 * r) (I (78 + 1 * r)) := upr_self.symm
    rw [hu]
    refine c15_in (d + 2) K hS hR (show r < 10 by omega) (hsh r (by omega)) _ 31 1 _ _ _ (by omega) (by omega) (fun g h1 h2 => by omega) (fun w' o5 o6 hw' => ?_)
    simp only [r15_72, r15_75, nI_1]
    refine ih (r + 1) _ _ _ _ _ (by omega) (by rw [upr_ne (by omega)]; exact h14) (by rw [upr_ne (by omega)]; exact h76) (fun s hs2 => by rw [upr_ne (by omega)]; exact hs s hs2) (fun s f h1 h2 h3 => ?_) (fun I' h1 h2 => hK I' (fun b hb => ?_) h2)
    · by_cases e : s = r
      · subst e
        rw [upr_at]
        exact hw' f h2 h3
      · rw [upr_ne (by omega)]
        exact ht s f (by omega) h2 h3
    · rw [h1 b hb, upr_ne (by omega)]
end FR2
