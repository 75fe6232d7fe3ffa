/-! The reference: which row says a field; what is known. -/
section KNO
variable {G : tm_G} {I : Nat → Nat → Int32} {J : Nat → Nat → Int64} {R : Nat → Nat → Option Nat}
theorem m137_l (d : Nat) (r f q : Int32) (K : Option Value → tm_H → Prop) (hS : tp_S G) (hR : tp_R R) {c : Nat} (hc : I 89 14 = nI c) (hc70 : c ≤ 70) : ∀ (k i : Nat), i + k = c → (tm_A d 137 6 [some (.ref 89), some (.int r), some (.int f), some (.int q), some (.int (p_rf I r f q i)), some (.int (nI i))] [] (G, I, J, R) K ↔ K (some (.int (p_rf I r f q c))) (G, I, J, R)) := by
  intro k
  induction k with
  | zero =>
    intro i hi
    have : i = c := by omega
    subst this
    have hcc : nI i ≤ nI i := Int32.le_refl _
    rw [r137_6]
    simp only [r137_8, r137_9, r137_12, r137_82, r137_84, sh_89 hS, hc, hcc, if_true, tm_in, or_true, true_or, tm_cs0, tm_cs1, tm_cs2, tm_cs3, tm_cs4, true_and, and_true, and_self, Option.toList_some, Option.toList_none, List.cons_append, List.nil_append, tm_rf_some, tm_rf_none]
  | succ k ih =>
    intro i hi
    have hcc : ¬ nI c ≤ nI i := fun z => by
      have := (q_le (a := c) (b := i) rfl rfl (by omega) (by omega)).mp z
      omega
    have i1 : tm_in (nI i) 70 := q_in (by omega) (by decide)
    have ih' := ih (i + 1) (by omega)
    rw [p_rf] at ih'
    rw [r137_6]
    simp only [r137_8, r137_9, r137_12, r137_15, r137_16, r137_19, r137_21, r137_22, r137_23, sh_89 hS, sh_94 hS, rf_89_15 hR, hc, hcc, i1, q_ix (show i < 2147483648 by omega), if_false, tm_in, or_true, true_or, tm_cs0, tm_cs1, tm_cs2, tm_cs3, tm_cs4, true_and, and_true, and_self, Option.toList_some, Option.toList_none, List.cons_append, List.nil_append, tm_rf_some, tm_rf_none]
    by_cases h1 : I 94 i = r
    · simp only [h1, not_true, if_false, r137_26, r137_27, r137_30, r137_32, r137_33, r137_34, sh_89 hS, sh_95 hS, rf_89_16 hR, i1, q_ix (show i < 2147483648 by omega), tm_in, or_true, true_or, tm_cs0, tm_cs1, tm_cs2, tm_cs3, tm_cs4, true_and, and_true, and_self, Option.toList_some, Option.toList_none, List.cons_append, List.nil_append, tm_rf_some, tm_rf_none]
      by_cases h2 : I 95 i ≤ q
      · have h2' : ¬ q < I 95 i := Int32.not_lt.mpr h2
        rw [if_pos (⟨h1, h2⟩ : I 94 i = r ∧ I 95 i ≤ q)] at ih'
        simp only [h2', if_false, r137_37, r137_38, r137_41, r137_43, r137_44, r137_45, r137_46, r137_47, r137_48, r137_49, sh_89 hS, sh_96 hS, rf_89_17 hR, i1, q_ix (show i < 2147483648 by omega), tm_in, or_true, true_or, tm_cs0, tm_cs1, tm_cs2, tm_cs3, tm_cs4, true_and, and_true, and_self, Option.toList_some, Option.toList_none, List.cons_append, List.nil_append, tm_rf_some, tm_rf_none]
        by_cases h3 : (I 96 i >>> (f &&& 31)) &&& 1 = 1
        · rw [if_pos h3] at ih'
          simp only [h3, not_true, if_false, r137_52, r137_54, r137_74, r137_76, r137_79, nI_1]
          exact ih'
        · rw [if_neg h3] at ih'
          simp only [h3, not_false_eq_true, if_true, r137_57, r137_58, r137_61, r137_63, r137_64, r137_65, sh_89 hS, sh_97 hS, rf_89_18 hR, i1, q_ix (show i < 2147483648 by omega), tm_in, or_true, true_or, tm_cs0, tm_cs1, tm_cs2, tm_cs3, tm_cs4, true_and, and_true, and_self, Option.toList_some, Option.toList_none, List.cons_append, List.nil_append, tm_rf_some, tm_rf_none]
          by_cases h4 : I 97 i = f
          · rw [if_pos h4] at ih'
            simp only [h4, not_true, if_false, r137_68, r137_69, r137_74, r137_76, r137_79, nI_1]
            exact ih'
          · rw [if_neg h4] at ih'
            simp only [h4, not_false_eq_true, if_true, r137_72, r137_74, r137_76, r137_79, nI_1]
            exact ih'
      · have h2' : q < I 95 i := Int32.not_le.mp h2
        rw [if_neg (fun z : I 94 i = r ∧ I 95 i ≤ q => h2 z.2)] at ih'
        simp only [h2', if_true, r137_76, r137_79, nI_1]
        exact ih'
    · rw [if_neg (fun z : I 94 i = r ∧ I 95 i ≤ q => h1 z.1)] at ih'
      simp only [h1, not_false_eq_true, if_true, r137_76, r137_79, nI_1]
      exact ih'
theorem m137 (d : Nat) (r f q : Int32) (K : Option Value → tm_H → Prop) (hS : tp_S G) (hR : tp_R R) {c : Nat} (hc : I 89 14 = nI c) (hc70 : c ≤ 70) : tm_R d 137 [.ref 89, .int r, .int f, .int q] (G, I, J, R) K ↔ K (some (.int (p_rf I r f q c))) (G, I, J, R) := by
  rw [e137]
  simp only [r137_0, r137_1, r137_3, r137_4]
  exact m137_l d r f q K hS hR hc hc70 c 0 (by omega)
theorem m138 (d : Nat) (x q : Int32) (K : Option Value → tm_H → Prop) (hS : tp_S G) (hR : tp_R R) {rp nw : Nat} (hr : I 89 1 = nI rp) (hr10 : rp ≤ 10) (hnw : I 89 0 = nI nw) (hnw2 : nw ≤ 1000) : tm_R (d + 2) 138 [.ref 89, .int x, .int q] (G, I, J, R) K ↔ K (some (.int (if tm_in x rp ∧ tm_in q (nw + 1) ∧ I 103 (tm_ix x) ≤ q then 1 else 0))) (G, I, J, R) := by
  have hq : (0 ≤ q ∧ q ≤ nI nw) ↔ tm_in q (nw + 1) := q_inI2 rfl (by omega)
  rw [e138]
  by_cases h1 : tm_in x rp
  · have h1' : tm_in x 10 := ⟨h1.1, by have := h1.2; omega⟩
    by_cases h2 : tm_in q (nw + 1)
    · by_cases h3 : I 103 (tm_ix x) ≤ q
      · have h3' : ¬ q < I 103 (tm_ix x) := Int32.not_lt.mpr h3
        simp only [r138_0, r138_1, r138_2, r138_5, r138_8, r138_9, r138_10, r138_11, r138_14, r138_17, r138_20, r138_21, r138_24, r138_25, r138_26, r138_27, r138_30, r138_31, r138_34, r138_35, sh_89 hS, sh_103 hS, rf_89_24 hR, m134 _ _ _ hS hr hr10, m117, hnw, hq, h1, h1', h2, h3, h3', if_true, if_false, show ¬ (1 : Int32) = 0 by decide, tm_z1, tm_in, or_true, true_or, tm_cs0, tm_cs1, tm_cs2, tm_cs3, tm_cs4, true_and, and_true, and_self, Option.toList_some, Option.toList_none, List.cons_append, List.nil_append, tm_rf_some, tm_rf_none]
      · have h3' : q < I 103 (tm_ix x) := Int32.not_le.mp h3
        simp only [r138_0, r138_1, r138_2, r138_5, r138_8, r138_9, r138_10, r138_11, r138_14, r138_17, r138_20, r138_21, r138_24, r138_25, r138_26, r138_27, r138_30, r138_31, r138_34, r138_35, sh_89 hS, sh_103 hS, rf_89_24 hR, m134 _ _ _ hS hr hr10, m117, hnw, hq, h1, h1', h2, h3, h3', if_true, if_false, show ¬ (1 : Int32) = 0 by decide, tm_z0, and_false, tm_in, or_true, true_or, tm_cs0, tm_cs1, tm_cs2, tm_cs3, tm_cs4, true_and, and_true, and_self, Option.toList_some, Option.toList_none, List.cons_append, List.nil_append, tm_rf_some, tm_rf_none]
    · simp only [r138_0, r138_1, r138_2, r138_5, r138_8, r138_9, r138_10, r138_11, r138_14, r138_17, r138_20, r138_21, r138_24, r138_25, r138_26, r138_27, r138_30, r138_31, r138_34, r138_35, sh_89 hS, m134 _ _ _ hS hr hr10, m117, hnw, hq, h1, h2, if_true, if_false, show ¬ (1 : Int32) = 0 by decide, tm_z0, false_and, and_false, tm_in, or_true, true_or, tm_cs0, tm_cs1, tm_cs2, tm_cs3, tm_cs4, true_and, and_true, and_self, Option.toList_some, Option.toList_none, List.cons_append, List.nil_append, tm_rf_some, tm_rf_none]
  · simp only [r138_0, r138_1, r138_2, r138_5, r138_8, r138_9, r138_10, r138_11, r138_14, r138_17, r138_20, r138_21, r138_24, r138_25, r138_26, r138_27, r138_30, r138_31, r138_34, r138_35, sh_89 hS, m134 _ _ _ hS hr hr10, h1, if_true, if_false, tm_z0, false_and, tm_in, or_true, true_or, tm_cs0, tm_cs1, tm_cs2, tm_cs3, tm_cs4, true_and, and_true, and_self, Option.toList_some, Option.toList_none, List.cons_append, List.nil_append, tm_rf_some, tm_rf_none]
/-- what know writes: the rows that say, how many are known, which -/
def tp_k (I : Nat → Nat → Int32) (t : Nat → Int32) (m : Nat) (s : Nat → Int32) : Nat → Nat → Int32 := fun b k => if b = 104 then t k else if b = 105 then s k else if b = 89 ∧ k = 26 then nI m else I b k
section TK
variable {t s : Nat → Int32} {m i : Nat} {v : Int32}
theorem wk_104 : tp_k I t m s 104 = t := by funext k; simp [tp_k]
theorem wk_105 : tp_k I t m s 105 = s := by funext k; simp [tp_k]
theorem wk_26 : tp_k I t m s 89 26 = nI m := by simp [tp_k]
theorem wk_89 {k : Nat} (h : k ≠ 26) : tp_k I t m s 89 k = I 89 k := by simp [tp_k, h]
theorem wk_o {b : Nat} (h1 : b ≠ 104) (h2 : b ≠ 105) (h3 : b ≠ 89) : tp_k I t m s b = I b := by funext k; simp [tp_k, h1, h2, h3]
theorem wk_u4 : up2 (tp_k I t m s) 104 i v = tp_k I (p_upf t i v) m s := by
  funext b k; simp only [up2, tp_k, p_upf]; grind
theorem wk_u5 : up2 (tp_k I t m s) 105 i v = tp_k I t m (p_upf s i v) := by
  funext b k; simp only [up2, tp_k, p_upf]; grind
theorem wk_u26 {m' : Nat} : up2 (tp_k I t m s) 89 26 (nI m') = tp_k I t m' s := by
  funext b k; simp only [up2, tp_k]; grind
theorem wk_self {s t : Nat → Int32} (h1 : I 104 = t) (h2 : I 105 = s) : up2 I 89 26 (nI m) = tp_k I t m s := by
  funext b k; simp only [up2, tp_k]; grind
theorem wk_scr {b k : Nat} (h : ¬ scr b k) : tp_k I t m s b k = I b k := by
  unfold scr at h
  unfold tp_k
  rw [if_neg (by omega), if_neg (by omega), if_neg (by omega)]
end TK
theorem wk_rf {t s : Nat → Int32} {m : Nat} (r f q : Int32) (c : Nat) : p_rf (tp_k I t m s) r f q c = p_rf I r f q c := p_rf_congr (fun b h1 h2 => wk_o (by omega) (by omega) (by omega)) r f q c
theorem m139_in (d : Nat) (q : Int32) (K : Option Value → tm_H → Prop) (hS : tp_S G) (hR : tp_R R) {c : Nat} (hc : I 89 14 = nI c) (hc70 : c ≤ 70) {m r : Nat} (hr : r < 10) {s : Nat → Int32} : ∀ (k i : Nat) (t : Nat → Int32), i + k = 5 → (∀ g, g < i → t (5 * r + g) = p_rf I (nI r) (nI g) q c) → (∀ t', (∀ g, g < 5 → t' (5 * r + g) = p_rf I (nI r) (nI g) q c) → (∀ x, x < 5 * r → t' x = t x) → tm_A (d + 1) 139 45 [some (.ref 89), some (.int q), some (.int (nI r)), some (.int (nI 5))] [] (G, tp_k I t' m s, J, R) K) → tm_A (d + 1) 139 17 [some (.ref 89), some (.int q), some (.int (nI r)), some (.int (nI i))] [] (G, tp_k I t m s, J, R) K := by
  intro k
  induction k with
  | zero =>
    intro i t hi ht hK
    have : i = 5 := by omega
    subst this
    have hcc : (5 : Int32) ≤ nI 5 := by decide
    rw [r139_17]
    simp only [r139_18, r139_19, hcc, if_true]
    exact hK t ht (fun x _ => rfl)
  | succ k ih =>
    intro i t hi ht hK
    have hcc : ¬ (5 : Int32) ≤ nI i := fun z => by
      have := (q_le (a := 5) (b := i) rfl rfl (by decide) (by omega)).mp z
      omega
    have e1 : (5 : Int32) * nI r + nI i = nI (5 * r + i) := by rw [show (5 : Int32) = nI 5 from rfl, pk_mul, nI_add]
    have i1 : tm_in (nI (5 * r + i)) 50 := q_in (by omega) (by decide)
    have hc' : tp_k I t m s 89 14 = nI c := by rw [wk_89 (by decide)]; exact hc
    have hcs : tm_cs [Value.int (nI (5 * r + i)), Value.ref 104] := by simp [tm_cs, Value.category]
    rw [r139_17]
    simp only [r139_18, r139_19, r139_22, r139_23, r139_26, r139_27, r139_28, r139_29, r139_30, r139_31, r139_32, r139_33, r139_34, r139_35, hcc, if_false, sh_89 hS, rf_89_25 hR, e1, m137 _ _ _ _ _ hS hR hc' hc70, wk_rf, hcs, tm_in, or_true, true_or, tm_cs0, tm_cs1, tm_cs2, tm_cs3, tm_cs4, true_and, and_true, and_self, Option.toList_some, Option.toList_none, List.cons_append, List.nil_append, tm_rf_some, tm_rf_none]
    simp only [r139_38, r139_39, r139_42, sh_104 hS, i1, q_ix (show 5 * r + i < 2147483648 by omega), wk_u4, nI_1, show 3 ≤ 104 by decide, tm_in, or_true, true_or, tm_cs0, tm_cs1, tm_cs2, tm_cs3, tm_cs4, true_and, and_true, and_self, Option.toList_some, Option.toList_none, List.cons_append, List.nil_append, tm_rf_some, tm_rf_none]
    refine ih (i + 1) _ (by omega) (fun g hg => ?_) (fun t' h1 h2 => hK t' h1 (fun x hx => ?_))
    · unfold p_upf
      by_cases e : g = i
      · subst e; rw [if_pos rfl]
      · rw [if_neg (by omega)]
        exact ht g (by omega)
    · rw [h2 x hx]
      unfold p_upf
      rw [if_neg (by omega)]
theorem m139_l (d : Nat) (K : Option Value → tm_H → Prop) (hS : tp_S G) (hR : tp_R R) {c rp q m : Nat} {rd : Nat → Nat} (hc : I 89 14 = nI c) (hc70 : c ≤ 70) (hr : I 89 1 = nI rp) (hr10 : rp ≤ 10) (hm : m ≤ rp) (hq : q ≤ 1000) (h103 : ∀ r, r < rp → I 103 r = nI (rd r) ∧ rd r ≤ 1000) (hrd : ∀ r, r < rp → (rd r ≤ q ↔ r < m)) : ∀ (k i : Nat) (t s : Nat → Int32) (o : Option Value), i + k = rp → (∀ r g, r < i → g < 5 → t (5 * r + g) = p_rf I (nI r) (nI g) (nI q) c) → (∀ r, r < min i m → s r = nI r) → (∀ t' s', (∀ r g, r < rp → g < 5 → t' (5 * r + g) = p_rf I (nI r) (nI g) (nI q) c) → (∀ r, r < m → s' r = nI r) → K none (G, tp_k I t' m s', J, R)) → tm_A (d + 1) 139 7 [some (.ref 89), some (.int (nI q)), some (.int (nI i)), o] [] (G, tp_k I t (min i m) s, J, R) K := by
  intro k
  induction k with
  | zero =>
    intro i t s o hi ht hs hK
    have : i = rp := by omega
    subst this
    have hcc : nI i ≤ nI i := Int32.le_refl _
    have e1 : tp_k I t (min i m) s 89 1 = nI i := by rw [wk_89 (by decide)]; exact hr
    rw [r139_7]
    simp only [r139_8, r139_9, r139_12, r139_81, sh_89 hS, e1, hcc, if_true, tm_in, or_true, true_or, tm_cs0, tm_cs1, tm_cs2, tm_cs3, tm_cs4, true_and, and_true, and_self, Option.toList_some, Option.toList_none, List.cons_append, List.nil_append, tm_rf_some, tm_rf_none]
    have em : min i m = m := by omega
    rw [em] at hs ⊢
    exact hK t s ht hs
  | succ k ih =>
    intro i t s o hi ht hs hK
    have hcc : ¬ nI rp ≤ nI i := fun z => by
      have := (q_le (a := rp) (b := i) rfl rfl (by omega) (by omega)).mp z
      omega
    have e1 : tp_k I t (min i m) s 89 1 = nI rp := by rw [wk_89 (by decide)]; exact hr
    rw [r139_7]
    simp only [r139_8, r139_9, r139_12, r139_15, r139_16, sh_89 hS, e1, hcc, if_false, tm_in, or_true, true_or, tm_cs0, tm_cs1, tm_cs2, tm_cs3, tm_cs4, true_and, and_true, and_self, Option.toList_some, Option.toList_none, List.cons_append, List.nil_append, tm_rf_some, tm_rf_none]
    rw [← nI_0]
    refine m139_in d (nI q) K hS hR hc hc70 (show i < 10 by omega) 5 0 t rfl (fun g hg => by omega) (fun t' h1 h2 => ?_)
    have i1 : tm_in (nI i) 10 := q_in (by omega) (by decide)
    obtain ⟨a1, a2⟩ := h103 i (by omega)
    have e2 : tp_k I t' (min i m) s 103 i = nI (rd i) := by rw [wk_o (by decide) (by decide) (by decide)]; exact a1
    have ht' : ∀ r g, r < i + 1 → g < 5 → t' (5 * r + g) = p_rf I (nI r) (nI g) (nI q) c := fun r g hr2 hg => by
      by_cases e : r = i
      · subst e; exact h1 g hg
      · rw [h2 _ (by omega)]
        exact ht r g (by omega) hg
    simp only [r139_45, r139_46, r139_49, r139_50, r139_51, r139_52, sh_89 hS, sh_103 hS, rf_89_24 hR, i1, q_ix (show i < 2147483648 by omega), e2, tm_in, or_true, true_or, tm_cs0, tm_cs1, tm_cs2, tm_cs3, tm_cs4, true_and, and_true, and_self, Option.toList_some, Option.toList_none, List.cons_append, List.nil_append, tm_rf_some, tm_rf_none]
    by_cases h : rd i ≤ q
    · have him := (hrd i (by omega)).mp h
      have z : ¬ nI q < nI (rd i) := fun z => by
        have := (nI_ltI (by omega) (by omega)).mp z
        omega
      have em : min i m = i := by omega
      have em2 : min (i + 1) m = i + 1 := by omega
      rw [em] at hs
      have ih' := ih (i + 1) t' (p_upf s i (nI i)) (some (.int (nI 5))) (by omega) ht' (fun r hr2 => ?_) hK
      · rw [em2] at ih'
        simp only [z, if_false, r139_55, r139_56, r139_59, r139_60, r139_63, r139_64, r139_65, r139_66, r139_66i, r139_67, r139_70, r139_71, r139_72, r139_75, r139_78, em, sh_89 hS, sh_105 hS, rf_89_27 hR, wk_26, wk_u5, wk_u26, i1, q_ix (show i < 2147483648 by omega), nI_1, show 3 ≤ 105 by decide, tm_in, or_true, true_or, tm_cs0, tm_cs1, tm_cs2, tm_cs3, tm_cs4, true_and, and_true, and_self, Option.toList_some, Option.toList_none, List.cons_append, List.nil_append, tm_rf_some, tm_rf_none]
        exact ih'
      · unfold p_upf
        by_cases e : r = i
        · rw [if_pos e, e]
        · rw [if_neg e]
          exact hs r (by omega)
    · have him : ¬ i < m := fun z => h ((hrd i (by omega)).mpr z)
      have z : nI q < nI (rd i) := (nI_ltI (by omega) (by omega)).mpr (by omega)
      have em : min i m = m := by omega
      have em2 : min (i + 1) m = m := by omega
      have ih' := ih (i + 1) t' s (some (.int (nI 5))) (by omega) ht' (fun r hr2 => hs r (by omega)) hK
      rw [em2] at ih'
      simp only [z, if_true, r139_75, r139_78, em, nI_1]
      exact ih'
theorem m139 (d : Nat) (K : Option Value → tm_H → Prop) (hS : tp_S G) (hR : tp_R R) {c rp q m : Nat} {rd : Nat → Nat} (hc : I 89 14 = nI c) (hc70 : c ≤ 70) (hr : I 89 1 = nI rp) (hr10 : rp ≤ 10) (hm : m ≤ rp) (hq : q ≤ 1000) (h103 : ∀ r, r < rp → I 103 r = nI (rd r) ∧ rd r ≤ 1000) (hrd : ∀ r, r < rp → (rd r ≤ q ↔ r < m)) (hK : ∀ t' s', (∀ r g, r < rp → g < 5 → t' (5 * r + g) = p_rf I (nI r) (nI g) (nI q) c) → (∀ r, r < m → s' r = nI r) → K none (G, tp_k I t' m s', J, R)) : tm_R (d + 1) 139 [.ref 89, .int (nI q)] (G, I, J, R) K := by
  rw [e139]
  simp only [r139_0, r139_1, r139_2, r139_5, r139_6, sh_89 hS, tm_in, or_true, true_or, tm_cs0, tm_cs1, tm_cs2, tm_cs3, tm_cs4, true_and, and_true, and_self, Option.toList_some, Option.toList_none, List.cons_append, List.nil_append, tm_rf_some, tm_rf_none]
  rw [← nI_0, wk_self rfl rfl]
  have := m139_l (G := G) (I := I) (J := J) (R := R) d K hS hR hc hc70 hr hr10 hm hq h103 hrd rp 0 (I 104) (I 105) none (by omega) (fun r g h => by omega) (fun r h => by omega) hK
  rw [Nat.zero_min] at this
  exact this
end KNO
