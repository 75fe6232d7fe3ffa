/-! Pairs and shapes: on both. -/
section BPR
variable {G : tm_G} {I I' : Nat → Nat → Int32} {J J' : Nat → Nat → Int64} {R : Nat → Nat → Option Nat} {nw rp ch n oc pr q m : Nat} {tl fa ro dy rd : Nat → Nat}
theorem scr_row (e : ∀ b k, ¬ scr b k → I' b k = I b k) {b : Nat} (h : b < 4 ∨ b = 5 ∨ (9 ≤ b ∧ b < 60) ∨ (71 ≤ b ∧ b ≤ 77) ∨ b = 88 ∨ b = 90 ∨ (94 ≤ b ∧ b ≤ 103) ∨ b = 106 ∨ 112 ≤ b) : I' b = I b := by
  funext k
  exact e b k (scr_no h k)
theorem iv_b_scr (hb : iv_b G I R nw rp ch n oc pr tl fa ro dy rd) (e : ∀ b k, ¬ scr b k → I' b k = I b k) : iv_b G I' R nw rp ch n oc pr tl fa ro dy rd := by
  have e8 : ∀ k, k < 7 ∨ k = 14 → I' 89 k = I 89 k := fun k h => e 89 k (by unfold scr; omega)
  have e4 : I' 4 1 = I 4 1 := e 4 1 (by unfold scr; omega)
  obtain ⟨b1, b2, b3, b4, b5, b6, b7, b8, b9, b10⟩ := hb
  refine ⟨b1, b2, ?_, ?_, ?_, ?_, ?_, ?_, ?_, b10⟩
  · unfold tp_C
    rw [scr_row e (b := 1) (by omega), scr_row e (b := 2) (by omega)]
    exact b3
  · unfold iv_sc
    rw [scr_row e (b := 3) (by omega), scr_row e (b := 9) (by omega), e4, e8 0 (by omega), e8 1 (by omega), e8 2 (by omega), e8 3 (by omega), e8 4 (by omega), e8 6 (by omega), e8 14 (by omega)]
    exact b4
  · unfold iv_tp
    rw [scr_row e (b := 5) (by omega), scr_row e (b := 90) (by omega)]
    exact b5
  · intro a b ha hb
    rw [scr_row e (b := 48 + 1 * a) (by omega), scr_row e (b := 106) (by omega)]
    exact b6 a b ha hb
  · exact iv_rows_congr (fun b h1 h2 => scr_row e (by omega)) (scr_row e (by omega)) (scr_row e (by omega)) (scr_row e (by omega)) (fun b h => scr_row e (by omega)) b7
  · unfold iv_days
    rw [scr_row e (b := 94) (by omega), scr_row e (b := 95) (by omega), scr_row e (b := 103) (by omega)]
    exact b8
  · unfold iv_low
    rw [scr_row e (b := 74) (by omega)]
    exact b9
theorem iv_kn_scr (hb : iv_b G I R nw rp ch n oc pr tl fa ro dy rd) (hk : iv_kn I rp (rp + ch) fa rd q m) (e : ∀ b k, ¬ scr b k → I' b k = I b k) : iv_kn I' rp (rp + ch) fa rd q m :=
  iv_kn_congr (fun b h1 h2 => scr_row e (by omega)) (fun b h1 h2 => scr_row e (by omega)) (fun j hj => by
    obtain ⟨-, -, -, -, -, t6⟩ := hb.2.2.2.2.2.2.1.1 j hj
    exact ⟨scr_row e (by omega), scr_row e (by omega), scr_row e (by omega)⟩) hk
theorem iv_c_scr (hb : iv_b G I R nw rp ch n oc pr tl fa ro dy rd) (hm : m ≤ 10) (hc : iv_c I J rp ch oc pr fa rd q m) (e : ∀ b k, ¬ scr b k → I' b k = I b k) (hJ : J' 71 4 = J 71 4) : iv_c I' J' rp ch oc pr fa rd q m := by
  obtain ⟨z1, z2, z3, z4⟩ := hc
  refine ⟨by rw [scr_row e (b := 3) (by omega)]; exact z1, iv_kn_scr hb z2 e, ?_, ?_⟩
  · rw [scr_row e (b := 3) (by omega)]
    exact z3.imp id (fun y => ⟨y.1, iv_gr_congr (fun b h1 h2 => scr_row e (by omega)) (scr_row e (by omega)) (scr_row e (by omega)) hJ hm y.2⟩)
  · rw [scr_row e (b := 3) (by omega)]
    exact z4.imp id (fun y => ⟨y.1, iv_fs_congr (fun b h1 h2 => scr_row e (by omega)) (scr_row e (by omega)) (scr_row e (by omega)) hm y.2⟩)
/-- know, from what holds -/
theorem m139k (d : Nat) (K : Option Value → tm_H → Prop) (hb : iv_b G I R nw rp ch n oc pr tl fa ro dy rd) (hq : q ≤ nw) (hm : m ≤ 10) (hk : iv_kn I rp (rp + ch) fa rd q m) (hK : ∀ I', kw G I' R nw rp ch n oc pr tl fa ro dy rd q m → (∀ b k, ¬ scr b k → I' b k = I b k) → K none (G, I', J, R)) : tm_R (d + 1) 139 [.ref 89, .int (nI q)] (G, I, J, R) K := by
  have hb0 := hb
  have h70 := iv_70 hb
  obtain ⟨b1, b2, b3, b4, b5, b6, b7, b8, b9, b10⟩ := hb
  have hnw := b4.1.2.2
  refine m139 d K b1 b2 h70.1 h70.2 b4.2.1.2.1 b4.2.1.2.2 hk.1 (by omega) (fun r hr => ⟨(b8.2.1 r hr).1, by have := (b8.2.1 r hr).2.1; omega⟩) hk.2.1 (fun t' s' ht hs => ?_)
  have e : ∀ b k, ¬ scr b k → tp_k I t' m s' b k = I b k := fun b k h => wk_scr h
  refine hK _ ⟨iv_b_scr hb0 e, iv_kn_scr hb0 hk e, hm, wk_26, fun r hr => by rw [wk_105]; exact hs r hr, fun r f hr hf => ?_⟩ e
  rw [wk_104, wk_rf]
  exact ht r f (by have := hk.1; omega) hf
theorem c99 (d : Nat) (x z y : Int32) (K : Option Value → tm_H → Prop) (hp : iv_p G I J R nw rp ch n oc pr tl fa ro dy rd) (h0 : ¬ tm_in y (nw + 1) → K (some (.int (-1000))) (G, I, J, R)) (h1 : ∀ q m I1, q ≤ nw → y = nI q → m ≤ 10 → iv_b G I1 R nw rp ch n oc pr tl fa ro dy rd → iv_c I1 J rp ch oc pr fa rd q m → K (some (.int (if x ≠ z ∧ tm_in x m ∧ tm_in z m then p_pc I1 (ck_n I1) m (tm_ix x) (tm_ix z) else -1000))) (G, I1, J, R)) : tm_R (d + 5) 99 [.ref 3, .int x, .int z, .int y] (G, I, J, R) K := by
  obtain ⟨hS, hR, -⟩ := hp.1
  rw [e99]
  simp only [r99_0, r99_1, r99_2, sh_3 hS, tm_in, or_true, true_or, tm_cs0, tm_cs1, tm_cs2, tm_cs3, tm_cs4, true_and, and_true, and_self, Option.toList_some, Option.toList_none, List.cons_append, List.nil_append, tm_rf_some, tm_rf_none]
  refine c109i d y _ hp (fun h => ?_) (fun q m I1 hq e hm hb hc => ?_)
  · simp only [r99_5, r99_29, r99_32, if_true, tm_in, or_true, true_or, tm_cs0, tm_cs1, tm_cs2, tm_cs3, tm_cs4, true_and, and_true, and_self, Option.toList_some, Option.toList_none, List.cons_append, List.nil_append, tm_rf_some, tm_rf_none]
    exact h0 h
  · have hk := h1 q m I1 hq e hm hb hc
    simp only [r99_5, r99_8, r99_9, r99_10, show ¬ (1 : Int32) = 0 by decide, if_false, tm_in, or_true, true_or, tm_cs0, tm_cs1, tm_cs2, tm_cs3, tm_cs4, true_and, and_true, and_self, Option.toList_some, Option.toList_none, List.cons_append, List.nil_append, tm_rf_some, tm_rf_none]
    by_cases hxz : x = z
    · have hn : ¬ (x ≠ z ∧ tm_in x m ∧ tm_in z m) := fun y => y.1 hxz
      rw [if_neg hn] at hk
      rw [if_pos hxz]
      simp only [r99_29, r99_32]
      exact hk
    · rw [if_neg hxz]
      have hcn : ∀ r, r < m → I1 (16 + 3 * r + 1) 3 = nI (ck_n I1 r) ∧ ck_n I1 r ≤ 3 := fun r hr => iv_cn hb hc.2.1 (by omega)
      simp only [r99_13, r99_14, r99_17, r99_18, r99_21, r99_22, r99_23, r99_26, r99_29, r99_32, sh_3 hS, sh_14 hS, sh_46 hS, rf_3_2 hR, rf_3_3 hR, c63 _ _ _ _ hS hR hc.2.1.2.2.1 hm hcn, tm_in, or_true, true_or, tm_cs0, tm_cs1, tm_cs2, tm_cs3, tm_cs4, true_and, and_true, and_self, Option.toList_some, Option.toList_none, List.cons_append, List.nil_append, tm_rf_some, tm_rf_none]
      have he : (if x ≠ z ∧ tm_in x m ∧ tm_in z m then p_pc I1 (ck_n I1) m (tm_ix x) (tm_ix z) else -1000) = (if tm_in x m ∧ tm_in z m then p_pc I1 (ck_n I1) m (tm_ix x) (tm_ix z) else -1000) := by
        by_cases hh : tm_in x m ∧ tm_in z m
        · have hh' : x ≠ z ∧ tm_in x m ∧ tm_in z m := ⟨hxz, hh⟩
          rw [if_pos hh, if_pos hh']
        · have hh' : ¬ (x ≠ z ∧ tm_in x m ∧ tm_in z m) := fun y => hh y.2
          rw [if_neg hh, if_neg hh']
      rw [he] at hk
      exact hk
theorem m153n (d : Nat) (x z y : Int32) (K : Option Value → tm_H → Prop) (hp : iv_p G I J R nw rp ch n oc pr tl fa ro dy rd) (hy : ¬ tm_in y (nw + 1)) : tm_R (d + 3) 153 [.ref 89, .int x, .int z, .int y] (G, I, J, R) K ↔ K (some (.int (-1000))) (G, I, J, R) := by
  have hS := hp.1.1
  rw [e153]
  simp only [r153_0, r153_1, r153_2, r153_3, r153_6, r153_23, r153_26, sh_89 hS, m138n _ _ _ _ hp hy, if_true, tm_in, or_true, true_or, tm_cs0, tm_cs1, tm_cs2, tm_cs3, tm_cs4, true_and, and_true, and_self, Option.toList_some, Option.toList_none, List.cons_append, List.nil_append, tm_rf_some, tm_rf_none]
theorem m153 (d : Nat) (x z : Int32) (K : Option Value → tm_H → Prop) (hb : iv_b G I R nw rp ch n oc pr tl fa ro dy rd) (hm : m ≤ 10) (hk : iv_kn I rp (rp + ch) fa rd q m) (hq : q ≤ nw) (hK : ∀ I', (∀ b k, ¬ scr b k → I' b k = I b k) → K (some (.int (if x ≠ z ∧ tm_in x m ∧ tm_in z m then p_pc I (ck_n I) m (tm_ix x) (tm_ix z) else -1000))) (G, I', J, R)) : tm_R (d + 4) 153 [.ref 89, .int x, .int z, .int (nI q)] (G, I, J, R) K := by
  have hS := hb.1
  rw [e153]
  by_cases h1 : tm_in x m
  · by_cases h2 : tm_in z m
    · by_cases h3 : x = z
      · have hn : ¬ (x ≠ z ∧ tm_in x m ∧ tm_in z m) := fun y => y.1 h3
        rw [if_neg hn] at hK
        simp only [r153_0, r153_1, r153_2, r153_3, r153_6, r153_9, r153_10, r153_11, r153_12, r153_15, r153_18, r153_19, r153_20, r153_23, r153_26, sh_89 hS, m138k _ _ _ hb hk hq, h1, h2, h3, if_true, show ¬ (1 : Int32) = 0 by decide, if_false, not_true, tm_in, or_true, true_or, tm_cs0, tm_cs1, tm_cs2, tm_cs3, tm_cs4, true_and, and_true, and_self, Option.toList_some, Option.toList_none, List.cons_append, List.nil_append, tm_rf_some, tm_rf_none]
        exact hK I (fun _ _ _ => rfl)
      · have hy : x ≠ z ∧ tm_in x m ∧ tm_in z m := ⟨h3, h1, h2⟩
        rw [if_pos hy] at hK
        simp only [r153_0, r153_1, r153_2, r153_3, r153_6, r153_9, r153_10, r153_11, r153_12, r153_15, r153_18, r153_19, r153_20, r153_23, r153_26, r153_27, r153_28, r153_29, sh_89 hS, m138k _ _ _ hb hk hq, h1, h2, h3, if_true, show ¬ (1 : Int32) = 0 by decide, if_false, not_false_eq_true, tm_in, or_true, true_or, tm_cs0, tm_cs1, tm_cs2, tm_cs3, tm_cs4, true_and, and_true, and_self, Option.toList_some, Option.toList_none, List.cons_append, List.nil_append, tm_rf_some, tm_rf_none]
        refine m139k (d + 2) _ hb hq hm hk (fun I' hw he => ?_)
        have hx := q_of h1
        have hz := q_of h2
        generalize tm_ix x = a at hx hK ⊢
        generalize tm_ix z = b at hz hK ⊢
        obtain ⟨rfl, ha⟩ := hx
        obtain ⟨rfl, hbb⟩ := hz
        simp only [r153_32, r153_33, r153_34, r153_35, r153_38, sh_89 hS, m152 _ _ hw ha hbb, tm_in, or_true, true_or, tm_cs0, tm_cs1, tm_cs2, tm_cs3, tm_cs4, true_and, and_true, and_self, Option.toList_some, Option.toList_none, List.cons_append, List.nil_append, tm_rf_some, tm_rf_none]
        have h57 : ∀ b, 16 ≤ b → b ≤ 57 → I' b = I b := fun b h1 h2 => scr_row he (by omega)
        rw [p_pc_congr h57 _ hm (by omega) (by omega), p_pc_cn (ck_congr_n h57) hm (by omega) (by omega)]
        exact hK I' he
    · have hn : ¬ (x ≠ z ∧ tm_in x m ∧ tm_in z m) := fun y => h2 y.2.2
      rw [if_neg hn] at hK
      simp only [r153_0, r153_1, r153_2, r153_3, r153_6, r153_9, r153_10, r153_11, r153_12, r153_15, r153_18, r153_19, r153_20, r153_23, r153_26, sh_89 hS, m138k _ _ _ hb hk hq, h1, h2, if_true, show ¬ (1 : Int32) = 0 by decide, if_false, tm_in, or_true, true_or, tm_cs0, tm_cs1, tm_cs2, tm_cs3, tm_cs4, true_and, and_true, and_self, Option.toList_some, Option.toList_none, List.cons_append, List.nil_append, tm_rf_some, tm_rf_none]
      exact hK I (fun _ _ _ => rfl)
  · have hn : ¬ (x ≠ z ∧ tm_in x m ∧ tm_in z m) := fun y => h1 y.2.1
    rw [if_neg hn] at hK
    simp only [r153_0, r153_1, r153_2, r153_3, r153_6, r153_9, r153_10, r153_11, r153_12, r153_15, r153_18, r153_19, r153_20, r153_23, r153_26, sh_89 hS, m138k _ _ _ hb hk hq, h1, if_true, if_false, tm_in, or_true, true_or, tm_cs0, tm_cs1, tm_cs2, tm_cs3, tm_cs4, true_and, and_true, and_self, Option.toList_some, Option.toList_none, List.cons_append, List.nil_append, tm_rf_some, tm_rf_none]
    exact hK I (fun _ _ _ => rfl)
theorem bo_pair (d : Nat) (x z y : Int32) (hi : iv (G, I, J, R)) : iv_both (d + 5) 99 153 [.int x, .int z, .int y] (G, I, J, R) := by
  have hi0 := hi
  obtain ⟨nw, rp, ch, n, oc, pr, tl, fa, ro, dy, rd, hp⟩ : ∃ (nw rp ch n oc pr : Nat) (tl fa ro dy rd : Nat → Nat), iv_p G I J R nw rp ch n oc pr tl fa ro dy rd := hi
  unfold iv_both
  refine c99 d x z y _ hp (fun h => ?_) (fun q m I1 hq e hm hb hc => ?_)
  · rw [m153n (d + 2) x z y _ hp h]
    exact iv_same _ hi0
  · subst e
    refine m153 (d + 1) x z _ hb hm hc.2.1 hq (fun I' he => ?_)
    exact iv_same _ (iv_of (iv_b_scr hb he) hq (iv_c_scr hb hm hc he rfl))
/-! Shapes. -/
def p_sh (x : Int32) : Nat → Int32
  | 0 => 0
  | k + 1 => p_sh x k ||| (if tb x k = true then 1 <<< (nI k &&& 31) else 0)
theorem p_sh_tb (x : Int32) : ∀ k j, k ≤ 32 → j < 32 → tb (p_sh x k) j = (decide (j < k) && tb x j)
  | 0, j, _, _ => by rw [p_sh, tb_0]; simp
  | k + 1, j, hk, hj => by
    rw [p_sh, tb_or, p_sh_tb x k j (by omega) hj]
    by_cases h : tb x k = true
    · rw [if_pos h, tb_one (by omega) hj]
      by_cases e : j = k
      · subst e; simp [h]
      · have : (j < k + 1) ↔ j < k := by omega
        simp [e, this]
    · rw [if_neg h, tb_0]
      by_cases e : j = k
      · subst e; simp [h]
      · have : (j < k + 1) ↔ j < k := by omega
        simp [this]
theorem p_sh_5 {x : Int32} (h : ∀ k, 5 ≤ k → k < 32 → tb x k = false) : p_sh x 5 = x := by
  apply tb_ext
  intro j hj
  rw [p_sh_tb x 5 j (by decide) hj]
  by_cases h5 : j < 5
  · simp [h5]
  · rw [h j (by omega) hj]
    simp
theorem m165_l (d : Nat) (K : Option Value → tm_H → Prop) (h : kw G I R nw rp ch n oc pr tl fa ro dy rd q m) {r : Nat} (hr : r < m) : ∀ (k i : Nat), i + k = 5 → (tm_A (d + 1) 165 4 [some (.ref 89), some (.int (nI r)), some (.int (p_sh (I (16 + 3 * r) 0) i)), some (.int (nI i))] [] (G, I, J, R) K ↔ K (some (.int (p_sh (I (16 + 3 * r) 0) 5))) (G, I, J, R)) := by
  have hS := h.1.1
  intro k
  induction k with
  | zero =>
    intro i hi
    have : i = 5 := by omega
    subst this
    have hc : (5 : Int32) ≤ nI 5 := by decide
    rw [r165_4]
    simp only [r165_5, r165_6, r165_34, r165_35, hc, if_true]
  | succ k ih =>
    intro i hi
    have hc : ¬ (5 : Int32) ≤ nI i := fun z => by
      have := (q_le (a := 5) (b := i) rfl rfl (by decide) (by omega)).mp z
      omega
    have ih' := ih (i + 1) (by omega)
    rw [p_sh] at ih'
    rw [r165_4]
    simp only [r165_5, r165_6, r165_9, r165_10, r165_11, r165_12, r165_13, r165_16, hc, if_false, sh_89 hS, m140 _ _ h hr (show i < 5 by omega), tm_in, or_true, true_or, tm_cs0, tm_cs1, tm_cs2, tm_cs3, tm_cs4, true_and, and_true, and_self, Option.toList_some, Option.toList_none, List.cons_append, List.nil_append, tm_rf_some, tm_rf_none]
    by_cases ht : tb (I (16 + 3 * r) 0) i = true
    · rw [if_pos ht] at ih'
      simp only [ht, if_true, show ¬ (1 : Int32) = 0 by decide, if_false, r165_19, r165_20, r165_21, r165_22, r165_25, r165_26, r165_27, r165_28, r165_31, nI_1]
      exact ih'
    · rw [if_neg ht] at ih'
      simp only [ht, if_true, if_false, Bool.false_eq_true, r165_25, r165_26, r165_27, r165_28, r165_31, nI_1]
      exact ih'
theorem m165 (d : Nat) (K : Option Value → tm_H → Prop) (h : kw G I R nw rp ch n oc pr tl fa ro dy rd q m) {r : Nat} (hr : r < m) : tm_R (d + 1) 165 [.ref 89, .int (nI r)] (G, I, J, R) K ↔ K (some (.int (I (16 + 3 * r) 0))) (G, I, J, R) := by
  have hm := h.2.2.1
  have := m165_l (G := G) (I := I) (J := J) (R := R) d K h hr 5 0 rfl
  rw [p_sh_5 (fun k h1 h2 => h.2.1.2.2.2.2 r k (by omega) h1 h2), nI_0] at this
  rw [e165]
  simp only [r165_0, r165_1, r165_2, r165_3]
  exact this
theorem c105 (d : Nat) (x y : Int32) (K : Option Value → tm_H → Prop) (hp : iv_p G I J R nw rp ch n oc pr tl fa ro dy rd) (h0 : ¬ tm_in y (nw + 1) → K (some (.int 0)) (G, I, J, R)) (h1 : ∀ q m I1, q ≤ nw → y = nI q → m ≤ 10 → iv_b G I1 R nw rp ch n oc pr tl fa ro dy rd → iv_c I1 J rp ch oc pr fa rd q m → K (some (.int (if tm_in x m then I1 (16 + 3 * tm_ix x) 0 else 0))) (G, I1, J, R)) : tm_R (d + 5) 105 [.ref 3, .int x, .int y] (G, I, J, R) K := by
  obtain ⟨hS, hR, -⟩ := hp.1
  rw [e105]
  simp only [r105_0, r105_1, r105_2, sh_3 hS, tm_in, or_true, true_or, tm_cs0, tm_cs1, tm_cs2, tm_cs3, tm_cs4, true_and, and_true, and_self, Option.toList_some, Option.toList_none, List.cons_append, List.nil_append, tm_rf_some, tm_rf_none]
  refine c109i d y _ hp (fun h => ?_) (fun q m I1 hq e hm hb hc => ?_)
  · simp only [r105_5, r105_19, r105_20, if_true, tm_in, or_true, true_or, tm_cs0, tm_cs1, tm_cs2, tm_cs3, tm_cs4, true_and, and_true, and_self, Option.toList_some, Option.toList_none, List.cons_append, List.nil_append, tm_rf_some, tm_rf_none]
    exact h0 h
  · simp only [r105_5, r105_8, r105_9, r105_12, r105_13, r105_16, r105_19, r105_20, show ¬ (1 : Int32) = 0 by decide, if_false, sh_3 hS, sh_14 hS, rf_3_2 hR, c46 _ _ _ hS hR hc.2.1.2.2.1 hm, tm_in, or_true, true_or, tm_cs0, tm_cs1, tm_cs2, tm_cs3, tm_cs4, true_and, and_true, and_self, Option.toList_some, Option.toList_none, List.cons_append, List.nil_append, tm_rf_some, tm_rf_none]
    exact h1 q m I1 hq e hm hb hc
theorem m166n (d : Nat) (x y : Int32) (K : Option Value → tm_H → Prop) (hp : iv_p G I J R nw rp ch n oc pr tl fa ro dy rd) (hy : ¬ tm_in y (nw + 1)) : tm_R (d + 3) 166 [.ref 89, .int x, .int y] (G, I, J, R) K ↔ K (some (.int 0)) (G, I, J, R) := by
  have hS := hp.1.1
  rw [e166]
  simp only [r166_0, r166_1, r166_2, r166_3, r166_6, r166_9, r166_10, sh_89 hS, m138n _ _ _ _ hp hy, not_true, if_false, tm_in, or_true, true_or, tm_cs0, tm_cs1, tm_cs2, tm_cs3, tm_cs4, true_and, and_true, and_self, Option.toList_some, Option.toList_none, List.cons_append, List.nil_append, tm_rf_some, tm_rf_none]
theorem m166 (d : Nat) (x : Int32) (K : Option Value → tm_H → Prop) (hb : iv_b G I R nw rp ch n oc pr tl fa ro dy rd) (hm : m ≤ 10) (hk : iv_kn I rp (rp + ch) fa rd q m) (hq : q ≤ nw) (hK : ∀ I', (∀ b k, ¬ scr b k → I' b k = I b k) → K (some (.int (if tm_in x m then I (16 + 3 * tm_ix x) 0 else 0))) (G, I', J, R)) : tm_R (d + 3) 166 [.ref 89, .int x, .int (nI q)] (G, I, J, R) K := by
  have hS := hb.1
  rw [e166]
  by_cases h1 : tm_in x m
  · rw [if_pos h1] at hK
    simp only [r166_0, r166_1, r166_2, r166_3, r166_6, r166_9, r166_10, r166_11, r166_12, r166_13, sh_89 hS, m138k _ _ _ hb hk hq, h1, if_true, show ¬ (1 : Int32) = 0 by decide, not_false_eq_true, tm_in, or_true, true_or, tm_cs0, tm_cs1, tm_cs2, tm_cs3, tm_cs4, true_and, and_true, and_self, Option.toList_some, Option.toList_none, List.cons_append, List.nil_append, tm_rf_some, tm_rf_none]
    refine m139k (d + 1) _ hb hq hm hk (fun I' hw he => ?_)
    have hx := q_of h1
    generalize tm_ix x = a at hx hK ⊢
    obtain ⟨rfl, ha⟩ := hx
    simp only [r166_16, r166_17, r166_18, r166_21, sh_89 hS, m165 _ _ hw ha, tm_in, or_true, true_or, tm_cs0, tm_cs1, tm_cs2, tm_cs3, tm_cs4, true_and, and_true, and_self, Option.toList_some, Option.toList_none, List.cons_append, List.nil_append, tm_rf_some, tm_rf_none]
    rw [scr_row he (b := 16 + 3 * a) (by omega)]
    exact hK I' he
  · rw [if_neg h1] at hK
    simp only [r166_0, r166_1, r166_2, r166_3, r166_6, r166_9, r166_10, sh_89 hS, m138k _ _ _ hb hk hq, h1, if_false, not_true, tm_in, or_true, true_or, tm_cs0, tm_cs1, tm_cs2, tm_cs3, tm_cs4, true_and, and_true, and_self, Option.toList_some, Option.toList_none, List.cons_append, List.nil_append, tm_rf_some, tm_rf_none]
    exact hK I (fun _ _ _ => rfl)
theorem bo_shape (d : Nat) (x y : Int32) (hi : iv (G, I, J, R)) : iv_both (d + 5) 105 166 [.int x, .int y] (G, I, J, R) := by
  have hi0 := hi
  obtain ⟨nw, rp, ch, n, oc, pr, tl, fa, ro, dy, rd, hp⟩ : ∃ (nw rp ch n oc pr : Nat) (tl fa ro dy rd : Nat → Nat), iv_p G I J R nw rp ch n oc pr tl fa ro dy rd := hi
  unfold iv_both
  refine c105 d x y _ hp (fun h => ?_) (fun q m I1 hq e hm hb hc => ?_)
  · rw [m166n (d + 2) x y _ hp h]
    exact iv_same _ hi0
  · subst e
    refine m166 (d + 2) x _ hb hm hc.2.1 hq (fun I' he => ?_)
    exact iv_same _ (iv_of (iv_b_scr hb he) hq (iv_c_scr hb hm hc he rfl))
end BPR
