/-! The reference: all groupings of a day. -/
theorem iI_sub (a b : Int) : iI a - iI b = iI (a - b) := (Int32.ofInt_sub a b).symm
theorem p_ng_b {nm : Nat → Int32} {hy : Int32 → Bool} {ho : Int32 → Nat} : ∀ n i t, ∃ t', p_ng nm hy ho i n (nI t) = nI t' ∧ t' ≤ t + 12 * n
  | 0, i, t => ⟨t, rfl, by omega⟩
  | n + 1, i, t => by
    rw [p_ng]
    by_cases h1 : nm i ≠ -1 ∧ hy (nm i) = true
    · rw [if_pos h1]
      by_cases h2 : 0 < ho (nm i) ∧ ho (nm i) ≤ 4
      · rw [if_pos h2]
        have e : (12 : Int32) / nI (ho (nm i)) = nI (12 / ho (nm i)) := pk_div (a := 12) (by omega) h2.1 (by omega)
        rw [e, nI_add]
        obtain ⟨t', a, b⟩ := p_ng_b n (i + 1) (t + 12 / ho (nm i))
        have : 12 / ho (nm i) ≤ 12 := Nat.div_le_self _ _
        exact ⟨t', a, by omega⟩
      · rw [if_neg h2]
        obtain ⟨t', a, b⟩ := p_ng_b n (i + 1) t
        exact ⟨t', a, by omega⟩
    · rw [if_neg h1]
      obtain ⟨t', a, b⟩ := p_ng_b n (i + 1) t
      exact ⟨t', a, by omega⟩
section MGR
variable {G : tm_G} {I I' : Nat → Nat → Int32} {J : Nat → Nat → Int64} {R : Nat → Nat → Option Nat} {nw rp ch n oc pr q m : Nat} {tl fa ro dy rd : Nat → Nat}
theorem ck_da (hb : iv_b G I R nw rp ch n oc pr tl fa ro dy rd) (hk : iv_kn I rp (rp + ch) fa rd q m) {r s : Nat} (hr : r < 10) (hs : s < 10) : ∃ z : Int, p_da I (16 + 3 * r) (16 + 3 * s) = iI z ∧ 0 ≤ z ∧ z ≤ 9999 := by
  unfold p_da
  by_cases h : p_dif I (16 + 3 * r) (16 + 3 * s) 1
  · rw [if_pos h]
    have h1 : tb (I (16 + 3 * r) 0) 1 = true := (tb_has (k := 1) (by decide)).mp h.1
    have h2 : tb (I (16 + 3 * s) 0) 1 = true := (tb_has (k := 1) (by decide)).mp h.2.1
    rcases iv_get hb hk hr (show 1 < 5 by decide) with ⟨-, a2, -⟩ | ⟨j, -, -, -, a4, -⟩
    · rw [a2] at h1; exact absurd h1 (by decide)
    rcases iv_get hb hk hs (show 1 < 5 by decide) with ⟨-, c2, -⟩ | ⟨j', -, -, -, c4, -⟩
    · rw [c2] at h2; exact absurd h2 (by decide)
    obtain ⟨-, x, hx, ex⟩ := a4 (by decide)
    obtain ⟨-, y, hy, ey⟩ := c4 (by decide)
    rw [ex, ey, ← iI_nat, ← iI_nat, iI_sub]
    have h0 : (0 : Int32) ≤ iI ((x : Int) - y) ↔ (0 : Int) ≤ (x : Int) - y := iI_le (a := 0) (by omega) (by omega)
    by_cases hz : (0 : Int) ≤ (x : Int) - y
    · rw [if_pos (h0.mpr hz)]
      exact ⟨_, rfl, hz, by omega⟩
    · rw [if_neg (fun z => hz (h0.mp z))]
      refine ⟨0 - ((x : Int) - y), iI_sub 0 _, by omega, by omega⟩
  · rw [if_neg h]
    exact ⟨0, rfl, by omega, by omega⟩
theorem ck_bd (hb : iv_b G I R nw rp ch n oc pr tl fa ro dy rd) (hk : iv_kn I rp (rp + ch) fa rd q m) (hm : m ≤ 10) (r s : Nat) : -1000 ≤ ck_C I m r s ∧ ck_C I m r s ≤ 1000 := by
  unfold ck_C
  by_cases g : r < m ∧ s < m
  · rw [if_pos g]
    obtain ⟨z, ez, z1, z2⟩ := ck_da hb hk (show r < 10 by omega) (show s < 10 by omega)
    unfold p_pc
    by_cases h : I (48 + 1 * r) s = 2 ∨ p_dif I (16 + 3 * r) (16 + 3 * s) 4 ∨ 9 < p_da I (16 + 3 * r) (16 + 3 * s)
    · rw [if_pos h]
      decide
    · rw [if_neg h]
      have h9 : ¬ 9 < p_da I (16 + 3 * r) (16 + 3 * s) := fun y => h (Or.inr (Or.inr y))
      rw [ez] at h9
      have h9' : z ≤ 9 := by
        have := (iI_le (a := z) (b := 9) (by omega) (by omega)).mp (Int32.not_lt.mp h9)
        exact this
      obtain ⟨t, et, ht⟩ := p_ng_b (nm := fun i => if i < ck_n I r then I (16 + 3 * r + 2) i else -1) (hy := fun z => p_hn (I (16 + 3 * s + 2)) z 0 (ck_n I s)) (ho := fun z => p_ho I (ck_n I) z 0 m) 3 0 0
      have eg : p_gain I (ck_n I) m r s = nI t := et
      rw [ez, eg, ← iI_nat, iI_sub]
      have e6 : ∀ (P : Prop) [Decidable P], (if P then (6 : Int32) else 0) = iI (if P then 6 else 0) := fun P _ => by split <;> rfl
      have e4 : ∀ (P : Prop) [Decidable P], (if P then (4 : Int32) else 0) = iI (if P then 4 else 0) := fun P _ => by split <;> rfl
      rw [e6, e4, iI_add, iI_add]
      have b6 : ∀ (P : Prop) [Decidable P], 0 ≤ (if P then (6 : Int) else 0) ∧ (if P then (6 : Int) else 0) ≤ 6 := fun P _ => by split <;> omega
      have b4 : ∀ (P : Prop) [Decidable P], 0 ≤ (if P then (4 : Int) else 0) ∧ (if P then (4 : Int) else 0) ≤ 4 := fun P _ => by split <;> omega
      have c6 := b6 (p_dif I (16 + 3 * r) (16 + 3 * s) 0)
      have c4 := b4 (p_np I (16 + 3 * r) (16 + 3 * s))
      rw [iI_toInt (by omega) (by omega)]
      omega
  · rw [if_neg g]
    omega
theorem ck_Ts (hh : iv_hd I rp) : ∀ r s, ck_T I r s → ck_T I s r ∧ r ≠ s := by
  rintro r s ⟨a, b, c⟩
  obtain ⟨h1, h2, h3⟩ := hh r s a b
  have h4 := (hh s r b a).1
  rw [h1] at c
  refine ⟨⟨b, a, ?_⟩, ?_⟩
  · rw [h4, ← h2]; exact c
  · rcases h3 with z | ⟨-, -, -, z⟩
    · rw [z] at c
      exact absurd c (by decide)
    · exact z
theorem m156_in (d : Nat) (K : Option Value → tm_H → Prop) (h : kw G I R nw rp ch n oc pr tl fa ro dy rd q m) {j : Nat} (hj : j < m) (o1 : Option Value) : ∀ (t k : Nat) (x : Nat → Int32), k + t = m → (∀ i, i < k → i ≠ j → x (10 * j + i) = p_pc I (ck_n I) m j i) → (∀ x', (∀ i, i < m → i ≠ j → x' (10 * j + i) = p_pc I (ck_n I) m j i) → (∀ y, y < 10 * j → x' y = x y) → tm_A (d + 4) 156 67 [some (.ref 89), o1, some (.int (nI j)), some (.int (nI m))] [] (G, upr I 107 x', J, R) K) → tm_A (d + 4) 156 17 [some (.ref 89), o1, some (.int (nI j)), some (.int (nI k))] [] (G, upr I 107 x, J, R) K := by
  have hS := h.1.1
  have hR := h.1.2.1
  have hm := h.2.2.1
  have hx : ∀ x, kw G (upr I 107 x) R nw rp ch n oc pr tl fa ro dy rd q m := fun x => kw_keep h (fun b k hs => by rw [upr_ne (by unfold scr at hs; omega)]) (upr_ne (by decide)) (upr_ne (by decide)) (by rw [upr_ne (by decide)])
  have hpc : ∀ x, ∀ i, i < m → p_pc (upr I 107 x) (ck_n (upr I 107 x)) m j i = p_pc I (ck_n I) m j i := fun x i hi => by
    have h57 : ∀ b, 16 ≤ b → b ≤ 57 → upr I 107 x b = I b := fun b h1 h2 => upr_ne (by omega)
    rw [p_pc_congr h57 _ hm (by omega) (by omega), p_pc_cn (ck_congr_n h57) hm (by omega) (by omega)]
  intro t
  induction t with
  | zero =>
    intro k x hk hxx hK
    have : k = m := by omega
    subst this
    have hc : nI k ≤ nI k := Int32.le_refl _
    rw [r156_17]
    simp only [r156_18, r156_19, r156_22, sh_89 hS, (hx x).2.2.2.1, hc, if_true, tm_in, or_true, true_or, tm_cs0, tm_cs1, tm_cs2, tm_cs3, tm_cs4, true_and, and_true, and_self, Option.toList_some, Option.toList_none, List.cons_append, List.nil_append, tm_rf_some, tm_rf_none]
    exact hK x hxx (fun y _ => rfl)
  | succ t ih =>
    intro k x hk hxx hK
    have hc : ¬ nI m ≤ nI k := fun z => by
      have := (q_le (a := m) (b := k) rfl rfl (by omega) (by omega)).mp z
      omega
    have ij : tm_in (nI j) 10 := q_in (by omega) (by decide)
    have ik : tm_in (nI k) 10 := q_in (by omega) (by decide)
    have e1 : (10 : Int32) * nI j + nI k = nI (10 * j + k) := by rw [show (10 : Int32) = nI 10 from rfl, pk_mul, nI_add]
    have i1 : tm_in (nI (10 * j + k)) 100 := q_in (by omega) (by decide)
    have hjk : nI j = nI k ↔ j = k := nI_eq (by omega) (by omega)
    have hcs : tm_cs [Value.int (nI (10 * j + k)), Value.ref 107] := by simp [tm_cs, Value.category]
    have next : ∀ v : Int32, (k ≠ j → v = p_pc I (ck_n I) m j k) → tm_A (d + 4) 156 60 [some (.ref 89), o1, some (.int (nI j)), some (.int (nI k))] [.int v, .int (nI (10 * j + k)), .ref 107] (G, upr I 107 x, J, R) K := fun v hv => by
      simp only [r156_60, r156_61, r156_64, sh_107 hS, i1, q_ix (show 10 * j + k < 2147483648 by omega), up2_upr, nI_1, show 3 ≤ 107 by decide, tm_in, or_true, true_or, tm_cs0, tm_cs1, tm_cs2, tm_cs3, tm_cs4, true_and, and_true, and_self, Option.toList_some, Option.toList_none, List.cons_append, List.nil_append, tm_rf_some, tm_rf_none]
      refine ih (k + 1) _ (by omega) (fun i hi hne => ?_) (fun x' h1 h2 => hK x' h1 (fun y hy => ?_))
      · by_cases e : i = k
        · subst e; rw [if_pos rfl]; exact hv hne
        · rw [if_neg (by omega)]
          exact hxx i (by omega) hne
      · rw [h2 y hy, if_neg (by omega)]
    rw [r156_17]
    simp only [r156_18, r156_19, r156_22, r156_25, r156_26, r156_29, r156_31, r156_32, r156_33, r156_34, r156_35, r156_36, r156_37, sh_89 hS, rf_89_29 hR, (hx x).2.2.2.1, hc, if_false, e1, hjk, tm_in, or_true, true_or, tm_cs0, tm_cs1, tm_cs2, tm_cs3, tm_cs4, true_and, and_true, and_self, Option.toList_some, Option.toList_none, List.cons_append, List.nil_append, tm_rf_some, tm_rf_none]
    by_cases e : j = k
    · have nx := next 0 (fun z => absurd e.symm z)
      rw [e] at nx
      simp only [e, not_true, if_false, r156_40, r156_41]
      exact nx
    · simp only [e, not_false_eq_true, if_true, r156_44, r156_45, r156_46, r156_49, r156_50, r156_51, r156_52, r156_55, r156_56, r156_57, sh_89 hS, sh_105 hS, rf_89_27 hR, ij, ik, q_ix (show j < 2147483648 by omega), q_ix (show k < 2147483648 by omega), (hx x).2.2.2.2.1 j hj, (hx x).2.2.2.2.1 k (by omega), m152 _ _ (hx x) hj (show k < m by omega), hpc x k (by omega), hcs, tm_in, or_true, true_or, tm_cs0, tm_cs1, tm_cs2, tm_cs3, tm_cs4, true_and, and_true, and_self, Option.toList_some, Option.toList_none, List.cons_append, List.nil_append, tm_rf_some, tm_rf_none]
      exact next _ (fun _ => rfl)
theorem m156_l (d : Nat) (K : Option Value → tm_H → Prop) (h : kw G I R nw rp ch n oc pr tl fa ro dy rd q m) (o1 : Option Value) : ∀ (t j : Nat) (x : Nat → Int32) (o3 : Option Value), j + t = m → (∀ a i, a < j → i < m → i ≠ a → x (10 * a + i) = p_pc I (ck_n I) m a i) → (∀ x' o3', (∀ a i, a < m → i < m → i ≠ a → x' (10 * a + i) = p_pc I (ck_n I) m a i) → tm_A (d + 4) 156 73 [some (.ref 89), o1, some (.int (nI m)), o3'] [] (G, upr I 107 x', J, R) K) → tm_A (d + 4) 156 7 [some (.ref 89), o1, some (.int (nI j)), o3] [] (G, upr I 107 x, J, R) K := by
  have hS := h.1.1
  have hm := h.2.2.1
  have h26 : ∀ x, upr I 107 x 89 26 = nI m := fun x => by rw [upr_ne (by decide)]; exact h.2.2.2.1
  intro t
  induction t with
  | zero =>
    intro j x o3 hj hx hK
    have : j = m := by omega
    subst this
    have hc : nI j ≤ nI j := Int32.le_refl _
    rw [r156_7]
    simp only [r156_8, r156_9, r156_12, sh_89 hS, h26, hc, if_true, tm_in, or_true, true_or, tm_cs0, tm_cs1, tm_cs2, tm_cs3, tm_cs4, true_and, and_true, and_self, Option.toList_some, Option.toList_none, List.cons_append, List.nil_append, tm_rf_some, tm_rf_none]
    exact hK x o3 hx
  | succ t ih =>
    intro j x o3 hj hx hK
    have hc : ¬ nI m ≤ nI j := fun z => by
      have := (q_le (a := m) (b := j) rfl rfl (by omega) (by omega)).mp z
      omega
    rw [r156_7]
    simp only [r156_8, r156_9, r156_12, r156_15, r156_16, sh_89 hS, h26, hc, if_false, tm_in, or_true, true_or, tm_cs0, tm_cs1, tm_cs2, tm_cs3, tm_cs4, true_and, and_true, and_self, Option.toList_some, Option.toList_none, List.cons_append, List.nil_append, tm_rf_some, tm_rf_none]
    rw [← nI_0]
    refine m156_in d K h (show j < m by omega) o1 m 0 x (by omega) (fun i hi => by omega) (fun x' h1 h2 => ?_)
    simp only [r156_67, r156_70, nI_1]
    refine ih (j + 1) x' _ (by omega) (fun a i ha hi hne => ?_) hK
    by_cases e : a = j
    · subst e; exact h1 i hi hne
    · rw [h2 _ (by omega)]
      exact hx a i (by omega) hi hne
theorem m156 (d : Nat) (K : Option Value → tm_H → Prop) (hb : iv_b G I R nw rp ch n oc pr tl fa ro dy rd) (hq : q ≤ nw) (hm : m ≤ 10) (hk : iv_kn I rp (rp + ch) fa rd q m) (hK : ∀ I' B fd bc bg bw, (∀ b k, ¬ scr b k → I' b k = I b k) → kw G I' R nw rp ch n oc pr tl fa ro dy rd q m → I' 89 34 = fd → I' 89 32 = bc → I' 89 33 = bg → I' 109 = bw → gp_post (ck_C I m) oc m (gp_V (ck_C I m) (ck_T I) m 0 (fun _ => 0)) none B → dp_st (ck_C I m) (ck_T I) oc m B fd bc bg bw → K (some (.int fd)) (G, I', J, R)) : tm_R (d + 13) 156 [.ref 89, .int (nI q)] (G, I, J, R) K := by
  have hS := hb.1
  have hR := hb.2.1
  have s6 := hb.2.2.2.1.2.2.2.2.2.1
  have hh := hb.2.2.2.2.2.1
  rw [e156]
  simp only [r156_0, r156_1, r156_2, sh_89 hS, tm_in, or_true, true_or, tm_cs0, tm_cs1, tm_cs2, tm_cs3, tm_cs4, true_and, and_true, and_self, Option.toList_some, Option.toList_none, List.cons_append, List.nil_append, tm_rf_some, tm_rf_none]
  refine m139k (d + 11) _ hb hq hm hk (fun I1 hw he => ?_)
  simp only [r156_5, r156_6, tm_in, or_true, true_or, tm_cs0, tm_cs1, tm_cs2, tm_cs3, tm_cs4, true_and, and_true, and_self, Option.toList_some, Option.toList_none, List.cons_append, List.nil_append, tm_rf_some, tm_rf_none]
  have h57 : ∀ b, 16 ≤ b → b ≤ 57 → I1 b = I b := fun b h1 h2 => scr_row he (by omega)
  have hpc : ∀ a i, a < m → i < m → p_pc I1 (ck_n I1) m a i = iI (ck_C I m a i) := fun a i ha hi => by
    rw [p_pc_congr h57 _ hm (by omega) (by omega), p_pc_cn (ck_congr_n h57) hm (by omega) (by omega)]
    unfold ck_C
    rw [if_pos ⟨ha, hi⟩, iI_of]
  have hu : I1 = upr I1 107 (I1 107) := upr_self.symm
  rw [← nI_0]
  have l := m156_l (G := G) (I := I1) (J := J) (R := R) (d + 9) K hw (some (.int (nI q))) m 0 (I1 107) none (by omega) (fun a i ha => by omega) (fun x' o3' hx' => ?_)
  · rw [← hu] at l
    exact l
  · simp only [r156_73, r156_74, r156_75, r156_78, r156_79, r156_80, r156_83, r156_84, r156_85, r156_88, r156_89, r156_90, r156_91, r156_92, sh_89 hS, tm_z0, tm_in, or_true, true_or, tm_cs0, tm_cs1, tm_cs2, tm_cs3, tm_cs4, true_and, and_true, and_self, Option.toList_some, Option.toList_none, List.cons_append, List.nil_append, tm_rf_some, tm_rf_none]
    generalize hX : up2 (up2 (up2 (upr I1 107 x') 89 34 0) 89 32 0) 89 33 0 = X
    have xscr : ∀ b k, ¬ scr b k → X b k = I1 b k := fun b k hs => by
      rw [← hX]
      unfold scr at hs
      by_cases h9 : b = 89
      · subst h9
        rw [up2_ne (by omega), up2_ne (by omega), up2_ne (by omega), upr_ne (by decide)]
      · rw [up2_row h9, up2_row h9, up2_row h9, upr_ne (by omega)]
    have xo : ∀ b, b ≠ 89 → b ≠ 107 → X b = I1 b := fun b h1 h2 => by rw [← hX, up2_row h1, up2_row h1, up2_row h1, upr_ne h2]
    have x26 : X 89 26 = I1 89 26 := by rw [← hX, up2_ne (by decide), up2_ne (by decide), up2_ne (by decide), upr_ne (by decide)]
    have x3 : X 89 3 = nI oc := by
      rw [xscr 89 3 (by unfold scr; omega), he 89 3 (by unfold scr; omega)]
      exact s6.2.1
    have x107 : X 107 = x' := by rw [← hX, up2_row (by decide), up2_row (by decide), up2_row (by decide), upr_at]
    have es : X = tp_dp X 0 0 0 (X 109) (X 108) := by
      have z1 : X 89 34 = 0 := by rw [← hX, up2_ne (by decide), up2_ne (by decide), up2_at]
      have z2 : X 89 32 = 0 := by rw [← hX, up2_ne (by decide), up2_at]
      have z3 : X 89 33 = 0 := by rw [← hX, up2_at]
      funext b k
      simp only [tp_dp]
      by_cases h9 : b = 89
      · subst h9
        rw [if_pos rfl]
        by_cases k1 : k = 34
        · subst k1; rw [if_pos rfl, z1]
        · rw [if_neg k1]
          by_cases k2 : k = 32
          · subst k2; rw [if_pos rfl, z2]
          · rw [if_neg k2]
            by_cases k3 : k = 33
            · subst k3; rw [if_pos rfl, z3]
            · rw [if_neg k3]
      · rw [if_neg h9]
        by_cases h1 : b = 109
        · subst h1; rw [if_pos rfl]
        · rw [if_neg h1]
          by_cases h2 : b = 108
          · subst h2; rw [if_pos rfl]
          · rw [if_neg h2]
    have hT : dp_tab X (ck_C I m) (fun j k => decide (I 106 (10 * j + k) = 1)) m oc := by
      refine ⟨by rw [x26]; exact hw.2.2.2.1, hm, x3, s6.2.2, fun r hr => by rw [xo 105 (by decide) (by decide)]; exact hw.2.2.2.2.1 r hr, fun j k hj hk2 => ?_, fun j k hj hk2 => ?_, ck_bd hb hk hm⟩
      · rw [xo 106 (by decide) (by decide), scr_row he (b := 106) (by omega)]
        simp
      · rw [x107, hx' j k (by omega) hk2 (by omega)]
        exact hpc j k (by omega) hk2
    have hTb : ∀ j k, j < m → k < m → ((fun j k => decide (I 106 (10 * j + k) = 1)) j k = true ↔ ck_T I j k) := fun j k hj hk2 => by
      have := (hh j k (by omega) (by omega)).1
      simp only [decide_eq_true_eq]
      unfold ck_T
      rw [this]
      exact ⟨fun z => ⟨by omega, by omega, z⟩, fun z => z.2.2⟩
    have call := m155 (G := G) (I := X) (J := J) (R := R) (T := ck_T I) (d + 10 - m) hS hR hT (ck_Ts hh) hTb m 0 0 (fun _ => 0) (fun _ => 0) none 0 0 0 (X 109) (X 108) (fun r h' => tm_A (d + 12 + 1) 156 95 [some (.ref 89), some (.int (nI q)), some (.int (nI m)), o3'] (r.toList ++ []) h' K) (by omega) (by omega) (gp_rel_0 _ _) ⟨fun j r _ h => by omega, fun j r _ h => by omega⟩ (fun j hj => by omega) (Or.inl ⟨rfl, rfl⟩) (fun b hb2 => by cases hb2) (fun B fd bc bg bw way hpo hst _ => ?_)
    · rw [show d + 10 - m + m + 2 = d + 12 by omega, ← es] at call
      exact call
    · simp only [r156_95, r156_96, r156_99, sh_89 hS, dp_34, tm_in, or_true, true_or, tm_cs0, tm_cs1, tm_cs2, tm_cs3, tm_cs4, true_and, and_true, and_self, Option.toList_some, Option.toList_none, List.cons_append, List.nil_append, tm_rf_some, tm_rf_none]
      have hfd : fd = 0 ∨ fd = 1 := by
        rcases hst with ⟨-, z⟩ | ⟨b, w, g, -, z, -⟩
        · exact Or.inl z
        · exact Or.inr z
      refine ⟨hfd, hK _ B fd bc bg bw (fun b k hs => by rw [dp_scr hs, xscr b k hs, he b k hs]) ?_ dp_34 dp_32 dp_33 dp_109 hpo hst⟩
      exact kw_keep hw (fun b k hs => by rw [dp_scr hs, xscr b k hs]) (by rw [dp_o (by decide) (by decide) (by decide), xo 104 (by decide) (by decide)]) (by rw [dp_o (by decide) (by decide) (by decide), xo 105 (by decide) (by decide)]) (by rw [dp_89 (by decide), x26])
end MGR
