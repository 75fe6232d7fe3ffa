/-! How many happened at a place: on both. -/
section BAT
variable {G : tm_G} {I I' : Nat → Nat → Int32} {J : Nat → Nat → Int64} {R : Nat → Nat → Option Nat} {nw rp ch n oc pr q m g : Nat} {tl fa ro dy rd b w : Nat → Nat}
def p_atc (I : Nat → Nat → Int32) (b : Nat → Nat) (m : Nat) (x : Int32) (r : Nat) : Bool := decide (b r = r) && decide (p_al I (fun i => decide (b i = r)) m 0 = x)
def p_atm (I : Nat → Nat → Int32) (w : Nat → Nat) (m : Nat) (x : Int32) (r : Nat) : Bool := decide (p_al I (fun i => decide (w i = r)) m 0 = x)
theorem p_at_eq (e : ∀ b k, ¬ scr b k → I' b k = I b k) (hm : m ≤ 10) (hr : gp_rel m g w b) (x : Int32) : p_cn (p_atm I' w m x) g 0 = p_cn (p_atc I b m x) m 0 := by
  have e1 := gp_n_cn (p_atm I' w m x) g 0
  have e2 := gp_n_cn (p_atc I b m x) m 0
  rw [Nat.zero_add] at e1 e2
  have h5 := hr.2.2.2.2 (fun j => if p_atm I' w m x j = true then 1 else 0)
  have hc : gp_n (fun j => if b j = j then (fun j => if p_atm I' w m x j = true then 1 else 0) (w j) else 0) m = gp_n (fun j => if p_atc I b m x j = true then 1 else 0) m := by
    have l : ∀ k, k ≤ m → gp_n (fun j => if b j = j then (fun j => if p_atm I' w m x j = true then 1 else 0) (w j) else 0) k = gp_n (fun j => if p_atc I b m x j = true then 1 else 0) k := by
      intro k
      induction k with
      | zero => intro _; rfl
      | succ k ih =>
        intro hk
        rw [gp_n, gp_n, ih (by omega)]
        congr 1
        by_cases hb : b k = k
        · have ea : p_al I' (fun i => decide (w i = w k)) m 0 = p_al I (fun i => decide (b i = k)) m 0 := p_al_c e hm (fun i hi => by
            have := gr_sel hr hi (show k < m by omega)
            rw [hb] at this
            simp only [this]) 0
          unfold p_atm p_atc
          simp only [hb, if_true, ea, decide_true, Bool.true_and]
        · unfold p_atc
          simp only [hb, if_false, decide_false, Bool.false_and, Bool.false_eq_true]
    exact l m (Nat.le_refl _)
  rw [hc] at h5
  have z1 : gp_n (fun j => if p_atm I' w m x j = true then 1 else 0) 0 = 0 := rfl
  have z2 : gp_n (fun j => if p_atc I b m x j = true then 1 else 0) 0 = 0 := rfl
  omega
theorem c104t (d : Nat) (x : Int32) (o2 : Option Value) (K : Option Value → tm_H → Prop) (hS : tp_S G) (hR : tp_R R) (h : cf_ok I m b) (hv : cf_v I m 0) : ∀ (n r c : Nat), r + n = m → (tm_A (d + 4) 104 25 [some (.ref 3), some (.int x), o2, some (.int (nI c)), some (.int (nI r))] [] (G, I, J, R) K ↔ K (some (.int (nI (c + p_cn (p_atc I b m x) n r)))) (G, I, J, R)) := by
  have h0 := h
  obtain ⟨h1, h2, h3, h4⟩ := h0
  intro n
  induction n with
  | zero =>
    intro r c hr
    have : r = m := by omega
    subst this
    have hc : nI r ≤ nI r := Int32.le_refl _
    rw [r104_25]
    simp only [r104_27, r104_28, r104_31, r104_34, r104_71, r104_72, sh_3 hS, sh_14 hS, rf_3_2 hR, c42 _ _ hS, h2, hc, if_true, p_cn, Nat.add_zero, tm_in, or_true, true_or, tm_cs0, tm_cs1, tm_cs2, tm_cs3, tm_cs4, true_and, and_true, and_self, Option.toList_some, Option.toList_none, List.cons_append, List.nil_append, tm_rf_some, tm_rf_none]
  | succ n ih =>
    intro r c hr
    have hrm : r < m := by omega
    have hc : ¬ nI m ≤ nI r := fun z => by
      have := (q_le (a := m) (b := r) rfl rfl (by omega) (by omega)).mp z
      omega
    have hb := (h4 r hrm).2
    have he : nI (b r) = nI r ↔ b r = r := nI_eq (by omega) (by omega)
    have a0 : ∀ K : Option Value → tm_H → Prop, (tm_R (d + 3) 112 [.ref 3, .int (nI r), .int 0] (G, I, J, R) K ↔ K (some (.int (p_al I (fun i => decide (b i = r)) m 0))) (G, I, J, R)) := fun K => c112 d K hS hR h hrm (show 0 < 5 by decide) hv
    rw [r104_25, p_cn]
    simp only [r104_27, r104_28, r104_31, r104_34, r104_37, r104_38, r104_41, r104_43, r104_46, r104_48, sh_3 hS, sh_14 hS, sh_71 hS, rf_3_2 hR, rf_3_5 hR, c42 _ _ hS, h2, hc, if_false, c31k _ _ hS hR h hrm, he, tm_in, or_true, true_or, tm_cs0, tm_cs1, tm_cs2, tm_cs3, tm_cs4, true_and, and_true, and_self, Option.toList_some, Option.toList_none, List.cons_append, List.nil_append, tm_rf_some, tm_rf_none]
    by_cases e : b r = r
    · have e' : ¬ ¬ b r = r := fun z => z e
      rw [if_neg e']
      simp only [r104_51, r104_52, r104_54, r104_55, r104_58, r104_59, sh_3 hS, a0, tm_in, or_true, true_or, tm_cs0, tm_cs1, tm_cs2, tm_cs3, tm_cs4, true_and, and_true, and_self, Option.toList_some, Option.toList_none, List.cons_append, List.nil_append, tm_rf_some, tm_rf_none]
      by_cases z : p_al I (fun i => decide (b i = r)) m 0 = x
      · have hs : p_atc I b m x r = true := by unfold p_atc; simp [e, z]
        have z' : ¬ ¬ p_al I (fun i => decide (b i = r)) m 0 = x := fun y => y z
        rw [if_neg z', if_pos hs]
        simp only [r104_62, r104_65, r104_68, nI_1]
        rw [← Nat.add_assoc]
        exact ih (r + 1) (c + 1) (by omega)
      · have hs : ¬ p_atc I b m x r = true := by unfold p_atc; simp [z]
        rw [if_pos z, if_neg hs]
        simp only [r104_65, r104_68, nI_1, Nat.zero_add]
        exact ih (r + 1) c (by omega)
    · have hs : ¬ p_atc I b m x r = true := by unfold p_atc; simp [e]
      rw [if_pos e, if_neg hs]
      simp only [r104_65, r104_68, nI_1, Nat.zero_add]
      exact ih (r + 1) c (by omega)
theorem c104 (d e : Nat) (x y : Int32) (K : Option Value → tm_H → Prop) (hp : iv_p G I J R nw rp ch n oc pr tl fa ro dy rd) (hx0 : ¬ tm_in x 100 → K (some (.int (-1))) (G, I, J, R)) (h0 : tm_in x 100 → ¬ tm_in y (nw + 1) → K (some (.int (-1))) (G, I, J, R)) (hN : ∀ q m I1 J1 I', tm_in x 100 → y = nI q → gx e 0 G I1 I' J1 R nw rp ch n oc pr tl fa ro dy rd q m → K (some (.int (-1))) (G, I1, J1, R)) (hY : ∀ q m I1 J1 I' b w g, tm_in x 100 → y = nI q → gx e 1 G I1 I' J1 R nw rp ch n oc pr tl fa ro dy rd q m → gy I1 I' J1 oc m b w g → K (some (.int (nI (p_cn (p_atc I1 b m x) m 0)))) (G, I1, J1, R)) : tm_R (d + 8) 104 [.ref 3, .int x, .int y] (G, I, J, R) K := by
  obtain ⟨hS, hR, -⟩ := hp.1
  have hq : (0 ≤ x ∧ x ≤ 99) ↔ tm_in x 100 := q_inI2 (N := 99) (n := 99) rfl (by decide)
  rw [e104]
  by_cases hx : tm_in x 100
  · obtain ⟨g1, g2⟩ := hq.mpr hx
    have n1 : ¬ x < 0 := Int32.not_lt.mpr g1
    have n2 : ¬ (99 : Int32) < x := Int32.not_lt.mpr g2
    simp only [r104_0, r104_1, r104_4, r104_5, r104_7, r104_10, r104_11, r104_12, sh_3 hS, n1, n2, if_false, tm_in, or_true, true_or, tm_cs0, tm_cs1, tm_cs2, tm_cs3, tm_cs4, true_and, and_true, and_self, Option.toList_some, Option.toList_none, List.cons_append, List.nil_append, tm_rf_some, tm_rf_none]
    refine c110x d e y _ hp (fun h => ?_) (fun q m I1 J1 I' ey h1 => ?_) (fun q m I1 J1 I' b w g ey h1 h2 => ?_)
    · simp only [r104_15, r104_18, r104_19, not_true, if_false, tm_in, or_true, true_or, tm_cs0, tm_cs1, tm_cs2, tm_cs3, tm_cs4, true_and, and_true, and_self, Option.toList_some, Option.toList_none, List.cons_append, List.nil_append, tm_rf_some, tm_rf_none]
      exact h0 hx h
    · simp only [r104_15, r104_18, r104_19, not_true, if_false, tm_in, or_true, true_or, tm_cs0, tm_cs1, tm_cs2, tm_cs3, tm_cs4, true_and, and_true, and_self, Option.toList_some, Option.toList_none, List.cons_append, List.nil_append, tm_rf_some, tm_rf_none]
      exact hN q m I1 J1 I' hx ey h1
    · have hk := hY q m I1 J1 I' b w g hx ey h1 h2
      simp only [r104_15, r104_20, r104_21, r104_22, r104_23, show ¬ (1 : Int32) = 0 by decide, not_false_eq_true, if_true, tm_in, or_true, true_or, tm_cs0, tm_cs1, tm_cs2, tm_cs3, tm_cs4, true_and, and_true, and_self, Option.toList_some, Option.toList_none, List.cons_append, List.nil_append, tm_rf_some, tm_rf_none]
      have := c104t (G := G) (I := I1) (J := J1) (R := R) (d + 4) x (some (.int y)) K hS hR h2.2.1 (gx_v h1 (show 0 < 5 by decide) (by decide)) m 0 0 (by omega)
      rw [nI_0, Nat.zero_add] at this
      exact this.mpr hk
  · have hk := hx0 hx
    by_cases n1 : x < 0
    · simp only [r104_0, r104_1, r104_18, r104_19, n1, if_true]
      exact hk
    · have n2 : (99 : Int32) < x := Int32.not_le.mp (fun z => hx (hq.mp ⟨Int32.not_lt.mp n1, z⟩))
      simp only [r104_0, r104_1, r104_4, r104_5, r104_7, r104_18, r104_19, n1, n2, if_true, if_false]
      exact hk
theorem m164x (d : Nat) (x y : Int32) (K : Option Value → tm_H → Prop) (hS : tp_S G) (hx : ¬ tm_in x 100) : tm_R (d + 3) 164 [.ref 89, .int x, .int y] (G, I, J, R) K ↔ K (some (.int (-1))) (G, I, J, R) := by
  have hq : (0 ≤ x ∧ x ≤ 99) ↔ tm_in x 100 := q_inI2 (N := 99) (n := 99) rfl (by decide)
  rw [e164]
  simp only [r164_0, r164_1, r164_2, r164_4, r164_7, r164_30, r164_31, m117, hq, hx, if_true, if_false, tm_in, or_true, true_or, tm_cs0, tm_cs1, tm_cs2, tm_cs3, tm_cs4, true_and, and_true, and_self, Option.toList_some, Option.toList_none, List.cons_append, List.nil_append, tm_rf_some, tm_rf_none]
theorem m164n (d : Nat) (x y : Int32) (K : Option Value → tm_H → Prop) (hp : iv_p G I J R nw rp ch n oc pr tl fa ro dy rd) (hx : tm_in x 100) (hy : ¬ tm_in y (nw + 1)) : tm_R (d + 3) 164 [.ref 89, .int x, .int y] (G, I, J, R) K ↔ K (some (.int (-1))) (G, I, J, R) := by
  have hS := hp.1.1
  have hd := iv_day hp.1 y
  have hq : (0 ≤ x ∧ x ≤ 99) ↔ tm_in x 100 := q_inI2 (N := 99) (n := 99) rfl (by decide)
  rw [e164]
  simp only [r164_0, r164_1, r164_2, r164_4, r164_7, r164_10, r164_11, r164_12, r164_13, r164_16, r164_19, r164_30, r164_31, sh_89 hS, m117, hq, hx, hd, hy, if_true, if_false, show ¬ (1 : Int32) = 0 by decide, tm_in, or_true, true_or, tm_cs0, tm_cs1, tm_cs2, tm_cs3, tm_cs4, true_and, and_true, and_self, Option.toList_some, Option.toList_none, List.cons_append, List.nil_append, tm_rf_some, tm_rf_none]
theorem m164z (d : Nat) (x : Int32) (K : Option Value → tm_H → Prop) (hx : tm_in x 100) (h : gx d 0 G I I' J R nw rp ch n oc pr tl fa ro dy rd q m) : tm_R (d + 14) 164 [.ref 89, .int x, .int (nI q)] (G, I, J, R) K ↔ K (some (.int (-1))) (G, I', J, R) := by
  obtain ⟨h1, h2, h3, h4, h5, h6, h7⟩ := h
  have hS := h3.1
  have hd := iv_day h3 (nI q)
  have hin : tm_in (nI q) (nw + 1) := q_in (by omega) (by have := h3.2.2.2.1.1.2.2; omega)
  have hq : (0 ≤ x ∧ x ≤ 99) ↔ tm_in x 100 := q_inI2 (N := 99) (n := 99) rfl (by decide)
  rw [e164]
  simp only [r164_0, r164_1, r164_2, r164_4, r164_7, r164_10, r164_11, r164_12, r164_13, r164_16, r164_19, r164_22, r164_23, r164_24, r164_27, r164_30, r164_31, sh_89 hS, m117, hq, hx, hd, hin, if_true, if_false, not_true, show ¬ (1 : Int32) = 0 by decide, h7, tm_in, or_true, true_or, tm_cs0, tm_cs1, tm_cs2, tm_cs3, tm_cs4, true_and, and_true, and_self, Option.toList_some, Option.toList_none, List.cons_append, List.nil_append, tm_rf_some, tm_rf_none]
theorem m164y (d : Nat) (x : Int32) (K : Option Value → tm_H → Prop) (hx : tm_in x 100) (h : gx d 1 G I I' J R nw rp ch n oc pr tl fa ro dy rd q m) (hg : gy I I' J oc m b w g) : tm_R (d + 14) 164 [.ref 89, .int x, .int (nI q)] (G, I, J, R) K ↔ K (some (.int (nI (p_cn (p_atc I b m x) m 0)))) (G, I', J, R) := by
  obtain ⟨h1, h2, h3, h4, h5, h6, h7⟩ := h
  obtain ⟨g1, g2, g3, g4⟩ := hg
  have hS := h3.1
  have hd := iv_day h3 (nI q)
  have hin : tm_in (nI q) (nw + 1) := q_in (by omega) (by have := h3.2.2.2.1.1.2.2; omega)
  have hq : (0 ≤ x ∧ x ≤ 99) ↔ tm_in x 100 := q_inI2 (N := 99) (n := 99) rfl (by decide)
  have hG : I' 89 33 = nI g := g1.2.2.2.1
  have g10 := g3.1
  rw [← p_at_eq h6 h2 g1.2.1 x, e164]
  simp only [r164_0, r164_1, r164_2, r164_4, r164_7, r164_10, r164_11, r164_12, r164_13, r164_16, r164_19, r164_22, r164_23, r164_24, r164_27, r164_32, r164_33, r164_34, r164_35, sh_89 hS, m117, hq, hx, hd, hin, if_true, if_false, not_false_eq_true, show ¬ (1 : Int32) = 0 by decide, h7, tm_in, or_true, true_or, tm_cs0, tm_cs1, tm_cs2, tm_cs3, tm_cs4, true_and, and_true, and_self, Option.toList_some, Option.toList_none, List.cons_append, List.nil_append, tm_rf_some, tm_rf_none]
  have l : ∀ (n r c : Nat), r + n = g → (tm_A (d + 14) 164 37 [some (.ref 89), some (.int x), some (.int (nI q)), some (.int (nI c)), some (.int (nI r))] [] (G, I', J, R) K ↔ K (some (.int (nI (c + p_cn (p_atm I' w m x) n r)))) (G, I', J, R)) := by
    intro n
    induction n with
    | zero =>
      intro r c hr
      have : r = g := by omega
      subst this
      have hc : nI r ≤ nI r := Int32.le_refl _
      rw [r164_37]
      simp only [r164_39, r164_40, r164_43, r164_71, r164_72, sh_89 hS, hG, hc, if_true, p_cn, Nat.add_zero, tm_in, or_true, true_or, tm_cs0, tm_cs1, tm_cs2, tm_cs3, tm_cs4, true_and, and_true, and_self, Option.toList_some, Option.toList_none, List.cons_append, List.nil_append, tm_rf_some, tm_rf_none]
    | succ n ih =>
      intro r c hr
      have hc : ¬ nI g ≤ nI r := fun z => by
        have := (q_le (a := g) (b := r) rfl rfl (by omega) (by omega)).mp z
        omega
      have a0 : ∀ K : Option Value → tm_H → Prop, (tm_R (d + 13) 161 [.ref 89, .int (nI r), .int 0] (G, I', J, R) K ↔ K (some (.int (p_al I' (fun i => decide (w i = r)) m 0))) (G, I', J, R)) := fun K => m161 (d + 12) K h5 g3 (show r < 10 by omega) (show 0 < 5 by decide) (by decide)
      rw [r164_37, p_cn]
      simp only [r164_39, r164_40, r164_43, r164_46, r164_47, r164_48, r164_50, r164_51, r164_54, r164_55, sh_89 hS, hG, hc, if_false, a0, tm_in, or_true, true_or, tm_cs0, tm_cs1, tm_cs2, tm_cs3, tm_cs4, true_and, and_true, and_self, Option.toList_some, Option.toList_none, List.cons_append, List.nil_append, tm_rf_some, tm_rf_none]
      by_cases z : p_al I' (fun i => decide (w i = r)) m 0 = x
      · have hs : p_atm I' w m x r = true := by unfold p_atm; simp [z]
        have z' : ¬ ¬ p_al I' (fun i => decide (w i = r)) m 0 = x := fun y => y z
        rw [if_neg z', if_pos hs]
        simp only [r164_58, r164_59, r164_63, r164_64, r164_65, r164_68, nI_1]
        rw [← Nat.add_assoc]
        exact ih (r + 1) (c + 1) (by omega)
      · have hs : ¬ p_atm I' w m x r = true := by unfold p_atm; simp [z]
        rw [if_pos z, if_neg hs]
        simp only [r164_62, r164_63, r164_64, r164_65, r164_68, nI_1, Nat.zero_add]
        have e0 : nI c + 0 = nI c := by rw [show (0 : Int32) = nI 0 from rfl, nI_add]; rfl
        rw [e0]
        exact ih (r + 1) c (by omega)
  have := l g 0 0 (by omega)
  rw [nI_0, Nat.zero_add] at this
  exact this
theorem bo_at (d : Nat) (x y : Int32) (hi : iv (G, I, J, R)) : iv_both (d + 14) 104 164 [.int x, .int y] (G, I, J, R) := by
  have hi0 := hi
  obtain ⟨nw, rp, ch, n, oc, pr, tl, fa, ro, dy, rd, hp⟩ : ∃ (nw rp ch n oc pr : Nat) (tl fa ro dy rd : Nat → Nat), iv_p G I J R nw rp ch n oc pr tl fa ro dy rd := hi
  unfold iv_both
  refine c104 (d + 6) d x y _ hp (fun hx => ?_) (fun hx h => ?_) (fun q m I1 J1 I' hx ey h1 => ?_) (fun q m I1 J1 I' b w g hx ey h1 h2 => ?_)
  · rw [m164x (d + 11) x y _ hp.1.1 hx]
    exact iv_same _ hi0
  · rw [m164n (d + 11) x y _ hp hx h]
    exact iv_same _ hi0
  · subst ey
    rw [m164z d x _ hx h1]
    exact iv_same _ (gx_iv h1)
  · subst ey
    rw [m164y d x _ hx h1 h2]
    exact iv_same _ (gx_iv h1)
end BAT
