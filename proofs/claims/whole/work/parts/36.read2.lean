/-! The class's reading of the tape, the whole of it. -/
def p_rdl (c : Nat → Int32) (n : Nat) : Nat → p_D → Int32 × p_D
  | 0, D => (if D.2.1 = 0 then nI n else -1, D)
  | k + 1, D => if D.1 < n then (if (p_item c D).1 = true then (if c (p_item c D).2.1 = 32 ∨ c (p_item c D).2.1 = 0 then p_rdl c n k (p_wh (fun p => decide (c p = 32)) 100 (p_item c D).2.1, (p_item c D).2.2) else (nI (p_item c D).2.1, (p_item c D).2)) else (nI D.1, (p_item c D).2)) else (if D.2.1 = 0 then nI n else -1, D)
/-- names' number is 0 without names -/
abbrev p_v3 (D : p_D) : Prop := ¬ p_has D.2.1 3 → D.2.2.2.1 3 = 0
theorem p_has_or {h x f : Int32} {k : Nat} (hf : f = nI k) (hk : k < 5) (hh : p_has h f) : p_has (h ||| x) f := by
  subst hf
  rw [tb_has hk] at hh ⊢
  rw [tb_or, hh]
  rfl
theorem p_nms_v3 {c : Nat → Int32} : ∀ (k i : Nat) (D : p_D), (p_nms c k i D).1 = true → p_v3 (p_nms c k i D).2 := by
  intro k
  induction k with
  | zero => intro i D h; exact absurd h (by simp [p_nms])
  | succ k ih =>
    intro i D h
    rw [p_nms] at h ⊢
    split at h
    · exact absurd h (by simp)
    · rename_i h1
      rw [if_neg h1]
      split at h
      · rename_i h2
        rw [if_pos h2]
        exact ih _ _ h
      · rename_i h2
        rw [if_neg h2]
        intro z
        refine absurd ?_ z
        have : p_has (D.2.1 ||| (1 : Int32) <<< (nI 3 &&& 31)) (nI 3) := by
          rw [tb_has (by decide), tb_or, tb_one (by decide) (by decide)]
          simp
        exact this
theorem p_item_v3 {c : Nat → Int32} {D : p_D} (hv : p_v3 D) (h : (p_item c D).1 = true) : p_v3 (p_item c D).2 := by
  unfold p_item at h ⊢
  split at h
  · exact absurd h (by simp)
  · rename_i h1
    rw [if_neg h1]
    split at h
    · rename_i h2
      rw [if_pos h2]
      exact p_nms_v3 _ _ _ h
    · rename_i h2
      rw [if_neg h2]
      split at h
      · rename_i h3
        rw [if_pos h3]
        unfold p_spn at h ⊢
        split at h
        · exact absurd h (by simp)
        · rename_i h4
          rw [if_neg h4]
          intro z
          have := hv (fun w => z (p_has_or (k := 3) rfl (by decide) w))
          simpa [p_upf] using this
      · rename_i h3
        rw [if_neg h3]
        unfold p_val at h ⊢
        split at h
        · exact absurd h (by simp)
        · rename_i h4
          rw [if_neg h4]
          intro z
          have := hv (fun w => z (p_has_or (k := 3) rfl (by decide) w))
          have hne : ¬ 3 = tm_ix (p_mfr (c D.1) 0 5) := fun w => h2 (by
            have := (q_of ((p_mfr_in (c D.1)).resolve_left (fun y => h1 (Or.inl y)))).1
            rw [← w] at this
            exact this)
          show p_upf _ _ _ 3 = 0
          unfold p_upf
          rw [if_neg hne]
          exact this
section RD2
variable {G : tm_G} {I : Nat → Nat → Int32} {J : Nat → Nat → Int64} {R : Nat → Nat → Option Nat}
theorem c2d (d : Nat) (K : Option Value → tm_H → Prop) (hS : tp_S G) (hR : tp_R R) {p : Nat} {h u : Int32} {v w : Nat → Int32} : tm_R d 2 [.ref 6] (G, tp_dr I (p, h, u, v, w), J, R) K ↔ K (some (.int h)) (G, tp_dr I (p, h, u, v, w), J, R) := by
  have := c2 (I := tp_dr I (p, h, u, v, w)) (J := J) d K (tp_F6 hS hR)
  rw [dr_h] at this
  exact this
theorem c74_l (d : Nat) (K : Option Value → tm_H → Prop) (hS : tp_S G) (hR : tp_R R) (hC : tp_C I) {n : Nat} (hn : I 4 1 = nI n) (hn100 : n ≤ 100) : ∀ (k i p : Nat) (h u : Int32) (v w : Nat → Int32) (o : Option Value), i + k = 100 → p ≤ n → p_v3 (p, h, u, v, w) → (tm_A (d + 4) 74 18 [some (.ref 4), some (.int (nI i)), o] [] (G, tp_dr I (p, h, u, v, w), J, R) K ↔ K (some (.int (p_rdl (p_pk (I 5) n) n k (p, h, u, v, w)).1)) (G, tp_dr I (p_rdl (p_pk (I 5) n) n k (p, h, u, v, w)).2, J, R)) := by
  have fin : ∀ (i p : Nat) (h u : Int32) (v w : Nat → Int32) (o : Option Value), tm_A (d + 4) 74 80 [some (.ref 4), some (.int (nI i)), o] [] (G, tp_dr I (p, h, u, v, w), J, R) K ↔ K (some (.int (if h = 0 then nI n else -1))) (G, tp_dr I (p, h, u, v, w), J, R) := by
    intro i p h u v w o
    simp only [r74_80, r74_81, r74_84, r74_87, r74_90, r74_91, r74_94, r74_97, r74_98, sh_4 hS, sh_6 hS, rf_4_3 hR, c2d _ _ hS hR, dr_n, hn, tm_in, or_true, true_or, tm_cs0, tm_cs1, tm_cs2, tm_cs3, tm_cs4, true_and, and_true, and_self, Option.toList_some, Option.toList_none, List.cons_append, List.nil_append, tm_rf_some, tm_rf_none]
    by_cases h0 : h = 0
    · simp only [h0, not_true, if_false, if_true]
    · simp only [h0, not_false_eq_true, if_false, if_true]
  intro k
  induction k with
  | zero =>
    intro i p h u v w o hi hp hv
    have hi : i = 100 := by omega
    subst hi
    have hc : (100 : Int32) ≤ nI 100 := by decide
    rw [r74_18]
    simp only [r74_19, r74_21, hc, if_true, p_rdl]
    exact fin 100 p h u v w o
  | succ k ih =>
    intro i p h u v w o hi hp hv
    have hc : ¬ (100 : Int32) ≤ nI i := fun z => by
      have := (q_le (a := 100) (b := i) rfl rfl (by decide) (by omega)).mp z
      omega
    rw [r74_18]
    simp only [r74_19, r74_21, r74_24, r74_25, r74_28, r74_29, r74_32, hc, if_false, sh_4 hS, dr_p, dr_n, hn, tm_in, or_true, true_or, tm_cs0, tm_cs1, tm_cs2, tm_cs3, tm_cs4, true_and, and_true, and_self, Option.toList_some, Option.toList_none, List.cons_append, List.nil_append, tm_rf_some, tm_rf_none]
    by_cases h1 : p < n
    · have z1 : ¬ nI n ≤ nI p := fun z => by
        have := (q_le (a := n) (b := p) rfl rfl (by omega) (by omega)).mp z
        omega
      have l1 := p_item_le (b := I 5) (D := (p, h, u, v, w)) h1
      simp only [z1, if_false, r74_35, r74_36, r74_39, r74_40, r74_41, r74_44, sh_4 hS, dr_p, c77 _ _ hS hR hC hn hn100 h1 hv, tm_in, or_true, true_or, tm_cs0, tm_cs1, tm_cs2, tm_cs3, tm_cs4, true_and, and_true, and_self, Option.toList_some, Option.toList_none, List.cons_append, List.nil_append, tm_rf_some, tm_rf_none]
      by_cases h2 : (p_item (p_pk (I 5) n) (p, h, u, v, w)).1 = true
      · have hv2 := p_item_v3 hv h2
        rw [p_rdl, if_pos h1, if_pos h2]
        generalize (p_item (p_pk (I 5) n) (p, h, u, v, w)).2 = D at l1 hv2 ⊢
        obtain ⟨p', h', u', v', w'⟩ := D
        simp only [h2, if_true, show ¬ (1 : Int32) = 0 by decide, not_false_eq_true, r74_49, r74_50, r74_53, r74_55, sh_4 hS, c75d _ _ hS hR hn hn100 l1, tm_in, or_true, true_or, tm_cs0, tm_cs1, tm_cs2, tm_cs3, tm_cs4, true_and, and_true, and_self, Option.toList_some, Option.toList_none, List.cons_append, List.nil_append, tm_rf_some, tm_rf_none]
        by_cases h3 : p_pk (I 5) n p' = 32
        · simp only [h3, if_true, true_or, r74_70, r74_71, r74_74, r74_77, sh_4 hS, c76d _ _ hS hR hn hn100 l1, nI_1, tm_in, or_true, true_or, tm_cs0, tm_cs1, tm_cs2, tm_cs3, tm_cs4, true_and, and_true, and_self, Option.toList_some, Option.toList_none, List.cons_append, List.nil_append, tm_rf_some, tm_rf_none]
          exact ih (i + 1) _ _ _ _ _ _ (by omega) (p_wh_le (fun p z => p_pk_lt (by rw [of_decide_eq_true z]; decide)) _ _ l1) hv2
        · simp only [h3, if_false, false_or, r74_58, r74_59, r74_62, sh_4 hS, c75d _ _ hS hR hn hn100 l1, tm_in, or_true, true_or, tm_cs0, tm_cs1, tm_cs2, tm_cs3, tm_cs4, true_and, and_true, and_self, Option.toList_some, Option.toList_none, List.cons_append, List.nil_append, tm_rf_some, tm_rf_none]
          by_cases h4 : p_pk (I 5) n p' = 0
          · simp only [h4, if_true, r74_70, r74_71, r74_74, r74_77, sh_4 hS, c76d _ _ hS hR hn hn100 l1, nI_1, tm_in, or_true, true_or, tm_cs0, tm_cs1, tm_cs2, tm_cs3, tm_cs4, true_and, and_true, and_self, Option.toList_some, Option.toList_none, List.cons_append, List.nil_append, tm_rf_some, tm_rf_none]
            exact ih (i + 1) _ _ _ _ _ _ (by omega) (p_wh_le (fun p z => p_pk_lt (by rw [of_decide_eq_true z]; decide)) _ _ l1) hv2
          · simp only [h4, if_false, r74_65, r74_66, r74_69, sh_4 hS, dr_p, tm_in, or_true, true_or, tm_cs0, tm_cs1, tm_cs2, tm_cs3, tm_cs4, true_and, and_true, and_self, Option.toList_some, Option.toList_none, List.cons_append, List.nil_append, tm_rf_some, tm_rf_none]
      · rw [p_rdl, if_pos h1, if_neg h2, if_neg h2]
        simp only [not_true, if_false, r74_47, r74_48]
    · have z1 : nI n ≤ nI p := (q_le (a := n) (b := p) rfl rfl (by omega) (by omega)).mpr (by omega)
      rw [p_rdl, if_neg h1]
      simp only [z1, if_true]
      exact fin i p h u v w o
/-- the whole reading: the fault, and the draft -/
def p_read (b : Nat → Int32) (n : Nat) (u : Int32) (v w : Nat → Int32) : Int32 × p_D := p_rdl (p_pk b n) n 100 (p_wh (fun p => decide (p_pk b n p = 32)) 100 0, 0, u, p_upf v 3 0, w)
theorem c74 (d : Nat) (K : Option Value → tm_H → Prop) (hS : tp_S G) (hR : tp_R R) (hC : tp_C I) {n : Nat} (hn : I 4 1 = nI n) (hn100 : n ≤ 100) : tm_R (d + 4) 74 [.ref 4] (G, I, J, R) K ↔ K (some (.int (p_read (I 5) n (I 6 1) (I 7) (I 8)).1)) (G, tp_dr I (p_read (I 5) n (I 6 1) (I 7) (I 8)).2, J, R) := by
  rw [e74]
  simp only [r74_0, r74_1, r74_4, r74_7, r74_8, r74_9, sh_4 hS, sh_6 hS, rf_4_3 hR, c1 _ _ (tp_F6 hS hR), tm_in, or_true, true_or, tm_cs0, tm_cs1, tm_cs2, tm_cs3, tm_cs4, true_and, and_true, and_self, Option.toList_some, Option.toList_none, List.cons_append, List.nil_append, tm_rf_some, tm_rf_none]
  have e : up2 (up2 (up2 I 6 0 0) (6 + 1) 3 0) 4 2 0 = tp_dr I (0, 0, I 6 1, p_upf (I 7) 3 0, I 8) := by
    funext b k
    simp only [up2, tp_dr, p_upf, show nI 0 = 0 from rfl]
    grind
  rw [e]
  simp only [r74_12, r74_13, r74_16, r74_17, c76d _ _ hS hR hn hn100 (Nat.zero_le n), sh_4 hS, tm_in, or_true, true_or, tm_cs0, tm_cs1, tm_cs2, tm_cs3, tm_cs4, true_and, and_true, and_self, Option.toList_some, Option.toList_none, List.cons_append, List.nil_append, tm_rf_some, tm_rf_none]
  exact c74_l d K hS hR hC hn hn100 100 0 _ _ _ _ _ _ rfl (p_wh_le (fun p z => p_pk_lt (by rw [of_decide_eq_true z]; decide)) _ _ (Nat.zero_le n)) (fun _ => by simp [p_upf])
theorem c89 (d : Nat) (K : Option Value → tm_H → Prop) (hS : tp_S G) (hR : tp_R R) (hC : tp_C I) {n : Nat} (hn : I 4 1 = nI n) (hn100 : n ≤ 100) : tm_R (d + 5) 89 [.ref 3] (G, I, J, R) K ↔ K (some (.int (p_read (I 5) n (I 6 1) (I 7) (I 8)).1)) (G, tp_dr I (p_read (I 5) n (I 6 1) (I 7) (I 8)).2, J, R) := by
  rw [e89]
  simp only [r89_0, r89_1, r89_4, r89_7, sh_3 hS, sh_4 hS, rf_3_0 hR, c74 _ _ hS hR hC hn hn100, tm_in, or_true, true_or, tm_cs0, tm_cs1, tm_cs2, tm_cs3, tm_cs4, true_and, and_true, and_self, Option.toList_some, Option.toList_none, List.cons_append, List.nil_append, tm_rf_some, tm_rf_none]
end RD2
