/-! Forms: the class's find; looking for forms. -/
section FR3
variable {G : tm_G} {I : Nat → Nat → Int32} {J : Nat → Nat → Int64} {R : Nat → Nat → Option Nat} {nw rp ch n oc pr q m : Nat} {tl fa ro dy rd : Nat → Nat}
theorem ck_s_nI {x : Int32} (h : ∀ k, 5 ≤ k → k < 32 → tb x k = false) : x = nI (tm_ix x) ∧ tm_ix x < 32 := by
  have e := and31 h
  have h2 := pk_andE x (m := 31) 5 (by decide)
  obtain ⟨j, hj, e2⟩ := h2
  rw [e] at e2
  rw [e2, q_ix (by omega)]
  exact ⟨rfl, hj⟩
theorem c14 (d : Nat) (K : Option Value → tm_H → Prop) (hS : tp_S G) (hR : tp_R R) (hm : m ≤ 10) (hpr : pr ≤ 50) (h14 : I 14 1 = nI m) (hsh : ∀ r, r < m → I (16 + 3 * r) 0 = nI (ck_s I r) ∧ ck_s I r < 32) (hK : ∀ I', (∀ b, b ≠ 76 → b ≠ 88 → ¬ (78 ≤ b ∧ b ≤ 87) → I' b = I b) → I' 76 2 = nI (fs_all (ck_s I) m pr).1 → I' 76 3 = nI (fs_all (ck_s I) m pr).2.1 → fs_row (I' 88) (fs_all (ck_s I) m pr) → K none (G, I', J, R)) : tm_R (d + 4) 14 [.ref 76, .ref 14, .int (nI pr)] (G, I, J, R) K := by
  have emin : (if (10 : Int32) < nI m then 10 else nI m) = nI m := by
    rw [if_neg (fun z => by
      have := (q_lt (a := 10) (b := m) rfl rfl (by decide) (by omega)).mp z
      omega)]
  rw [e14]
  simp only [r14_0, r14_1, r14_1n, r14_2, r14_5, r14_7, r14_10, r14_13, r14_14, r14_15, r14_18, r14_19, r14_20, sh_76 hS, sh_14 hS, c42 _ _ hS, h14, emin, tm_in, or_true, true_or, tm_cs0, tm_cs1, tm_cs2, tm_cs3, tm_cs4, true_and, and_true, and_self, Option.toList_some, Option.toList_none, List.cons_append, List.nil_append, tm_rf_some, tm_rf_none]
  have i764 : ∀ v1 v2 v3 : Int32, up2 (up2 (up2 I 76 4 v1) 76 2 v2) 76 3 v3 76 4 = v1 := fun v1 v2 v3 => by rw [up2_ne (by decide), up2_ne (by decide), up2_at]
  simp only [r14_23, r14_24, r14_27, sh_76 hS, i764, tm_in, or_true, true_or, tm_cs0, tm_cs1, tm_cs2, tm_cs3, tm_cs4, true_and, and_true, and_self, Option.toList_some, Option.toList_none, List.cons_append, List.nil_append, tm_rf_some, tm_rf_none]
  by_cases h0 : m = 0
  · subst h0
    rw [if_pos (show nI 0 ≤ 0 by decide)]
    simp only [r14_60]
    refine hK _ (fun b h1 h2 h3 => by rw [up2_row h1, up2_row h1, up2_row h1]) ?_ ?_ ?_
    · rw [up2_ne (by decide), up2_at]; rfl
    · rw [up2_at]; rfl
    · have e : fs_all (ck_s I) 0 pr = (0, 0, 0, 0, 0) := rfl
      rw [e]
      exact ⟨fun z => absurd z (by decide), fun z => absurd z (by decide), fun z => absurd z (by decide)⟩
  · rw [if_neg (nI_nle (show 0 < m by omega) (by omega))]
    have hall : fs_all (ck_s I) m pr = fs_3 (ck_s I) m pr 31 1 (fs_2 (ck_s I) m pr 31 1 (fs_1 (ck_s I) m pr 31 1 (0, 0, 0, 0, 0))) := by
      unfold fs_all
      rw [if_neg h0]
    rw [hall] at hK
    simp only [r14_30, r14_31, r14_31n, r14_32, sh_76 hS, tm_in, or_true, true_or, tm_cs0, tm_cs1, tm_cs2, tm_cs3, tm_cs4, true_and, and_true, and_self, Option.toList_some, Option.toList_none, List.cons_append, List.nil_append, tm_rf_some, tm_rf_none]
    rw [e15]
    simp only [r15_0, r15_1]
    rw [← nI_0]
    refine c15_l d _ hS hR hm (fun r hr => (hsh r hr).2) m 0 _ _ _ _ _ (by omega) (by rw [up2_row (by decide), up2_row (by decide), up2_row (by decide)]; exact h14) (by rw [up2_ne (by decide), up2_ne (by decide), up2_at]) (fun r hr => by rw [up2_row (by omega), up2_row (by omega), up2_row (by omega)]; exact (hsh r hr).1) (fun s f h1 => by omega) (fun I1 he hT => ?_)
    have i1o : ∀ b, b ≠ 76 → ¬ (78 ≤ b ∧ b ≤ 87) → I1 b = I b := fun b h1 h2 => by rw [he b h2, up2_row h1, up2_row h1, up2_row h1]
    have i762 : I1 76 2 = nI 0 := by rw [he 76 (by omega), up2_ne (by decide), up2_at]
    simp only [r14_35, r14_36, r14_38, r14_41, r14_42, r14_43, sh_76 hS, tm_in, or_true, true_or, tm_cs0, tm_cs1, tm_cs2, tm_cs3, tm_cs4, true_and, and_true, and_self, Option.toList_some, Option.toList_none, List.cons_append, List.nil_append, tm_rf_some, tm_rf_none]
    have e0 : up2 I1 76 3 1000000 = tp_fs I1 (nI 0) 1000000 (I1 88) := by
      rw [← i762]
      funext b k
      simp only [up2, tp_fs]
      grind
    rw [e0, e16]
    simp only [r16_0, r16_1]
    have hr0 : fs_rel (0, 0, 0, 0, 0) (nI 0) 1000000 (I1 88) := ⟨rfl, rfl, ⟨fun z => absurd z (by decide), fun z => absurd z (by decide), fun z => absurd z (by decide)⟩, by decide⟩
    have k1 := c16_l (G := G) (I := I1) (J := J) (R := R) (d + 1) (fun r h' => tm_A (d + 3 + 1) 14 46 [some (.ref 76), some (.ref 14), some (.int (nI pr))] (r.toList ++ []) h' K) hS hR hT hpr 31 1 _ _ _ _ (by decide) (by decide) hr0 (fun my' cs' w' hr1 => ?_)
    · rw [Nat.one_mul] at k1
      exact k1
    · have e2 : (2 : Int32) * nI pr = nI (2 * pr) := pk_mul 2 pr
      have e3 : (3 : Int32) * nI pr = nI (3 * pr) := pk_mul 3 pr
      simp only [r14_46, r14_47, r14_48, r14_49, r14_50, sh_76 hS, e2, tm_in, or_true, true_or, tm_cs0, tm_cs1, tm_cs2, tm_cs3, tm_cs4, true_and, and_true, and_self, Option.toList_some, Option.toList_none, List.cons_append, List.nil_append, tm_rf_some, tm_rf_none]
      rw [e17]
      simp only [r17_0, r17_1]
      refine c17_l (d + 1) _ hS hR hT hpr 31 1 _ _ _ _ _ (by decide) (by decide) hr1 (fun my2 cs2 w2 hr2 => ?_)
      simp only [r14_53, r14_54, r14_55, r14_56, r14_57, sh_76 hS, e3, tm_in, or_true, true_or, tm_cs0, tm_cs1, tm_cs2, tm_cs3, tm_cs4, true_and, and_true, and_self, Option.toList_some, Option.toList_none, List.cons_append, List.nil_append, tm_rf_some, tm_rf_none]
      rw [e18]
      simp only [r18_0, r18_1]
      refine c18_l (d + 1) _ hS hR hT hpr 31 1 _ _ _ _ _ _ (by decide) (by decide) hr2 (fun my3 cs3 w3 hr3 => ?_)
      simp only [r14_60, tm_in, or_true, true_or, tm_cs0, tm_cs1, tm_cs2, tm_cs3, tm_cs4, true_and, and_true, and_self, Option.toList_some, Option.toList_none, List.cons_append, List.nil_append, tm_rf_some, tm_rf_none]
      obtain ⟨z1, z2, z3, z4⟩ := hr3
      have hne : (fs_3 (ck_s I) m pr 31 1 (fs_2 (ck_s I) m pr 31 1 (fs_1 (ck_s I) m pr 31 1 (0, 0, 0, 0, 0)))).1 ≠ 0 := by
        have st : ∀ many a b c s, 1 ≤ many → (s : fs_S).1 ≠ 0 ∨ True → (fs_st (ck_s I) m pr many a b c s).1 ≠ 0 := fun many a b c s h _ => by
          unfold fs_st
          split
          · show many ≠ 0
            omega
          · rename_i hh
            exact fun z => hh (Or.inl z)
        have a1 : ∀ k a s, (s : fs_S).1 ≠ 0 ∨ 0 < k → (fs_1 (ck_s I) m pr k a s).1 ≠ 0 := by
          intro k
          induction k with
          | zero => intro a s h; exact h.resolve_right (by omega)
          | succ k ih => intro a s h; rw [fs_1]; exact ih _ _ (Or.inl (st _ _ _ _ _ (by decide) (Or.inr trivial)))
        have a2b : ∀ a k b s, (s : fs_S).1 ≠ 0 → (fs_2b (ck_s I) m pr a k b s).1 ≠ 0 := by
          intro a k
          induction k with
          | zero => intro b s h; exact h
          | succ k ih => intro b s h; rw [fs_2b]; exact ih _ _ (st _ _ _ _ _ (by decide) (Or.inr trivial))
        have a2 : ∀ k a s, (s : fs_S).1 ≠ 0 → (fs_2 (ck_s I) m pr k a s).1 ≠ 0 := by
          intro k
          induction k with
          | zero => intro a s h; exact h
          | succ k ih => intro a s h; rw [fs_2]; exact ih _ _ (a2b _ _ _ _ h)
        have a3c : ∀ a b k c s, (s : fs_S).1 ≠ 0 → (fs_3c (ck_s I) m pr a b k c s).1 ≠ 0 := by
          intro a b k
          induction k with
          | zero => intro c s h; exact h
          | succ k ih => intro c s h; rw [fs_3c]; exact ih _ _ (st _ _ _ _ _ (by decide) (Or.inr trivial))
        have a3b : ∀ a k b s, (s : fs_S).1 ≠ 0 → (fs_3b (ck_s I) m pr a k b s).1 ≠ 0 := by
          intro a k
          induction k with
          | zero => intro b s h; exact h
          | succ k ih => intro b s h; rw [fs_3b]; exact ih _ _ (a3c _ _ _ _ _ h)
        have a3 : ∀ k a s, (s : fs_S).1 ≠ 0 → (fs_3 (ck_s I) m pr k a s).1 ≠ 0 := by
          intro k
          induction k with
          | zero => intro a s h; exact h
          | succ k ih => intro a s h; rw [fs_3]; exact ih _ _ (a3b _ _ _ _ h)
        exact a3 _ _ _ (a2 _ _ _ (a1 _ _ _ (Or.inr (by decide))))
      refine hK _ (fun b h1 h2 h3 => by rw [fs_o h2 h1]; exact i1o b h1 h3) ?_ ?_ ?_
      · rw [fs_762]; exact z1
      · rw [fs_763, z2, if_neg hne]
      · rw [fs_88]; exact z3
/-- looking for forms, for any day -/
theorem c111i (d : Nat) (x : Int32) (K : Option Value → tm_H → Prop) (hp : iv_p G I J R nw rp ch n oc pr tl fa ro dy rd) (h0 : ¬ tm_in x (nw + 1) → K (some (.int 0)) (G, I, J, R)) (h1 : ∀ q m I1, q ≤ nw → x = nI q → m ≤ 10 → iv_b G I1 R nw rp ch n oc pr tl fa ro dy rd → iv_c I1 J rp ch oc pr fa rd q m → iv_fs I1 m pr → K (some (.int 1)) (G, I1, J, R)) : tm_R (d + 6) 111 [.ref 3, .int x] (G, I, J, R) K := by
  obtain ⟨hS, hR, -⟩ := hp.1
  rw [e111]
  simp only [r111_0, r111_1, r111_2, sh_3 hS, tm_in, or_true, true_or, tm_cs0, tm_cs1, tm_cs2, tm_cs3, tm_cs4, true_and, and_true, and_self, Option.toList_some, Option.toList_none, List.cons_append, List.nil_append, tm_rf_some, tm_rf_none]
  refine c109i (d + 1) x _ hp (fun h => ?_) (fun q m I1 hq e hm hb hc => ?_)
  · simp only [r111_5, r111_8, r111_9, not_true, if_false, tm_z0, tm_in, or_true, true_or, tm_cs0, tm_cs1, tm_cs2, tm_cs3, tm_cs4, true_and, and_true, and_self, Option.toList_some, Option.toList_none, List.cons_append, List.nil_append, tm_rf_some, tm_rf_none]
    exact h0 h
  · simp only [r111_5, r111_8, r111_9, r111_10, r111_11, r111_14, show ¬ (1 : Int32) = 0 by decide, not_false_eq_true, if_true, sh_3 hS, tm_in, or_true, true_or, tm_cs0, tm_cs1, tm_cs2, tm_cs3, tm_cs4, true_and, and_true, and_self, Option.toList_some, Option.toList_none, List.cons_append, List.nil_append, tm_rf_some, tm_rf_none]
    rcases hc.2.2.2 with z | ⟨z, hf⟩
    · have s7 := hb.2.2.2.1.2.2.2.2.2.2
      have hsh : ∀ r, r < m → I1 (16 + 3 * r) 0 = nI (ck_s I1 r) ∧ ck_s I1 r < 32 := fun r hr => ck_s_nI (fun k a b => hc.2.1.2.2.2.2 r k (by omega) a b)
      simp only [z, not_true, if_false, r111_17, r111_18, r111_21, r111_22, r111_25, r111_26, r111_29, sh_3 hS, sh_14 hS, sh_76 hS, rf_3_2 hR, rf_3_6 hR, s7.1, tm_in, or_true, true_or, tm_cs0, tm_cs1, tm_cs2, tm_cs3, tm_cs4, true_and, and_true, and_self, Option.toList_some, Option.toList_none, List.cons_append, List.nil_append, tm_rf_some, tm_rf_none]
      refine c14 (d + 1) _ hS hR hm s7.2.2 hc.2.1.2.2.1 hsh (fun I2 he e2 e3 e8 => ?_)
      simp only [r111_32, r111_33, r111_34, r111_37, r111_38, sh_3 hS, tm_z1, tm_in, or_true, true_or, tm_cs0, tm_cs1, tm_cs2, tm_cs3, tm_cs4, true_and, and_true, and_self, Option.toList_some, Option.toList_none, List.cons_append, List.nil_append, tm_rf_some, tm_rf_none]
      have eo : ∀ b, b ≠ 3 → b ≠ 76 → b ≠ 88 → ¬ (78 ≤ b ∧ b ≤ 87) → up2 I2 3 12 1 b = I1 b := fun b h3 h76 h88 h => by rw [up2_row h3]; exact he b h76 h88 h
      have e3k : ∀ k, k ≠ 12 → up2 I2 3 12 1 3 k = I1 3 k := fun k hk => by rw [up2_ne hk, he 3 (by decide) (by decide) (by omega)]
      have hb' : iv_b G (up2 I2 3 12 1) R nw rp ch n oc pr tl fa ro dy rd := iv_b_keep hb (fun b h3 h1 h2 => eo b h3 (by omega) (by omega) (by omega)) (fun k hk => e3k k (by omega))
      have hk' : iv_kn (up2 I2 3 12 1) rp (rp + ch) fa rd q m := iv_kn_congr (fun b h1 h2 => eo b (by omega) (by omega) (by omega) (by omega)) (fun b h1 h2 => eo b (by omega) (by omega) (by omega) (by omega)) (fun j hj => by
        obtain ⟨-, -, -, -, -, t6⟩ := hb.2.2.2.2.2.2.1.1 j hj
        exact ⟨eo _ (by omega) (by omega) (by omega) (by omega), eo _ (by omega) (by omega) (by omega) (by omega), eo _ (by omega) (by omega) (by omega) (by omega)⟩) hc.2.1
      have hf' : iv_fs (up2 I2 3 12 1) m pr := by
        unfold iv_fs
        rw [fs_all_congr pr (fun r hr => ck_congr_s (I := I1) (fun b h1 h2 => eo b (by omega) (by omega) (by omega) (by omega)) r (by omega)), up2_row (show 76 ≠ 3 by decide), up2_row (show 88 ≠ 3 by decide)]
        exact ⟨e2, e3, e8⟩
      refine h1 q m _ hq e hm hb' ⟨by rw [e3k 10 (by decide)]; exact hc.1, hk', ?_, Or.inr ⟨up2_at, hf'⟩⟩ hf'
      rw [e3k 11 (by decide)]
      exact hc.2.2.1.imp id (fun y => ⟨y.1, iv_gr_congr (fun b h1 h2 => eo b (by omega) (by omega) (by omega) (by omega)) (eo 71 (by omega) (by omega) (by omega) (by omega)) (eo 75 (by omega) (by omega) (by omega) (by omega)) rfl hm y.2⟩)
    · simp only [z, show ¬ (1 : Int32) = 0 by decide, not_false_eq_true, if_true, r111_37, r111_38, tm_z1, tm_in, or_true, true_or, tm_cs0, tm_cs1, tm_cs2, tm_cs3, tm_cs4, true_and, and_true, and_self, Option.toList_some, Option.toList_none, List.cons_append, List.nil_append, tm_rf_some, tm_rf_none]
      exact h1 q m I1 hq e hm hb hc hf
end FR3
