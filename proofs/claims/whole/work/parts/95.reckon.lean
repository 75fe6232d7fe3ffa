/-! The class: costs of all pairs, and partners; looking at groups. -/
section RCK
variable {G : tm_G} {I0 : Nat → Nat → Int32} {J : Nat → Nat → Int64} {R : Nat → Nat → Option Nat} {m : Nat}
theorem c60_in (d : Nat) (K : Option Value → tm_H → Prop) (hS : tp_S G) (hR : tp_R R) (hm : m ≤ 10) (h14 : I0 14 1 = nI m) (hcn : ∀ r, r < m → I0 (16 + 3 * r + 1) 3 = nI (ck_n I0 r) ∧ ck_n I0 r ≤ 3) {a : Nat} (ha : a < m) : ∀ (n b : Nat) (I : Nat → Nat → Int32) (P : Nat), b + n = m → (∀ x, ¬ (60 ≤ x ∧ x ≤ 70) → I x = I0 x) → (∀ s, s < b → s ≠ a → I (60 + 1 * a) s = p_pc I0 (ck_n I0) m a s) → I 70 a = nI P → P < 2 ^ b → (∀ s, P.testBit s = true ↔ s < b ∧ I0 (48 + 1 * a) s = 1) → (∀ I' P', (∀ x, x ≠ 60 + 1 * a → x ≠ 70 → I' x = I x) → (∀ k, k ≠ a → I' 70 k = I 70 k) → (∀ s, s < m → s ≠ a → I' (60 + 1 * a) s = p_pc I0 (ck_n I0) m a s) → I' 70 a = nI P' → P' < 2 ^ m → (∀ s, P'.testBit s = true ↔ s < m ∧ I0 (48 + 1 * a) s = 1) → tm_A (d + 5) 60 99 [some (.ref 58), some (.ref 14), some (.ref 46), some (.int (nI a)), some (.int (nI m))] [] (G, I', J, R) K) → tm_A (d + 5) 60 26 [some (.ref 58), some (.ref 14), some (.ref 46), some (.int (nI a)), some (.int (nI b))] [] (G, I, J, R) K := by
  intro n
  induction n with
  | zero =>
    intro b I P hb hI hc hP hP2 hPb hK
    have : b = m := by omega
    subst this
    have i14 : I 14 1 = nI b := by rw [hI 14 (by omega)]; exact h14
    have hcc : nI b ≤ nI b := Int32.le_refl _
    rw [r60_26]
    simp only [r60_28, r60_28n, r60_29, r60_32, sh_14 hS, c42 _ _ hS, i14, hcc, if_true, tm_in, or_true, true_or, tm_cs0, tm_cs1, tm_cs2, tm_cs3, tm_cs4, true_and, and_true, and_self, Option.toList_some, Option.toList_none, List.cons_append, List.nil_append, tm_rf_some, tm_rf_none]
    exact hK I P (fun _ _ _ => rfl) (fun _ _ => rfl) hc hP hP2 hPb
  | succ n ih =>
    intro b I P hb hI hc hP hP2 hPb hK
    have hbm : b < m := by omega
    have ha10 : a < 10 := by omega
    have i14 : I 14 1 = nI m := by rw [hI 14 (by omega)]; exact h14
    have hcc : ¬ nI m ≤ nI b := fun z => by
      have := (q_le (a := m) (b := b) rfl rfl (by omega) (by omega)).mp z
      omega
    have h10 : ¬ (10 : Int32) ≤ nI b := fun z => by
      have := (q_le (a := 10) (b := b) rfl rfl (by decide) (by omega)).mp z
      omega
    have ia : tm_in (nI a) 10 := q_in ha10 (by decide)
    have ib : tm_in (nI b) 10 := q_in (by omega) (by decide)
    have iam : tm_in (nI a) m := q_in ha (by omega)
    have ibm : tm_in (nI b) m := q_in hbm (by omega)
    have h57 : ∀ x, 16 ≤ x → x ≤ 57 → I x = I0 x := fun x h1 h2 => hI x (by omega)
    have hcn' : ∀ r, r < m → I (16 + 3 * r + 1) 3 = nI (ck_n I r) ∧ ck_n I r ≤ 3 := fun r hr => by
      rw [ck_congr_n h57 r (by omega), h57 _ (by omega) (by omega)]
      exact hcn r hr
    have hpc : p_pc I (ck_n I) m a b = p_pc I0 (ck_n I0) m a b := by rw [p_pc_congr h57 _ hm (by omega) (by omega), p_pc_cn (ck_congr_n h57) hm (by omega) (by omega)]
    have hab : nI a = nI b ↔ a = b := nI_eq (by omega) (by omega)
    have g3 : 3 ≤ 60 + 1 * a := by omega
    have hcs : tm_cs [Value.int (nI b), Value.ref (60 + 1 * a)] := by simp [tm_cs, Value.category]
    have tail : ∀ v : Int32, (b ≠ a → v = p_pc I0 (ck_n I0) m a b) → tm_A (d + 5) 60 68 [some (.ref 58), some (.ref 14), some (.ref 46), some (.int (nI a)), some (.int (nI b))] [.int v, .int (nI b), .ref (60 + 1 * a)] (G, I, J, R) K := fun v hv => by
      have w48 : up2 I (60 + 1 * a) b v (48 + 1 * a) b = I0 (48 + 1 * a) b := by rw [up2_row (by omega), hI _ (by omega)]
      have w70 : up2 I (60 + 1 * a) b v 70 a = nI P := by rw [up2_row (by omega)]; exact hP
      have hcs0 : tm_cs [] := by simp [tm_cs]
      simp only [r60_68, r60_69, r60_69n, r60_70, r60_71, r60_73, r60_76, r60_77, sh_P hS ha10, sh_46 hS, ib, ia, g3, q_ix (show b < 2147483648 by omega), q_ix (show a < 2147483648 by omega), c37 _ _ _ _ hS hR ia ib, w48, tm_in, or_true, true_or, tm_cs0, tm_cs1, tm_cs2, tm_cs3, tm_cs4, true_and, and_true, and_self, Option.toList_some, Option.toList_none, List.cons_append, List.nil_append, tm_rf_some, tm_rf_none]
      have new : ∀ (I2 : Nat → Nat → Int32) (P2 : Nat), (∀ x, x ≠ 60 + 1 * a → x ≠ 70 → I2 x = I x) → (∀ k, k ≠ a → I2 70 k = I 70 k) → (∀ s, s ≠ b → I2 (60 + 1 * a) s = I (60 + 1 * a) s) → I2 (60 + 1 * a) b = v → I2 70 a = nI P2 → P2 < 2 ^ (b + 1) → (∀ s, P2.testBit s = true ↔ s < b + 1 ∧ I0 (48 + 1 * a) s = 1) → tm_A (d + 5) 60 93 [some (.ref 58), some (.ref 14), some (.ref 46), some (.int (nI a)), some (.int (nI b))] [] (G, I2, J, R) K := fun I2 P2 e1 e2 e3 e4 e5 e6 e7 => by
        simp only [r60_93, r60_96, nI_1]
        refine ih (b + 1) I2 P2 (by omega) (fun x hx => by rw [e1 x (by omega) (by omega)]; exact hI x hx) (fun s hs hne => ?_) e5 e6 e7 (fun I' P' f1 f2 f3 f4 f5 f6 => hK I' P' (fun x h1 h2 => by rw [f1 x h1 h2, e1 x h1 h2]) (fun k hk => by rw [f2 k hk, e2 k hk]) f3 f4 f5 f6)
        by_cases e : s = b
        · subst e; rw [e4]; exact hv hne
        · rw [e3 s e]; exact hc s (by omega) hne
      have h2b : (2 : Nat) ^ (b + 1) = 2 ^ b * 2 := Nat.pow_succ 2 b
      by_cases hw : I0 (48 + 1 * a) b = 1
      · have eor : nI P ||| (1 : Int32) <<< (nI b &&& 31) = nI (P ||| 2 ^ b) := by rw [nI_1s (by omega), nI_or]
        simp only [hw, not_true, if_false, r60_80, r60_81, r60_84, r60_85, r60_86, r60_87, r60_88, r60_90, r60_91, r60_92, sh_58 hS, sh_70 hS, rf_58_1 hR, ia, q_ix (show a < 2147483648 by omega), w70, eor, show 3 ≤ 70 by decide, tm_in, or_true, true_or, tm_cs0, tm_cs1, tm_cs2, tm_cs3, tm_cs4, true_and, and_true, and_self, Option.toList_some, Option.toList_none, List.cons_append, List.nil_append, tm_rf_some, tm_rf_none]
        refine new _ (P ||| 2 ^ b) (fun x h1 h2 => by rw [up2_row h2, up2_row h1]) (fun k hk => by rw [up2_ne hk, up2_row (by omega)]) (fun s hs => by rw [up2_row (by omega), up2_ne hs]) (by rw [up2_row (by omega), up2_at]) up2_at ?_ (fun s => ?_)
        · rw [Nat.or_comm, or_pow hP2]
          omega
        · rw [Nat.testBit_or, Nat.testBit_two_pow, Bool.or_eq_true, hPb s, decide_eq_true_eq]
          constructor
          · rintro (z | z)
            · exact ⟨by omega, z.2⟩
            · subst z; exact ⟨by omega, hw⟩
          · rintro ⟨z1, z2⟩
            by_cases e : b = s
            · exact Or.inr e
            · exact Or.inl ⟨by omega, z2⟩
      · simp only [hw, not_false_eq_true, if_true]
        refine new _ P (fun x h1 h2 => by rw [up2_row h1]) (fun k hk => by rw [up2_row (by omega)]) (fun s hs => by rw [up2_ne hs]) up2_at (by rw [up2_row (by omega)]; exact hP) (by omega) (fun s => ?_)
        rw [hPb s]
        constructor
        · rintro ⟨z1, z2⟩; exact ⟨by omega, z2⟩
        · rintro ⟨z1, z2⟩
          refine ⟨?_, z2⟩
          by_cases e : s = b
          · subst e; exact absurd z2 hw
          · omega
    rw [r60_26]
    simp only [r60_28, r60_28n, r60_29, r60_32, r60_35, r60_37, r60_39, r60_42, r60_43, r60_46, r60_47, r60_48, r60_50, r60_51, r60_53, sh_14 hS, c42 _ _ hS, i14, hcc, h10, if_false, sh_58 hS, sh_59 hS, rf_58_0 hR, rf_P hR ha10, ia, q_ix (show a < 2147483648 by omega), hab, tm_in, or_true, true_or, tm_cs0, tm_cs1, tm_cs2, tm_cs3, tm_cs4, true_and, and_true, and_self, Option.toList_some, Option.toList_none, List.cons_append, List.nil_append, tm_rf_some, tm_rf_none]
    by_cases e : a = b
    · have tl := tail 0 (fun z => absurd e.symm z)
      rw [e] at tl
      simp only [e, not_true, if_false, r60_56, r60_57]
      exact tl
    · simp only [e, not_false_eq_true, if_true, r60_60, r60_60n, r60_61, r60_61n, r60_62, r60_63, r60_65, c63 _ _ _ _ hS hR i14 hm hcn', hcs, tm_in, or_true, true_or, tm_cs0, tm_cs1, tm_cs2, tm_cs3, tm_cs4, true_and, and_true, and_self, Option.toList_some, Option.toList_none, List.cons_append, List.nil_append, tm_rf_some, tm_rf_none]
      rw [if_pos (⟨iam, ibm⟩ : tm_in (nI a) m ∧ tm_in (nI b) m), q_ix (show a < 2147483648 by omega), q_ix (show b < 2147483648 by omega), hpc]
      exact tail _ (fun _ => rfl)
theorem c60_l (d : Nat) (K : Option Value → tm_H → Prop) (hS : tp_S G) (hR : tp_R R) (hm : m ≤ 10) (h14 : I0 14 1 = nI m) (hcn : ∀ r, r < m → I0 (16 + 3 * r + 1) 3 = nI (ck_n I0 r) ∧ ck_n I0 r ≤ 3) : ∀ (n a : Nat) (I : Nat → Nat → Int32) (pt : Nat → Nat) (o : Option Value), a + n = m → (∀ x, ¬ (60 ≤ x ∧ x ≤ 70) → I x = I0 x) → (∀ r s, r < a → s < m → s ≠ r → I (60 + 1 * r) s = p_pc I0 (ck_n I0) m r s) → (∀ r, r < a → I 70 r = nI (pt r) ∧ pt r < 2 ^ m ∧ ∀ s, (pt r).testBit s = true ↔ s < m ∧ I0 (48 + 1 * r) s = 1) → (∀ (I' : Nat → Nat → Int32) (pt' : Nat → Nat), (∀ x, ¬ (60 ≤ x ∧ x ≤ 70) → I' x = I0 x) → (∀ r s, r < m → s < m → s ≠ r → I' (60 + 1 * r) s = p_pc I0 (ck_n I0) m r s) → (∀ r, r < m → I' 70 r = nI (pt' r) ∧ pt' r < 2 ^ m ∧ ∀ s, (pt' r).testBit s = true ↔ s < m ∧ I0 (48 + 1 * r) s = 1) → K none (G, I', J, R)) → tm_A (d + 5) 60 2 [some (.ref 58), some (.ref 14), some (.ref 46), some (.int (nI a)), o] [] (G, I, J, R) K := by
  intro n
  induction n with
  | zero =>
    intro a I pt o ha hI hc hp hK
    have : a = m := by omega
    subst this
    have i14 : I 14 1 = nI a := by rw [hI 14 (by omega)]; exact h14
    have hcc : nI a ≤ nI a := Int32.le_refl _
    rw [r60_2]
    simp only [r60_3, r60_3n, r60_4, r60_7, r60_105, sh_14 hS, c42 _ _ hS, i14, hcc, if_true, tm_in, or_true, true_or, tm_cs0, tm_cs1, tm_cs2, tm_cs3, tm_cs4, true_and, and_true, and_self, Option.toList_some, Option.toList_none, List.cons_append, List.nil_append, tm_rf_some, tm_rf_none]
    exact hK I pt hI hc hp
  | succ n ih =>
    intro a I pt o ha hI hc hp hK
    have i14 : I 14 1 = nI m := by rw [hI 14 (by omega)]; exact h14
    have hcc : ¬ nI m ≤ nI a := fun z => by
      have := (q_le (a := m) (b := a) rfl rfl (by omega) (by omega)).mp z
      omega
    have h10 : ¬ (10 : Int32) ≤ nI a := fun z => by
      have := (q_le (a := 10) (b := a) rfl rfl (by decide) (by omega)).mp z
      omega
    have ia : tm_in (nI a) 10 := q_in (by omega) (by decide)
    rw [r60_2]
    simp only [r60_3, r60_3n, r60_4, r60_7, r60_10, r60_11, r60_13, r60_16, r60_17, r60_20, r60_21, r60_22, r60_23, r60_24, sh_14 hS, c42 _ _ hS, i14, hcc, h10, if_false, sh_58 hS, sh_70 hS, rf_58_1 hR, ia, q_ix (show a < 2147483648 by omega), show 3 ≤ 70 by decide, tm_in, or_true, true_or, tm_cs0, tm_cs1, tm_cs2, tm_cs3, tm_cs4, true_and, and_true, and_self, Option.toList_some, Option.toList_none, List.cons_append, List.nil_append, tm_rf_some, tm_rf_none]
    rw [← nI_0]
    refine c60_in d K hS hR hm h14 hcn (show a < m by omega) m 0 _ 0 (by omega) (fun x hx => by rw [up2_row (by omega)]; exact hI x hx) (fun s hs => by omega) up2_at (by decide) (fun s => by simp) (fun I' P' e1 e2 e3 e4 e5 e6 => ?_)
    simp only [r60_99, r60_102, nI_1]
    refine ih (a + 1) I' (fun r => if r = a then P' else pt r) _ (by omega) (fun x hx => by rw [e1 x (by omega) (by omega), up2_row (by omega)]; exact hI x hx) (fun r s hr hs hne => ?_) (fun r hr => ?_) hK
    · by_cases e : r = a
      · subst e; exact e3 s hs hne
      · rw [e1 _ (by omega) (by omega), up2_row (by omega)]
        exact hc r s (by omega) hs hne
    · by_cases e : r = a
      · subst e
        simp only [if_true]
        exact ⟨e4, e5, e6⟩
      · simp only [e, if_false]
        rw [e2 r e, up2_ne e]
        exact hp r (by omega)
end RCK
