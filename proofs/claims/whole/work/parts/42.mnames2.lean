/-! The reference: names, the whole of them; both readings of them belong together. -/
theorem p_nr_congr {w l : Int32} {f f' : Nat → Int32} (h : p_nr w l f) (e : ∀ s, s < 6 → f' s = f s) : p_nr w l f' := by
  obtain ⟨a, n, h1, h2, h3, h4, h5⟩ := h
  exact ⟨a, n, h1, h2, h3, h4, fun t ht => by rw [e t (by omega)]; exact h5 t ht⟩
theorem p_rn_q (c : Nat → Int32) : ∀ (k : Nat) (v : Int32) (q p : Nat), (p_rn c k v q p).2.2 = p + ((p_rn c k v q p).2.1 - q) ∧ q ≤ (p_rn c k v q p).2.1 := by
  intro k
  induction k with
  | zero => intro v q p; simp [p_rn]
  | succ k ih =>
    intro v q p
    rw [p_rn]
    split
    · have := ih (if q < 6 then v ||| ((c p - 96) <<< ((5 * nI q) &&& 31)) else v) (q + 1) (p + 1)
      omega
    · simp
section MN2
variable {G : tm_G} {I : Nat → Nat → Int32} {J : Nat → Nat → Int64} {R : Nat → Nat → Option Nat}
theorem m129_63 (d : Nat) (K : Option Value → tm_H → Prop) (hS : tp_S G) {h u x : Int32} {F N L : Nat → Int32} {i q : Nat} (hi : i ≤ 3) (hq : q ≤ 1000) (f p o : Option Value) : tm_A d 129 63 [some (.ref 89), f, p, some (.int (nI q)), o] [] (G, tp_mr I (h, nI i, u, x, F, N, L), J, R) K ↔ if (q = 0 ∨ 6 < q) ∨ i = 3 then K (some (.int (-1))) (G, tp_mr I (h, nI i, u, x, F, N, L), J, R) else tm_A d 129 83 [some (.ref 89), f, p, some (.int (nI q)), o] [] (G, tp_mr I (h, nI i, u, x, F, N, L), J, R) K := by
  simp only [r129_63, r129_64, r129_67, r129_68, r129_70, r129_73, r129_74, r129_77, r129_78, r129_81, r129_82, sh_89 hS, mr_8, tm_in, or_true, true_or, tm_cs0, tm_cs1, tm_cs2, tm_cs3, tm_cs4, true_and, and_true, and_self, Option.toList_some, Option.toList_none, List.cons_append, List.nil_append, tm_rf_some, tm_rf_none]
  by_cases h0 : q = 0
  · subst h0
    simp only [nI_0, if_true, true_or]
  · have z0 : ¬ nI q = 0 := nI_ne0 (by omega) (by omega)
    by_cases h6 : 6 < q
    · have z6 : (6 : Int32) < nI q := (q_lt (a := 6) (b := q) rfl rfl (by decide) (by omega)).mpr h6
      simp only [z0, z6, h0, h6, if_true, if_false, false_or, true_or]
    · have z6 : ¬ (6 : Int32) < nI q := fun z => h6 ((q_lt (a := 6) (b := q) rfl rfl (by decide) (by omega)).mp z)
      by_cases h3 : i = 3
      · subst h3
        have z3 : nI 3 = 3 := rfl
        simp only [z0, z6, z3, h0, h6, not_true, if_true, if_false, false_or]
      · have z3 : ¬ nI i = 3 := fun z => h3 ((q_eq (a := i) (b := 3) rfl rfl (by omega) (by decide)).mp z)
        simp only [z0, z6, z3, h0, h6, h3, not_false_eq_true, if_true, if_false, or_self]
theorem m129_l (d : Nat) (K : Option Value → tm_H → Prop) (hS : tp_S G) (hR : tp_R R) {n : Nat} (hn : I 89 6 = nI n) (hn100 : n ≤ 100) {h u x : Int32} {F : Nat → Int32} (f : Option Value) : ∀ (k i : Nat) (N L : Nat → Int32) (D : p_D) (o3 o4 : Option Value), i + k = 3 → D.1 ≤ n → (∀ t, t < i → p_nr (D.2.2.2.2 t) (L t) (fun s => N (6 * t + s))) → (∀ (N' L' : Nat → Int32) (i' : Nat), ((p_nms (p_pk (I 90) n) k i D).1 = true → 1 ≤ i' ∧ i' ≤ 3 ∧ (p_nms (p_pk (I 90) n) k i D).2.2.2.2.1 3 = nI i' ∧ ∀ t, t < i' → p_nr ((p_nms (p_pk (I 90) n) k i D).2.2.2.2.2 t) (L' t) (fun s => N' (6 * t + s))) → K (some (.int (if (p_nms (p_pk (I 90) n) k i D).1 = true then nI (p_nms (p_pk (I 90) n) k i D).2.1 else -1))) (G, tp_mr I (h, nI i', u, x, F, N', L'), J, R)) → tm_A (d + 1) 129 7 [some (.ref 89), f, some (.int (nI D.1)), o3, o4] [] (G, tp_mr I (h, nI i, u, x, F, N, L), J, R) K := by
  intro k
  induction k with
  | zero =>
    intro i N L D o3 o4 hi hp hw hK
    have : i = 3 := by omega
    subst this
    have hq := p_rn_q (p_pk (I 90) n) 100 0 0 D.1
    have hle := p_rn_le (p_pk0 (b := I 90) (n := n)) 100 0 0 D.1 hp
    rw [r129_7, r129_8, ← nI_0, m129_in d K hS hR hn hn100 (v := 0) (by omega) f o4 100 0 D.1 0 N (by omega) hp (by omega), m129_63 (d + 1) K hS (by omega) (by omega), if_pos (Or.inr rfl)]
    have := hK (p_lt (p_pk (I 90) n) 3 100 N 0 D.1) L 3 (fun z => absurd z (by simp [p_nms]))
    simpa [p_nms] using this
  | succ k ih =>
    intro i N L D o3 o4 hi hp hw hK
    have hi3 : i < 3 := by omega
    have hq := p_rn_q (p_pk (I 90) n) 100 0 0 D.1
    have hle := p_rn_le (p_pk0 (b := I 90) (n := n)) 100 0 0 D.1 hp
    rw [r129_7, r129_8, ← nI_0, m129_in d K hS hR hn hn100 (v := 0) (by omega) f o4 100 0 D.1 0 N (by omega) hp (by omega), m129_63 (d + 1) K hS (by omega) (by omega)]
    have hlt := p_rn_lt (p_pk (I 90) n) i hi3 D.1 (fun t => tm_ix (p_pk (I 90) n (D.1 + t) - 96)) 100 0 0 N (fun _ => ⟨rfl, fun t ht => by omega⟩) (fun _ => rfl)
    rw [Nat.add_zero] at hlt
    have hno := p_lt_o (p_pk (I 90) n) i 100 0 D.1 N
    by_cases hb : (p_rn (p_pk (I 90) n) 100 0 0 D.1).2.1 = 0 ∨ 6 < (p_rn (p_pk (I 90) n) 100 0 0 D.1).2.1
    · rw [if_pos (Or.inl hb)]
      have e1 : (p_nm (p_pk (I 90) n) D.1).1 = -1 := by unfold p_nm; rw [if_pos hb]
      have e2 : (p_nms (p_pk (I 90) n) (k + 1) i D).1 = false := by rw [p_nms, if_pos (Or.inl e1)]
      have := hK (p_lt (p_pk (I 90) n) i 100 N 0 D.1) L i (fun z => by rw [e2] at z; exact absurd z (by simp))
      rw [e2] at this
      simpa using this
    · rw [if_neg (fun z => z.elim hb (fun y => by omega))]
      have hlt := hlt (by omega)
      generalize hq1 : (p_rn (p_pk (I 90) n) 100 0 0 D.1).2.1 = q1 at *
      generalize hp1 : (p_rn (p_pk (I 90) n) 100 0 0 D.1).2.2 = p1 at *
      generalize hn1 : (p_rn (p_pk (I 90) n) 100 0 0 D.1).1 = nm at *
      generalize hN1 : p_lt (p_pk (I 90) n) i 100 N 0 D.1 = N1 at *
      have hnm : p_nm (p_pk (I 90) n) D.1 = (nm, p1) := by
        unfold p_nm
        rw [hq1, hp1, hn1, if_neg hb]
      have hr1 : p_nr nm (nI q1) (fun s => N1 (6 * i + s)) := ⟨_, q1, by omega, by omega, rfl, hlt.1, hlt.2⟩
      have hw1 : ∀ t, t < i → p_nr (D.2.2.2.2 t) (p_upf L i (nI q1) t) (fun s => N1 (6 * t + s)) := fun t ht => by
        have : p_upf L i (nI q1) t = L t := by unfold p_upf; rw [if_neg (by omega)]
        rw [this]
        exact p_nr_congr (hw t ht) (fun s hs => hno (6 * t + s) (by omega))
      have hLi : p_upf L i (nI q1) i = nI q1 := by unfold p_upf; rw [if_pos rfl]
      have i3 : tm_in (nI i) 3 := q_in hi3 (by decide)
      simp only [r129_83, r129_84, r129_87, r129_88, r129_91, r129_92, r129_93, r129_94, sh_89 hS, sh_93 hS, rf_89_12 hR, mr_8, i3, q_ix (show i < 2147483648 by omega), mr_u93, show 3 ≤ 93 by decide, tm_in, or_true, true_or, tm_cs0, tm_cs1, tm_cs2, tm_cs3, tm_cs4, true_and, and_true, and_self, Option.toList_some, Option.toList_none, List.cons_append, List.nil_append, tm_rf_some, tm_rf_none]
      rw [← nI_0, m129_du d K hS hR (w := D.2.2.2.2) (nm := nm) hi3 hw1 (by rw [hLi]; exact hr1) f _ _ i 0 (by omega)]
      have hm1 := p_nr_m1 hr1
      by_cases hd : p_hn D.2.2.2.2 nm 0 i = true
      · rw [if_pos hd]
        have e2 : (p_nms (p_pk (I 90) n) (k + 1) i D).1 = false := by rw [p_nms, hnm, if_pos (Or.inr hd)]
        have := hK N1 (p_upf L i (nI q1)) i (fun z => by rw [e2] at z; exact absurd z (by simp))
        rw [e2] at this
        simpa using this
      · rw [if_neg hd]
        have hnn : ¬ ((nm, p1).1 = -1 ∨ p_hn D.2.2.2.2 (nm, p1).1 0 i = true) := fun z => z.elim hm1 hd
        have hbk := p_bk (b := I 90) (n := n) (p := p1) (fun x => x = 44) (by decide) (by decide)
        simp only [r129_126, r129_127, r129_127i, r129_128, r129_131, r129_132, r129_133, r129_136, r129_137, r129_138, r129_141, r129_143, sh_89 hS, mr_8, mr_u8, nI_1, m122r _ _ hS hR hn hn100 (show p1 ≤ 1000 by omega), hbk, tm_in, or_true, true_or, tm_cs0, tm_cs1, tm_cs2, tm_cs3, tm_cs4, true_and, and_true, and_self, Option.toList_some, Option.toList_none, List.cons_append, List.nil_append, tm_rf_some, tm_rf_none]
        have hw2 : ∀ t, t < i + 1 → p_nr (p_upf D.2.2.2.2 i nm t) (p_upf L i (nI q1) t) (fun s => N1 (6 * t + s)) := fun t ht => by
          by_cases e : t = i
          · subst e
            rw [hLi]
            unfold p_upf
            rw [if_pos rfl]
            exact hr1
          · have : p_upf D.2.2.2.2 i nm t = D.2.2.2.2 t := by unfold p_upf; rw [if_neg e]
            rw [this]
            exact hw1 t (by omega)
        by_cases h4 : p_pk (I 90) n p1 = 44
        · have e2 : p_nms (p_pk (I 90) n) (k + 1) i D = p_nms (p_pk (I 90) n) k (i + 1) (p1 + 1, D.2.1 ||| (1 <<< ((3 : Int32) &&& 31)), D.2.2.1, p_upf D.2.2.2.1 3 (nI (i + 1)), p_upf D.2.2.2.2 i nm) := by
            rw [p_nms, hnm, if_neg hnn, if_pos h4]
          rw [e2] at hK
          have l := p_pk_lt (b := I 90) (n := n) (p := p1) (by rw [h4]; decide)
          simp only [h4, if_true, r129_148, r129_151, nI_1]
          exact ih (i + 1) N1 (p_upf L i (nI q1)) (p1 + 1, D.2.1 ||| (1 <<< ((3 : Int32) &&& 31)), D.2.2.1, p_upf D.2.2.2.1 3 (nI (i + 1)), p_upf D.2.2.2.2 i nm) _ _ (by omega) l hw2 hK
        · have e2 : p_nms (p_pk (I 90) n) (k + 1) i D = (true, p1, D.2.1 ||| (1 <<< ((3 : Int32) &&& 31)), D.2.2.1, p_upf D.2.2.2.1 3 (nI (i + 1)), p_upf D.2.2.2.2 i nm) := by
            rw [p_nms, hnm, if_neg hnn, if_neg h4]
          rw [e2] at hK
          simp only [h4, if_false, r129_146, r129_147]
          have := hK N1 (p_upf L i (nI q1)) (i + 1) (fun _ => ⟨by omega, by omega, by simp [p_upf], hw2⟩)
          simpa using this
theorem m129 (d : Nat) (K : Option Value → tm_H → Prop) (hS : tp_S G) (hR : tp_R R) {n : Nat} (hn : I 89 6 = nI n) (hn100 : n ≤ 100) {h m u x : Int32} {F N L : Nat → Int32} (D : p_D) (hp : D.1 ≤ n) (hK : ∀ (N' L' : Nat → Int32) (i' : Nat), ((p_nms (p_pk (I 90) n) 3 0 D).1 = true → 1 ≤ i' ∧ i' ≤ 3 ∧ (p_nms (p_pk (I 90) n) 3 0 D).2.2.2.2.1 3 = nI i' ∧ ∀ t, t < i' → p_nr ((p_nms (p_pk (I 90) n) 3 0 D).2.2.2.2.2 t) (L' t) (fun s => N' (6 * t + s))) → K (some (.int (if (p_nms (p_pk (I 90) n) 3 0 D).1 = true then nI (p_nms (p_pk (I 90) n) 3 0 D).2.1 else -1))) (G, tp_mr I (h, nI i', u, x, F, N', L'), J, R)) : tm_R (d + 1) 129 [.ref 89, .int (nI D.1)] (G, tp_mr I (h, m, u, x, F, N, L), J, R) K := by
  rw [e129]
  simp only [r129_0, r129_1, r129_2, r129_5, r129_6, sh_89 hS, mr_u8, tm_in, or_true, true_or, tm_cs0, tm_cs1, tm_cs2, tm_cs3, tm_cs4, true_and, and_true, and_self, Option.toList_some, Option.toList_none, List.cons_append, List.nil_append, tm_rf_some, tm_rf_none]
  exact m129_l d K hS hR hn hn100 _ 3 0 N L D _ _ rfl hp (fun t ht => by omega) hK
end MN2
