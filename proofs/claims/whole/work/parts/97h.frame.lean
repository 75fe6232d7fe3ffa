/-! The script is never written. -/
def fr (h h' : tm_H) : Prop := h.1.1 ≤ h'.1.1 ∧ (∀ a, a < h.1.1 → h'.1.2.2 a = h.1.2.2 a) ∧ h'.2.1 0 = h.2.1 0
def fr0 (h : tm_H) : Prop := 3 ≤ h.1.1 ∧ (h.1.2.2 0).1 = 1
theorem fr_refl {h : tm_H} (h0 : fr0 h) : fr h h := ⟨Nat.le_refl _, fun _ _ => rfl, rfl⟩
theorem fr_0 {h h' : tm_H} (h0 : fr0 h) (e : fr h h') : fr0 h' := ⟨Nat.le_trans h0.1 e.1, by rw [e.2.1 0 (by have := h0.1; omega)]; exact h0.2⟩
theorem fr_tr {h h' h'' : tm_H} (a : fr h h') (b : fr h' h'') : fr h h'' := ⟨Nat.le_trans a.1 b.1, fun x hx => (b.2.1 x (Nat.lt_of_lt_of_le hx a.1)).trans (a.2.1 x hx), b.2.2.trans a.2.2⟩
theorem up2_0 {f : Nat → Nat → Int32} {a i : Nat} {v : Int32} (ha : a ≠ 0) : up2 f a i v 0 = f 0 := by
  funext j
  unfold up2
  rw [if_neg (fun z => ha z.1.symm)]
theorem ne_of_3 {a : Nat} (h : 3 ≤ a) : a ≠ 0 := by omega
theorem fr_hk {pc n : Nat} {ls : tm_Lo} {h : tm_H} {q : Option (List Value)} {w : Nat × tm_Lo × List Value × tm_H} (h0 : fr0 h) (e : tm_hk pc n ls h q = some w) : fr h w.2.2.2 := by
  unfold tm_hk at e
  obtain ⟨a, -, rfl⟩ := Option.map_eq_some_iff.mp e
  exact fr_refl h0
theorem fr_hs {pc n : Nat} {ls : tm_Lo} {h : tm_H} {q : Option (List Value × tm_H)} {w : Nat × tm_Lo × List Value × tm_H} (hq : ∀ a, q = some a → fr h a.2) (e : tm_hs pc n ls q = some w) : fr h w.2.2.2 := by
  unfold tm_hs at e
  obtain ⟨a, ea, rfl⟩ := Option.map_eq_some_iff.mp e
  exact hq a ea
theorem fr_nw {q : Nat × Nat} {n : Nat} {h : tm_H} (h0 : fr0 h) : fr h (tm_nw q n h) := by
  have := h0.1
  have hz : ¬ 0 = h.1.1 := by omega
  refine ⟨by show h.1.1 ≤ h.1.1 + 1; omega, fun x hx => ?_, ?_⟩
  · show upr h.1.2.2 h.1.1 q x = _
    unfold upr
    rw [if_neg (by omega)]
  · show upr h.2.1 h.1.1 _ 0 = _
    unfold upr
    rw [if_neg hz]
theorem fr_pf {t c k : Nat} {st : List Value} {h : tm_H} {a : List Value × tm_H} (h0 : fr0 h) (e : tm_pf t c k st h = some a) : fr h a.2 := by
  have hz : ∀ b, h.1.2.2 b = (0, c) → b ≠ 0 := fun b hb z => by
    subst z
    have := h0.2
    rw [hb] at this
    exact absurd this (show ¬ ((0 : Nat) = 1) by decide)
  unfold tm_pf at e
  split at e
  · split at e
    · rename_i hc
      cases e
      exact ⟨Nat.le_refl _, fun _ _ => rfl, up2_0 (hz _ hc)⟩
    · cases e
  · split at e
    · cases e
      exact ⟨Nat.le_refl _, fun _ _ => rfl, rfl⟩
    · cases e
  · split at e
    · cases e
      exact ⟨Nat.le_refl _, fun _ _ => rfl, rfl⟩
    · cases e
  · split at e
    · rename_i hc
      cases e
      exact ⟨Nat.le_refl _, fun _ _ => rfl, up2_0 (hz _ hc.1)⟩
    · cases e
  · cases e
theorem fr_asI {st : List Value} {h : tm_H} {a : List Value × tm_H} (h0 : fr0 h) (e : tm_asI st h = some a) : fr h a.2 := by
  unfold tm_asI at e
  split at e
  · split at e
    · rename_i hc
      cases e
      exact ⟨Nat.le_refl _, fun _ _ => rfl, up2_0 (ne_of_3 hc.1)⟩
    · cases e
  · cases e
theorem fr_asJ {st : List Value} {h : tm_H} {a : List Value × tm_H} (h0 : fr0 h) (e : tm_asJ st h = some a) : fr h a.2 := by
  unfold tm_asJ at e
  split at e
  · split at e
    · cases e
      exact ⟨Nat.le_refl _, fun _ _ => rfl, rfl⟩
    · cases e
  · cases e
theorem fr_asA {st : List Value} {h : tm_H} {a : List Value × tm_H} (h0 : fr0 h) (e : tm_asA st h = some a) : fr h a.2 := by
  unfold tm_asA at e
  split at e
  · split at e
    · cases e
      exact ⟨Nat.le_refl _, fun _ _ => rfl, rfl⟩
    · cases e
  · cases e
theorem fr_na {q : Nat} {st : List Value} {h : tm_H} {a : List Value × tm_H} (h0 : fr0 h) (e : tm_na q st h = some a) : fr h a.2 := by
  unfold tm_na at e
  split at e
  · split at e
    · cases e
      exact fr_nw h0
    · cases e
  · cases e
theorem fr_mna {st : List Value} {h : tm_H} {a : List Value × tm_H} (h0 : fr0 h) (e : tm_mna st h = some a) : fr h a.2 := by
  have h3 := h0.1
  unfold tm_mna at e
  split at e
  · split at e
    · cases e
      refine ⟨?_, fun x hx => ?_, ?_⟩
      · show h.1.1 ≤ h.1.1 + 1 + _
        omega
      · unfold tm_mn
        simp only
        rw [if_neg (by omega), if_neg (by omega)]
      · unfold tm_mn
        simp only
        rw [if_neg (by omega)]
    · cases e
  · cases e
theorem fr_cp {st : List Value} {h : tm_H} {a : List Value × tm_H} (h0 : fr0 h) (e : tm_cp st h = some a) : fr h a.2 := by
  unfold tm_cp at e
  split at e
  · split at e
    · rename_i hc
      cases e
      refine ⟨Nat.le_refl _, fun _ _ => rfl, ?_⟩
      show upr _ _ _ 0 = _
      unfold upr
      rw [if_neg (fun z => ne_of_3 hc.1 z.symm)]
    · cases e
  · cases e
theorem fr_h {i : Instr} {x : tm_X} {pc : Nat} {ls : tm_Lo} {st : List Value} {h : tm_H} {w : Nat × tm_Lo × List Value × tm_H} (h0 : fr0 h) (e : tm_h i x pc ls st h = some w) : fr h w.2.2.2 := by
  unfold tm_h at e
  split at e
  · exact fr_hk h0 e
  · exact fr_hs (fun a ea => fr_pf h0 ea) e
  · exact fr_hk h0 e
  · exact fr_hk h0 e
  · exact fr_hk h0 e
  · exact fr_hk h0 e
  · exact fr_hk h0 e
  · exact fr_hs (fun a ea => fr_asI h0 ea) e
  · exact fr_hs (fun a ea => fr_asJ h0 ea) e
  · exact fr_hs (fun a ea => fr_asA h0 ea) e
  · cases e
    exact fr_nw h0
  · exact fr_hs (fun a ea => fr_na h0 ea) e
  · exact fr_hs (fun a ea => fr_na h0 ea) e
  · exact fr_hs (fun a ea => fr_mna h0 ea) e
  · cases e
    exact fr_refl h0
  · obtain ⟨a, -, rfl⟩ := Option.map_eq_some_iff.mp e
    exact fr_refl h0
theorem fr_run : ∀ (n d j pc : Nat) (ls : tm_Lo) (st : List Value) (h : tm_H) (q : Option Value × tm_H), fr0 h → tm_run n d j pc ls st h = some q → fr h q.2
  | 0, _, _, _, _, _, _, _ => fun _ e => by cases e
  | n + 1, d, j, pc, ls, st, h, q => fun h0 e => by
    rw [tm_run] at e
    obtain ⟨o, ho, e⟩ := Option.bind_eq_some_iff.mp e
    split at e
    · obtain ⟨a, -, rfl⟩ := Option.map_eq_some_iff.mp e
      exact fr_refl h0
    · split at e
      · split at e
        · cases e
        · split at e
          · obtain ⟨w, e1, e2⟩ := Option.bind_eq_some_iff.mp e
            exact fr_run n _ _ _ _ _ _ _ h0 e2
          · split at e
            · obtain ⟨w, e1, e2⟩ := Option.bind_eq_some_iff.mp e
              have f1 := fr_cp h0 e1
              exact fr_tr f1 (fr_run n _ _ _ _ _ _ _ (fr_0 h0 f1) e2)
            · split at e
              · obtain ⟨w, e1, e2⟩ := Option.bind_eq_some_iff.mp e
                exact fr_run n _ _ _ _ _ _ _ h0 e2
              · split at e
                · obtain ⟨w, e1, e2⟩ := Option.bind_eq_some_iff.mp e
                  have f1 := fr_run n _ _ _ _ _ _ _ h0 e1
                  exact fr_tr f1 (fr_run n _ _ _ _ _ _ _ (fr_0 h0 f1) e2)
                · cases e
      · obtain ⟨w, e1, e2⟩ := Option.bind_eq_some_iff.mp e
        have f1 := fr_h h0 e1
        exact fr_tr f1 (fr_run n _ _ _ _ _ _ _ (fr_0 h0 f1) e2)
/-- a call keeps the script -/
theorem fr_R {d j : Nat} {as : List Value} {h : tm_H} {K : Option Value → tm_H → Prop} (h0 : fr0 h) (e : tm_R d j as h K) : tm_R d j as h (fun r h' => K r h' ∧ fr h h') := by
  obtain ⟨n, q, e1, e2⟩ := e
  exact ⟨n, q, e1, e2, fr_run _ _ _ _ _ _ _ _ h0 e1⟩
/-- a call on both, and the script is kept -/
theorem iv_both_x {d j j' : Nat} {as : List Value} {h : tm_H} (h0 : fr0 h) (e : iv_both d j j' as h) : tm_R d j (.ref 3 :: as) h (fun r h1 => ∃ x, r = some (.int x) ∧ fr h h1 ∧ tm_R d j' (.ref 89 :: as) h1 (fun r' h2 => r' = some (.int x) ∧ iv h2 ∧ fr h h2)) := by
  unfold iv_both at e
  refine tm_A_mono (fun r h1 z => ?_) (fr_R h0 e)
  obtain ⟨z1, z2⟩ := z
  obtain ⟨n, q, e1, e2⟩ := fr_R (fr_0 h0 z2) z1
  obtain ⟨⟨⟨x, x1, x2⟩, e3⟩, e4⟩ := e2
  exact ⟨x, x1, z2, n, q, e1, x2, e3, fr_tr z2 e4⟩
