/-! A whole run. -/
def ts_fl (as : List Value) : tm_Lo := as.flatMap (fun v => if v.category = 2 then [some v, none] else [some v])
theorem ts_fl_len (ad : Nat → Nat) : ∀ as : List Value, (ts_fl as).length = (lg_sl (as.map (ts_v ad))).length
  | [] => rfl
  | v :: r => by
    have ih := ts_fl_len ad r
    simp only [ts_fl, lg_sl, List.flatMap_cons, List.map_cons, List.length_append, ts_v_cat] at ih ⊢
    rw [ih]
    by_cases h : v.category = 2 <;> simp [h]
theorem ts_fl_get (ad : Nat → Nat) : ∀ (as : List Value) (i : Nat) (v : Value), (ts_fl as)[i]? = some (some v) → (lg_sl (as.map (ts_v ad)))[i]? = some (.val (ts_v ad v))
  | [], i, v, h => by simp [ts_fl] at h
  | w :: r, i, v, h => by
    have ih := ts_fl_get ad r
    simp only [ts_fl, List.flatMap_cons] at h ih
    simp only [lg_sl, List.flatMap_cons, List.map_cons, ts_v_cat] at ih ⊢
    by_cases hc : w.category = 2
    · rw [if_pos hc] at h ⊢
      match i, h with
      | 0, h => simp at h; subst h; simp
      | 1, h => simp at h
      | i + 2, h => simp at h ⊢; exact ih i v (by simpa using h)
    · rw [if_neg hc] at h ⊢
      match i, h with
      | 0, h => simp at h; subst h; simp
      | i + 1, h => simp at h ⊢; exact ih i v (by simpa using h)
theorem ts_fl_long : ∀ (as : List Value) (n i : Nat) (v : Value), (∀ k ∈ as.map tm_vk, k ≠ 9) → (ts_fl as)[i]? = some (some v) → v.category = 2 → n + i ∈ ts_lp n (as.map tm_vk)
  | [], n, i, v, _, h, _ => by simp [ts_fl] at h
  | w :: r, n, i, v, h9, h, hv => by
    have ih := ts_fl_long r
    have h9r : ∀ k ∈ r.map tm_vk, k ≠ 9 := fun k hk => h9 k (List.mem_cons_of_mem _ hk)
    have hw9 : tm_vk w ≠ 9 := h9 _ List.mem_cons_self
    simp only [ts_fl, List.flatMap_cons] at h ih
    simp only [List.map_cons, ts_lp]
    by_cases hc : w.category = 2
    · have hk : tm_vk w = 1 := by cases w <;> simp_all [Value.category, tm_vk]
      rw [if_pos hc] at h
      rw [if_pos hk]
      match i, h with
      | 0, h => exact List.mem_cons_self
      | 1, h => simp at h
      | i + 2, h =>
        simp at h
        refine List.mem_cons_of_mem _ ?_
        have := ih (n + 2) i v h9r (by simpa using h) hv
        rw [show n + (i + 2) = n + 2 + i by omega]
        exact this
    · have hk : ¬ tm_vk w = 1 := by cases w <;> simp_all [Value.category, tm_vk]
      rw [if_neg hc] at h
      rw [if_neg hk]
      match i, h with
      | 0, h => simp at h; subst h; exact absurd hv hc
      | i + 1, h =>
        simp at h
        have := ih (n + 1) i v h9r (by simpa using h) hv
        rw [show n + (i + 1) = n + 1 + i by omega]
        exact this
theorem ts_fl_ls : ∀ as : List Value, (∀ k ∈ as.map tm_vk, k ≠ 9) → (ts_fl as).length = ts_ls (as.map tm_vk)
  | [], _ => rfl
  | w :: r, h9 => by
    have ih := ts_fl_ls r (fun k hk => h9 k (List.mem_cons_of_mem _ hk))
    have hw9 : tm_vk w ≠ 9 := h9 _ List.mem_cons_self
    simp only [ts_fl, List.flatMap_cons, List.length_append, List.map_cons, ts_ls] at ih ⊢
    rw [ih]
    congr 1
    cases w <;> simp_all [Value.category, tm_vk]
theorem ts_ent {ad : Nat → Nat} {ml : Nat} {LL : List Nat} {as : List Value} {ak : List Nat} (hk : as.map tm_vk = ak) (h9 : ∀ k ∈ ak, k ≠ 9) (hls : ts_ls ak ≤ ml) (hLL : ∀ k ∈ ts_lp 0 ak, k ∈ LL) : ts_L ad ml LL (tm_ent ml as) ((lg_sl (as.map (ts_v ad)) ++ List.replicate (ml - (lg_sl (as.map (ts_v ad))).length) Slot.unset).toArray) := by
  subst hk
  have hlen := ts_fl_ls as h9
  have hlen2 := ts_fl_len ad as
  have hle : (lg_sl (as.map (ts_v ad))).length ≤ ml := by rw [← hlen2, hlen]; exact hls
  obtain ⟨g1, g2, g3⟩ := lv_entry (as.map (ts_v ad)) hle
  have hent : tm_ent ml as = ts_fl as ++ List.replicate (ml - (ts_fl as).length) none := rfl
  have key : ∀ (i : Nat) (v : Value), (tm_ent ml as)[i]? = some (some v) → (ts_fl as)[i]? = some (some v) := by
    intro i v h
    rw [hent] at h
    by_cases hi : i < (ts_fl as).length
    · rw [List.getElem?_append_left hi] at h; exact h
    · rw [List.getElem?_append_right (by omega)] at h
      have := List.mem_of_getElem? h
      have := List.eq_of_mem_replicate this
      cases this
  refine ⟨by rw [hent, List.length_append, List.length_replicate]; omega, g1, g2, fun i v h => ?_, fun i v h hv => ?_⟩
  · have h1 := ts_fl_get ad as i v (key i v h)
    have hi : i < (lg_sl (as.map (ts_v ad))).length := (List.getElem?_eq_some_iff.mp h1).1
    rw [List.getElem?_toArray, List.getElem?_append_left hi]
    exact h1
  · have := ts_fl_long as 0 i v h9 (key i v h) hv
    rw [Nat.zero_add] at this
    exact hLL _ this
theorem ts_h_grow {i : Instr} {x : tm_X} {pc pc' : Nat} {ls ls' : tm_Lo} {st st' : List Value} {h h' : tm_H} (e : tm_h i x pc ls st h = some (pc', ls', st', h')) : h.1.1 ≤ h'.1.1 ∧ h.1.2.1 ≤ h'.1.2.1 := by
  have pure : (tm_q i x pc ls st).map (fun w => (w.1, w.2.1, w.2.2, h)) = some (pc', ls', st', h') → h.1.1 ≤ h'.1.1 ∧ h.1.2.1 ≤ h'.1.2.1 := by
    intro e1
    obtain ⟨w, f1, f2⟩ := Option.map_eq_some_iff.mp e1
    cases f2
    exact ⟨Nat.le_refl _, Nat.le_refl _⟩
  have hkk : ∀ {n : Nat} {q : Option (List Value)}, tm_hk pc n ls h q = some (pc', ls', st', h') → h.1.1 ≤ h'.1.1 ∧ h.1.2.1 ≤ h'.1.2.1 := by
    intro n q e1
    obtain ⟨w, f1, f2⟩ := Option.map_eq_some_iff.mp e1
    cases f2
    exact ⟨Nat.le_refl _, Nat.le_refl _⟩
  have hss : ∀ {n : Nat} {q : Option (List Value × tm_H)}, tm_hs pc n ls q = some (pc', ls', st', h') → q = some (st', h') := by
    intro n q e1
    obtain ⟨w, f1, f2⟩ := Option.map_eq_some_iff.mp e1
    cases f2
    exact f1
  cases i with
  | getfield k => exact hkk e
  | iaload => exact hkk e
  | caload => exact hkk e
  | laload => exact hkk e
  | aaload => exact hkk e
  | arraylength => exact hkk e
  | putfield k =>
    have f := hss e
    unfold tm_pf at f
    split at f <;> first | (split at f <;> first | (cases f; exact ⟨Nat.le_refl _, Nat.le_refl _⟩) | cases f) | cases f
  | iastore =>
    have f := hss e
    unfold tm_asI at f
    split at f <;> first | (split at f <;> first | (cases f; exact ⟨Nat.le_refl _, Nat.le_refl _⟩) | cases f) | cases f
  | lastore =>
    have f := hss e
    unfold tm_asJ at f
    split at f <;> first | (split at f <;> first | (cases f; exact ⟨Nat.le_refl _, Nat.le_refl _⟩) | cases f) | cases f
  | aastore =>
    have f := hss e
    unfold tm_asA at f
    split at f <;> first | (split at f <;> first | (cases f; exact ⟨Nat.le_refl _, Nat.le_refl _⟩) | cases f) | cases f
  | new k => cases e; exact ⟨Nat.le_succ _, Nat.le_add_right _ _⟩
  | newarray t =>
    have f := hss e
    unfold tm_na at f
    split at f <;> first | (split at f <;> first | (cases f; exact ⟨Nat.le_succ _, Nat.le_add_right _ _⟩) | cases f) | cases f
  | anewarray t =>
    have f := hss e
    unfold tm_na at f
    split at f <;> first | (split at f <;> first | (cases f; exact ⟨Nat.le_succ _, Nat.le_add_right _ _⟩) | cases f) | cases f
  | multianewarray t n =>
    have f := hss e
    unfold tm_mna at f
    split at f
    next v u r =>
      split at f
      next =>
        cases f
        exact ⟨by show h.1.1 ≤ h.1.1 + 1 + tm_ix u; omega, by show h.1.2.1 ≤ h.1.2.1 + tm_ix u + tm_ix u * tm_ix v; omega⟩
      next => cases f
    next => cases f
  | getstatic k => cases e; exact ⟨Nat.le_refl _, Nat.le_refl _⟩
  | _ => exact pure e
theorem ts_grow : ∀ (n d j pc : Nat) (ls : tm_Lo) (st : List Value) (h : tm_H) (q : Option Value × tm_H), tm_run n d j pc ls st h = some q → h.1.1 ≤ q.2.1.1 ∧ h.1.2.1 ≤ q.2.1.2.1
  | 0, _, _, _, _, _, _, _ => fun e => by cases e
  | n + 1, d, j, pc, ls, st, h, q => fun e => by
    rw [tm_run] at e
    obtain ⟨o, -, e⟩ := Option.bind_eq_some_iff.mp e
    split at e
    next =>
      obtain ⟨w, f1, f2⟩ := Option.map_eq_some_iff.mp e
      cases f2
      exact ⟨Nat.le_refl _, Nat.le_refl _⟩
    next =>
      split at e
      next =>
        split at e
        next => cases e
        next =>
          split at e
          next =>
            obtain ⟨w, f1, f2⟩ := Option.bind_eq_some_iff.mp e
            exact ts_grow n _ _ _ _ _ _ _ f2
          next =>
            split at e
            next =>
              obtain ⟨w, f1, f2⟩ := Option.bind_eq_some_iff.mp e
              have g := ts_grow n _ _ _ _ _ _ _ f2
              unfold tm_cp at f1
              split at f1
              next =>
                split at f1
                next => cases f1; exact g
                next => cases f1
              next => cases f1
            next =>
              split at e
              next =>
                obtain ⟨w, f1, f2⟩ := Option.bind_eq_some_iff.mp e
                exact ts_grow n _ _ _ _ _ _ _ f2
              next =>
               split at e
               next =>
                obtain ⟨w, f1, f2⟩ := Option.bind_eq_some_iff.mp e
                have g1 := ts_grow n _ _ _ _ _ _ _ f1
                have g2 := ts_grow n _ _ _ _ _ _ _ f2
                exact ⟨Nat.le_trans g1.1 g2.1, Nat.le_trans g1.2 g2.2⟩
               next => cases e
      next =>
        obtain ⟨w, f1, f2⟩ := Option.bind_eq_some_iff.mp e
        have g1 := ts_h_grow f1
        have g2 := ts_grow n _ _ _ _ _ _ _ f2
        exact ⟨Nat.le_trans g1.1 g2.1, Nat.le_trans g1.2 g2.2⟩
