/-! Groupings, pure: one step of the search. -/
section GP4
variable (C : Nat → Nat → Int) (T : Nat → Nat → Prop) (o : Int) (m : Nat)
/-- those that may be and begin so -/
def gp_V (k : Nat) (f h : Nat → Nat) : Prop := gp_val C T m (gp_all m) h ∧ ∀ j, j < k → h j = f j
/-- from the best so far to the best behind all of P -/
def gp_post (P : (Nat → Nat) → Prop) (B B' : Option (Nat → Nat)) : Prop := (B' = B ∨ ∃ h, P h ∧ B' = some h) ∧ (∀ h, P h → ∃ b, B' = some b ∧ gp_key C o m (gp_all m) b ≤ gp_key C o m (gp_all m) h) ∧ (∀ b0, B = some b0 → ∃ b, B' = some b ∧ gp_key C o m (gp_all m) b ≤ gp_key C o m (gp_all m) b0)
/-- the best so far lies ahead of all that begin so -/
def gp_bef (k : Nat) (f : Nat → Nat) (B : Option (Nat → Nat)) : Prop := ∀ b, B = some b → ∀ h : Nat → Nat, (∀ j, j < k → h j = f j) → gp_df b m < gp_df h m
/-- what the first k cost -/
def gp_pc (f : Nat → Nat) (n : Nat) : Int := gp_s (fun r => (if f r = r then o else 0) + gp_s (fun j => if f j = f r then C j r else 0) r) n
/-- the first k may be so -/
def gp_pre (k : Nat) (f : Nat → Nat) : Prop := (∀ j r, j < r → r < k → f j = f r → C j r ≠ 1000) ∧ (∀ j r, j < r → r < k → T j r → f j = f r)
end GP4
section GP5
variable {C : Nat → Nat → Int} {T : Nat → Nat → Prop} {o : Int} {m : Nat}
theorem gp_key_df (f : Nat → Nat) : gp_key C o m (gp_all m) f = gp_cost C o m (gp_all m) f * 1099511627776 + gp_df f m := by
  unfold gp_key
  rw [gp_df_e]
theorem gp_cost_pc (f : Nat → Nat) : gp_cost C o m (gp_all m) f = gp_pc C o f m := by
  apply gp_s_congr
  intro r hr
  have : (gp_all m).testBit r = true := by rw [gp_all_t]; simp [hr]
  rw [if_pos this]
  congr 1
  apply gp_s_congr
  intro j hj
  have : (gp_all m).testBit j = true := by rw [gp_all_t]; simp; omega
  simp only [this, true_and]
theorem gp_post_empty {P : (Nat → Nat) → Prop} {B : Option (Nat → Nat)} (h : ∀ x, ¬ P x) : gp_post C o m P B B := ⟨Or.inl rfl, fun x hx => absurd hx (h x), fun b0 hb => ⟨b0, hb, Int.le_refl _⟩⟩
theorem gp_post_or {P Q X : (Nat → Nat) → Prop} {B B1 B2 : Option (Nat → Nat)} (h1 : gp_post C o m P B B1) (h2 : gp_post C o m Q B1 B2) (hX : ∀ h, X h ↔ P h ∨ Q h) : gp_post C o m X B B2 := by
  obtain ⟨a1, a2, a3⟩ := h1
  obtain ⟨b1, b2, b3⟩ := h2
  refine ⟨?_, fun h hh => ?_, fun b0 hb0 => ?_⟩
  · rcases b1 with b1 | ⟨h, hq, e⟩
    · rcases a1 with a1 | ⟨h, hp, e⟩
      · exact Or.inl (b1.trans a1)
      · exact Or.inr ⟨h, (hX h).mpr (Or.inl hp), b1.trans e⟩
    · exact Or.inr ⟨h, (hX h).mpr (Or.inr hq), e⟩
  · rcases (hX h).mp hh with hp | hq
    · obtain ⟨b, e, l⟩ := a2 h hp
      obtain ⟨b', e', l'⟩ := b3 b e
      exact ⟨b', e', Int.le_trans l' l⟩
    · exact b2 h hq
  · obtain ⟨b, e, l⟩ := a3 b0 hb0
    obtain ⟨b', e', l'⟩ := b3 b e
    exact ⟨b', e', Int.le_trans l' l⟩
theorem gp_val_full {f : Nat → Nat} {gs : Nat} {w : Nat → Nat} (hT : ∀ r s, T r s → T s r ∧ r ≠ s) (hr : gp_rel m gs w f) (hp : gp_pre C T m f) : gp_val C T m (gp_all m) f := by
  obtain ⟨h1, h2, -⟩ := hr
  have t : ∀ r, r < m → (gp_all m).testBit r = true := fun r h => by rw [gp_all_t]; simp [h]
  refine ⟨fun r hr _ => ?_, fun j r a b _ _ e => hp.1 j r a b e, fun r s a b _ e => ⟨t s b, ?_⟩⟩
  · have a := h1 r hr
    exact ⟨a.2.1, t _ (by omega), h2 _ _ (by omega) hr a.2.2⟩
  · rcases Nat.lt_trichotomy r s with z | z | z
    · exact hp.2 r s z b e
    · exact absurd z (hT r s e).2
    · exact (hp.2 s r z a (hT r s e).1).symm
/-- the end of a way -/
theorem gp_leaf_new {f : Nat → Nat} {B : Option (Nat → Nat)} (hm : m ≤ 10) (hf : gp_val C T m (gp_all m) f) (hB : ∀ b, B = some b → gp_val C T m (gp_all m) b ∧ gp_cost C o m (gp_all m) f < gp_cost C o m (gp_all m) b) : gp_post C o m (gp_V C T m m f) B (some f) := by
  refine ⟨Or.inr ⟨f, ⟨hf, fun _ _ => rfl⟩, rfl⟩, fun h hh => ⟨f, rfl, ?_⟩, fun b hb => ⟨f, rfl, ?_⟩⟩
  · rw [gp_key_congr (f := f) (h := h) (fun r hr _ => (hh.2 r hr).symm)]
    exact Int.le_refl _
  · obtain ⟨vb, lt⟩ := hB b hb
    have d1 := gp_dig_bd (S := gp_all m) (f := f) m hm (gp_ok_15 hm hf.1)
    have d2 := gp_dig_bd (S := gp_all m) (f := b) m hm (gp_ok_15 hm vb.1)
    have p := gp_pp (10 - m)
    unfold gp_key
    omega
theorem gp_leaf_old {f b : Nat → Nat} {B : Option (Nat → Nat)} (hb : B = some b) (hbef : gp_bef m m f B) (hle : gp_cost C o m (gp_all m) b ≤ gp_cost C o m (gp_all m) f) : gp_post C o m (gp_V C T m m f) B B := by
  refine ⟨Or.inl rfl, fun h hh => ⟨b, hb, ?_⟩, fun b0 hb0 => ⟨b0, hb0, Int.le_refl _⟩⟩
  rw [gp_key_congr (f := h) (h := f) (fun r hr _ => hh.2 r hr)]
  have := hbef b hb f (fun _ _ => rfl)
  rw [gp_key_df, gp_key_df]
  omega
/-- those that begin so, and whose next group is at least g -/
def gp_from (C : Nat → Nat → Int) (T : Nat → Nat → Prop) (m k gs : Nat) (w f : Nat → Nat) (g : Nat) (h : Nat → Nat) : Prop := gp_V C T m k f h ∧ ((h k = k ∧ g ≤ gs) ∨ (h k < k ∧ g ≤ w (h k)))
theorem gp_V_k {k gs : Nat} {w f h : Nat → Nat} (hk : k < m) (hr : gp_rel k gs w f) (hV : gp_V C T m k f h) : h k = k ∨ (h k < k ∧ w (h k) < gs ∧ f (h k) = h k) := by
  have t : (gp_all m).testBit k = true := by rw [gp_all_t]; simp [hk]
  obtain ⟨a, b, c⟩ := hV.1.1 k hk t
  by_cases e : h k = k
  · exact Or.inl e
  · have l : h k < k := by omega
    exact Or.inr ⟨l, (hr.1 _ l).1, by rw [← hV.2 _ l]; exact c⟩
theorem gp_from_0 {k gs : Nat} {w f h : Nat → Nat} (hk : k < m) (hr : gp_rel k gs w f) : gp_from C T m k gs w f 0 h ↔ gp_V C T m k f h := by
  constructor
  · exact fun z => z.1
  · intro z
    refine ⟨z, ?_⟩
    rcases gp_V_k hk hr z with e | ⟨l, -, -⟩
    · exact Or.inl ⟨e, by omega⟩
    · exact Or.inr ⟨l, by omega⟩
theorem gp_from_end {k gs : Nat} {w f h : Nat → Nat} (hk : k < m) (hr : gp_rel k gs w f) : ¬ gp_from C T m k gs w f (gs + 1) h := by
  rintro ⟨z, ⟨-, b⟩ | ⟨l, b⟩⟩
  · omega
  · have := (hr.1 _ l).1
    omega
/-- the first of the group g -/
def gp_fv (k gs : Nat) (w f : Nat → Nat) (g v : Nat) : Prop := (g = gs ∧ v = k) ∨ (g < gs ∧ ∃ j0, j0 < k ∧ w j0 = g ∧ v = f j0)
theorem gp_fv_ex {k gs : Nat} {w f : Nat → Nat} (hr : gp_rel k gs w f) {g : Nat} (hg : g ≤ gs) : ∃ v, gp_fv k gs w f g v := by
  by_cases h : g = gs
  · exact ⟨k, Or.inl ⟨h, rfl⟩⟩
  · obtain ⟨j, a, b⟩ := hr.2.2.2.1 g (by omega)
    exact ⟨f j, Or.inr ⟨by omega, j, a, b, rfl⟩⟩
theorem gp_fv_rel {k gs : Nat} {w f : Nat → Nat} (hr : gp_rel k gs w f) {g v : Nat} (hv : gp_fv k gs w f g v) : gp_rel (k + 1) (if g = gs then gs + 1 else gs) (gp_up w k g) (gp_up f k v) := by
  rcases hv with ⟨rfl, rfl⟩ | ⟨l, j0, a, b, rfl⟩
  · rw [if_pos rfl]
    exact gp_rel_new hr
  · rw [if_neg (by omega), ← b]
    exact gp_rel_old hr a
theorem gp_fv_k {k gs : Nat} {w f : Nat → Nat} (hr : gp_rel k gs w f) {g v : Nat} (hv : gp_fv k gs w f g v) : (v = k ↔ g = gs) ∧ v ≤ k := by
  rcases hv with ⟨rfl, rfl⟩ | ⟨l, j0, a, b, rfl⟩
  · exact ⟨by simp, by omega⟩
  · have := (hr.1 j0 a).2.1
    refine ⟨⟨fun z => by omega, fun z => by omega⟩, by omega⟩
theorem gp_fv_iff {k gs : Nat} {w f : Nat → Nat} (hr : gp_rel k gs w f) {g v : Nat} (hv : gp_fv k gs w f g v) {j : Nat} (hj : j < k) : f j = v ↔ w j = g := by
  have aj := hr.1 j hj
  rcases hv with ⟨rfl, rfl⟩ | ⟨l, j0, a, b, rfl⟩
  · exact ⟨fun z => by omega, fun z => by omega⟩
  · have a0 := hr.1 j0 a
    constructor
    · intro z
      rw [← aj.2.2, z, a0.2.2, b]
    · intro z
      exact hr.2.1 j j0 hj a (by rw [z, b])
theorem gp_fv_lt {k gs : Nat} {w f : Nat → Nat} (hr : gp_rel k gs w f) {g v g' v' : Nat} (hv : gp_fv k gs w f g v) (hv' : gp_fv k gs w f g' v') (h : g < g') : v < v' := by
  rcases hv with ⟨rfl, rfl⟩ | ⟨l, j0, a, b, rfl⟩
  · rcases hv' with ⟨rfl, rfl⟩ | ⟨l', j0', a', b', rfl⟩
    · omega
    · omega
  · have a0 := hr.1 j0 a
    rcases hv' with ⟨rfl, rfl⟩ | ⟨l', j0', a', b', rfl⟩
    · omega
    · exact hr.2.2.1 j0 j0' a a' (by omega)
theorem gp_from_s {k gs : Nat} {w f h : Nat → Nat} (hk : k < m) (hr : gp_rel k gs w f) {g v : Nat} (hv : gp_fv k gs w f g v) (hg : g ≤ gs) : gp_from C T m k gs w f g h ↔ gp_V C T m (k + 1) (gp_up f k v) h ∨ gp_from C T m k gs w f (g + 1) h := by
  constructor
  · rintro ⟨z, y⟩
    have key : h k = v → gp_V C T m (k + 1) (gp_up f k v) h := fun e => ⟨z.1, fun j hj => by
      by_cases q : j = k
      · subst q; rw [gp_up_at]; exact e
      · rw [gp_up_ne q]; exact z.2 j (by omega)⟩
    rcases y with ⟨e, -⟩ | ⟨l, b⟩
    · by_cases q : g = gs
      · exact Or.inl (key (by rw [e]; exact ((gp_fv_k hr hv).1.mpr q).symm))
      · exact Or.inr ⟨z, Or.inl ⟨e, by omega⟩⟩
    · by_cases q : w (h k) = g
      · refine Or.inl (key ?_)
        rcases gp_V_k hk hr z with e | ⟨-, -, e⟩
        · omega
        · rw [← (gp_fv_iff hr hv l).mpr q, e]
      · exact Or.inr ⟨z, Or.inr ⟨l, by omega⟩⟩
  · rintro (z | ⟨z, y⟩)
    · have zk : gp_V C T m k f h := ⟨z.1, fun j hj => by rw [z.2 j (by omega), gp_up_ne (by omega)]⟩
      have e : h k = v := by rw [z.2 k (by omega), gp_up_at]
      refine ⟨zk, ?_⟩
      rcases gp_V_k hk hr zk with q | ⟨l, -, q⟩
      · exact Or.inl ⟨q, hg⟩
      · refine Or.inr ⟨l, ?_⟩
        have := (gp_fv_iff hr hv l).mp (by rw [q, e])
        omega
    · refine ⟨z, ?_⟩
      rcases y with ⟨a, b⟩ | ⟨a, b⟩
      · exact Or.inl ⟨a, by omega⟩
      · exact Or.inr ⟨a, by omega⟩
/-- a group that can't take the next one -/
theorem gp_conf {k gs : Nat} {w f h : Nat → Nat} (hk : k < m) (hr : gp_rel k gs w f) {g v : Nat} (hv : gp_fv k gs w f g v) {j : Nat} (hj : j < k) (hc : (w j = g ∧ C j k = 1000) ∨ (w j ≠ g ∧ T j k)) : ¬ gp_V C T m (k + 1) (gp_up f k v) h := by
  intro z
  have t : ∀ r, r < m → (gp_all m).testBit r = true := fun r h => by rw [gp_all_t]; simp [h]
  have e : h k = v := by rw [z.2 k (by omega), gp_up_at]
  have ej : h j = f j := by rw [z.2 j (by omega), gp_up_ne (by omega)]
  rcases hc with ⟨a, b⟩ | ⟨a, b⟩
  · exact z.1.2.1 j k hj hk (t j (by omega)) (t k hk) (by rw [ej, e]; exact (gp_fv_iff hr hv hj).mpr a) b
  · have := (z.1.2.2 j k (by omega) hk (t j (by omega)) b).2
    rw [ej, e] at this
    exact a ((gp_fv_iff hr hv hj).mp this)
theorem gp_pre_s {k gs : Nat} {w f : Nat → Nat} (hr : gp_rel k gs w f) {g v : Nat} (hv : gp_fv k gs w f g v) (hp : gp_pre C T k f) (hn : ∀ j, j < k → (w j = g → C j k ≠ 1000) ∧ (w j ≠ g → ¬ T j k)) : gp_pre C T (k + 1) (gp_up f k v) := by
  have u : ∀ {j}, j < k → gp_up f k v j = f j := fun h => gp_up_ne (by omega)
  constructor
  · intro j r a b e
    by_cases q : r = k
    · subst q
      rw [u a, gp_up_at] at e
      exact (hn j a).1 ((gp_fv_iff hr hv a).mp e)
    · rw [u (show j < k by omega), u (show r < k by omega)] at e
      exact hp.1 j r a (by omega) e
  · intro j r a b e
    by_cases q : r = k
    · subst q
      rw [u a, gp_up_at]
      refine (gp_fv_iff hr hv a).mpr ?_
      exact Classical.byContradiction (fun z => (hn j a).2 z e)
    · rw [u (show j < k by omega), u (show r < k by omega)]
      exact hp.2 j r a (by omega) e
theorem gp_pc_s {k gs : Nat} {w f : Nat → Nat} (hr : gp_rel k gs w f) {g v : Nat} (hv : gp_fv k gs w f g v) : gp_pc C o (gp_up f k v) (k + 1) = gp_pc C o f k + ((if g = gs then o else 0) + gp_s (fun j => if w j = g then C j k else 0) k) := by
  have u : ∀ {j}, j < k → gp_up f k v j = f j := fun h => gp_up_ne (by omega)
  unfold gp_pc
  rw [gp_s]
  congr 1
  · apply gp_s_congr
    intro r hr
    rw [u hr]
    congr 1
    apply gp_s_congr
    intro j hj
    rw [u (show j < k by omega)]
  · rw [gp_up_at]
    have e := (gp_fv_k hr hv).1
    congr 1
    · by_cases q : g = gs
      · rw [if_pos q, if_pos (e.mpr q)]
      · rw [if_neg q, if_neg (fun z => q (e.mp z))]
    · apply gp_s_congr
      intro j hj
      rw [u hj]
      by_cases q : w j = g
      · rw [if_pos q, if_pos ((gp_fv_iff hr hv hj).mpr q)]
      · rw [if_neg q, if_neg (fun z => q ((gp_fv_iff hr hv hj).mp z))]
theorem gp_bef_s {k gs : Nat} {w f : Nat → Nat} {g v : Nat} {B : Option (Nat → Nat)} (hb : gp_bef m k f B) : gp_bef m (k + 1) (gp_up f k v) B := fun b e h hh => hb b e h (fun j hj => by rw [hh j (by omega), gp_up_ne (by omega)])
/-- behind the group g the best lies ahead of the next groups -/
theorem gp_bef_n {k gs : Nat} {w f : Nat → Nat} (hm : m ≤ 10) (hk : k < m) (hr : gp_rel k gs w f) {g v g' v' : Nat} (hv : gp_fv k gs w f g v) (hv' : gp_fv k gs w f g' v') (hg : g < g') {B B' : Option (Nat → Nat)} (hB : gp_bef m (k + 1) (gp_up f k v') B) (hp : gp_post C o m (gp_V C T m (k + 1) (gp_up f k v)) B B') : gp_bef m (k + 1) (gp_up f k v') B' := by
  rcases hp.1 with e | ⟨h, hV, e⟩
  · rw [e]; exact hB
  · intro b eb h' hh'
    have : b = h := Option.some.inj (eb.symm.trans e)
    subst this
    have t : ∀ r, r < m → (gp_all m).testBit r = true := fun r h => by rw [gp_all_t]; simp [h]
    refine gp_lex2 hm hk (fun j hj => ?_) ?_ (fun r hr => gp_ok_15 hm hV.1.1 r hr (t r hr))
    · rw [hV.2 j (by omega), hh' j (by omega), gp_up_ne (by omega), gp_up_ne (by omega)]
    · rw [hV.2 k (by omega), hh' k (by omega), gp_up_at, gp_up_at]
      exact gp_fv_lt hr hv hv' hg
/-- both ways to the least agree -/
theorem gp_agree (hm : m ≤ 10) (hC : ∀ j r, -1000 ≤ C j r ∧ C j r ≤ 1000) (ho : 0 ≤ o ∧ o ≤ 100) {x : Int} {f : Nat → Nat} {B : Option (Nat → Nat)} (hx : gp_lst C T o m (gp_all m) x) (hp : gp_post C o m (gp_V C T m 0 f) none B) (hv : ∀ b, B = some b → gp_val C T m (gp_all m) b) : (B = none → x = gp_NV) ∧ ∀ b, B = some b → x = gp_key C o m (gp_all m) b ∧ x ≠ gp_NV := by
  constructor
  · intro e
    rcases hx.2 with ⟨a, -⟩ | ⟨h, vh, -⟩
    · exact a
    · obtain ⟨b, eb, -⟩ := hp.2.1 h ⟨vh, fun j hj => by omega⟩
      rw [e] at eb
      cases eb
  · intro b e
    have vb := hv b e
    have l1 := hx.1 b vb
    have l2 := gp_nv (o := o) hm hC ho vb
    rcases hx.2 with ⟨-, a⟩ | ⟨h, vh, eh⟩
    · exact absurd vb (a b)
    · obtain ⟨b', eb, l⟩ := hp.2.1 h ⟨vh, fun j hj => by omega⟩
      have : b' = b := Option.some.inj (eb.symm.trans e)
      subst this
      exact ⟨by omega, by omega⟩
end GP5
