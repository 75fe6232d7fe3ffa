/-! Groupings, pure: what may be, and the least by sets. -/
def gp_ok (m S : Nat) (f : Nat → Nat) : Prop := ∀ r, r < m → S.testBit r = true → f r ≤ r ∧ S.testBit (f r) = true ∧ f (f r) = f r
def gp_val (C : Nat → Nat → Int) (T : Nat → Nat → Prop) (m S : Nat) (f : Nat → Nat) : Prop := gp_ok m S f ∧ (∀ j r, j < r → r < m → S.testBit j = true → S.testBit r = true → f j = f r → C j r ≠ 1000) ∧ (∀ r s, r < m → s < m → S.testBit r = true → T r s → S.testBit s = true ∧ f r = f s)
def gp_low (S l : Nat) : Prop := S.testBit l = true ∧ ∀ r, r < l → ¬ S.testBit r = true
abbrev gp_NV : Int := 1152921504606846976
def gp_lst (C : Nat → Nat → Int) (T : Nat → Nat → Prop) (o : Int) (m S : Nat) (x : Int) : Prop := (∀ f, gp_val C T m S f → x ≤ gp_key C o m S f) ∧ ((x = gp_NV ∧ ∀ f, ¬ gp_val C T m S f) ∨ ∃ f, gp_val C T m S f ∧ x = gp_key C o m S f)
theorem gp_ok_15 {m S : Nat} {f : Nat → Nat} (hm : m ≤ 10) (h : gp_ok m S f) : ∀ r, r < m → S.testBit r = true → f r ≤ 15 := fun r hr hS => by
  have := (h r hr hS).1
  omega
section GP2
variable {C : Nat → Nat → Int} {T : Nat → Nat → Prop} {o : Int} {m : Nat}
theorem gp_nv (hm : m ≤ 10) (hC : ∀ j r, -1000 ≤ C j r ∧ C j r ≤ 1000) (ho : 0 ≤ o ∧ o ≤ 100) {S : Nat} {f : Nat → Nat} (h : gp_val C T m S f) : gp_key C o m S f < gp_NV := by
  have := (gp_key_bd (S := S) (f := f) hm hC ho (gp_ok_15 hm h.1)).2
  unfold gp_NV
  omega
theorem gp_lst_0 : gp_lst C T o m 0 0 := by
  have e : ∀ f, gp_key C o m 0 f = 0 := fun f => by
    have h1 : gp_cost C o m 0 f = 0 := by
      rw [← gp_s_zero m]
      exact gp_s_congr (fun r _ => by simp)
    have h2 : gp_dig m 0 f = 0 := by
      rw [← gp_s_zero m]
      exact gp_s_congr (fun r _ => by simp)
    unfold gp_key
    rw [h1, h2]
    rfl
  refine ⟨fun f _ => by rw [e f]; omega, Or.inr ⟨fun r => r, ⟨fun r _ h => absurd h (by simp), fun j r _ _ h => absurd h (by simp), fun r s _ _ h => absurd h (by simp)⟩, (e _).symm⟩⟩
/-- the least of a set, by the group of its lowest -/
theorem gp_step (hm : m ≤ 10) (hC : ∀ j r, -1000 ≤ C j r ∧ C j r ≤ 1000) (ho : 0 ≤ o ∧ o ≤ 100) {S l : Nat} (hS : S < 2 ^ m) (hl : gp_low S l) {Kk L : Nat → Int}
    (hK : ∀ g : Nat, g < 2 ^ m → gp_low g l → (gp_val C T m g (fun _ => l) → Kk g = gp_key C o m g (fun _ => l)) ∧ (¬ gp_val C T m g (fun _ => l) → Kk g = gp_NV))
    (hL : ∀ g U : Nat, U < 2 ^ m → g.testBit l = true → (∀ r, g.testBit r = true → S.testBit r = true) → (∀ r, U.testBit r = (S.testBit r && !g.testBit r)) → gp_lst C T o m U (L U)) {x : Int}
    (hx1 : ∀ g U : Nat, g < 2 ^ m → U < 2 ^ m → g.testBit l = true → (∀ r, g.testBit r = true → S.testBit r = true) → (∀ r, U.testBit r = (S.testBit r && !g.testBit r)) → Kk g ≠ gp_NV → L U ≠ gp_NV → x ≤ Kk g + L U)
    (hx2 : x = gp_NV ∨ ∃ g U : Nat, g < 2 ^ m ∧ U < 2 ^ m ∧ g.testBit l = true ∧ (∀ r, g.testBit r = true → S.testBit r = true) ∧ (∀ r, U.testBit r = (S.testBit r && !g.testBit r)) ∧ Kk g ≠ gp_NV ∧ L U ≠ gp_NV ∧ x = Kk g + L U) : gp_lst C T o m S x := by
  have hlm : ∀ r, S.testBit r = true → r < m := fun r hr => by
    apply Nat.lt_of_not_le
    intro z
    rw [Nat.testBit_lt_two_pow (Nat.lt_of_lt_of_le hS (Nat.pow_le_pow_right (by decide) z))] at hr
    exact absurd hr (by decide)
  have hl9 := hlm l hl.1
  have P1 : ∀ f, gp_val C T m S f → x ≤ gp_key C o m S f := by
    intro f hf
    obtain ⟨g, g1, g2⟩ := gp_mk (fun r => S.testBit r && decide (f r = l)) m
    obtain ⟨U, u1, u2⟩ := gp_mk (fun r => S.testBit r && !decide (f r = l)) m
    have gi : ∀ r, g.testBit r = true ↔ S.testBit r = true ∧ f r = l := fun r => by
      rw [g2]
      constructor
      · intro h
        simp only [Bool.and_eq_true, decide_eq_true_eq] at h
        exact h.2
      · intro h
        simp only [Bool.and_eq_true, decide_eq_true_eq]
        exact ⟨hlm r h.1, h⟩
    have ui : ∀ r, U.testBit r = true ↔ S.testBit r = true ∧ f r ≠ l := fun r => by
      rw [u2]
      constructor
      · intro h
        simp only [Bool.and_eq_true, decide_eq_true_eq, Bool.not_eq_true', decide_eq_false_iff_not] at h
        exact h.2
      · intro h
        simp only [Bool.and_eq_true, decide_eq_true_eq, Bool.not_eq_true', decide_eq_false_iff_not]
        exact ⟨hlm r h.1, h⟩
    have hfl : f l = l := by
      obtain ⟨a, b, -⟩ := hf.1 l hl9 hl.1
      by_cases h : f l < l
      · exact absurd b (hl.2 _ h)
      · omega
    have gl : g.testBit l = true := (gi l).mpr ⟨hl.1, hfl⟩
    have gS : ∀ r, g.testBit r = true → S.testBit r = true := fun r h => ((gi r).mp h).1
    have uS : ∀ r, U.testBit r = (S.testBit r && !g.testBit r) := fun r => by
      rw [Bool.eq_iff_iff, ui r]
      constructor
      · rintro ⟨a, b⟩
        have : ¬ g.testBit r = true := fun z => b ((gi r).mp z).2
        simp [a, this]
      · intro h
        simp only [Bool.and_eq_true, Bool.not_eq_true'] at h
        refine ⟨h.1, fun z => ?_⟩
        rw [(gi r).mpr ⟨h.1, z⟩] at h
        exact absurd h.2 (by decide)
    have glow : gp_low g l := ⟨gl, fun r hr h => hl.2 r hr (gS r h)⟩
    have vg : gp_val C T m g (fun _ => l) := by
      refine ⟨fun r hr h => ⟨?_, gl, rfl⟩, fun j r h1 h2 h3 h4 _ => ?_, fun r s h1 h2 h3 h4 => ?_⟩
      · show l ≤ r
        apply Nat.le_of_not_lt
        intro z
        exact glow.2 r z h
      · exact hf.2.1 j r h1 h2 (gS j h3) (gS r h4) (by rw [((gi j).mp h3).2, ((gi r).mp h4).2])
      · obtain ⟨a, b⟩ := hf.2.2 r s h1 h2 (gS r h3) h4
        exact ⟨(gi s).mpr ⟨a, by rw [← b]; exact ((gi r).mp h3).2⟩, rfl⟩
    have vu : gp_val C T m U f := by
      refine ⟨fun r hr h => ?_, fun j r h1 h2 h3 h4 => ?_, fun r s h1 h2 h3 h4 => ?_⟩
      · obtain ⟨a, b⟩ := (ui r).mp h
        obtain ⟨c, d, e⟩ := hf.1 r hr a
        exact ⟨c, (ui _).mpr ⟨d, by rw [e]; exact b⟩, e⟩
      · exact hf.2.1 j r h1 h2 ((ui j).mp h3).1 ((ui r).mp h4).1
      · obtain ⟨a, b⟩ := hf.2.2 r s h1 h2 ((ui r).mp h3).1 h4
        exact ⟨(ui s).mpr ⟨a, by rw [← b]; exact ((ui r).mp h3).2⟩, b⟩
    have kg := (hK g g1 glow).1 vg
    have lu := hL g U u1 gl gS uS
    have n1 : Kk g ≠ gp_NV := by
      have := gp_nv (o := o) hm hC ho vg
      omega
    have n2 : L U ≠ gp_NV := by
      have a := gp_nv (o := o) hm hC ho vu
      have b := lu.1 f vu
      omega
    have h9 := hx1 g U g1 u1 gl gS uS n1 n2
    have h8 := lu.1 f vu
    have h7 : gp_key C o m g (fun _ => l) = gp_key C o m g f := gp_key_congr (fun r _ h => (((gi r).mp h).2).symm)
    have h6 := gp_key_add (C := C) (o := o) (f := f) (m := m) gS uS (fun r s _ _ h1 h2 e => ((ui s).mp h2).2 (by rw [← e]; exact ((gi r).mp h1).2))
    omega
  refine ⟨P1, ?_⟩
  rcases hx2 with h | ⟨g, U, g1, u1, gl, gS, uS, n1, n2, hx⟩
  · refine Or.inl ⟨h, fun f hf => ?_⟩
    have a := P1 f hf
    have b := gp_nv (o := o) hm hC ho hf
    omega
  · right
    have glow : gp_low g l := ⟨gl, fun r hr h => hl.2 r hr (gS r h)⟩
    have vg : gp_val C T m g (fun _ => l) := Classical.byContradiction (fun z => n1 ((hK g g1 glow).2 z))
    have kg := (hK g g1 glow).1 vg
    have lu := hL g U u1 gl gS uS
    rcases lu.2 with ⟨a, -⟩ | ⟨h, vh, eh⟩
    · exact absurd a n2
    have ui : ∀ r, U.testBit r = true ↔ S.testBit r = true ∧ ¬ g.testBit r = true := fun r => by
      rw [uS]
      simp
    have fg : ∀ r, g.testBit r = true → (if g.testBit r = true then l else h r) = l := fun r z => if_pos z
    have fu : ∀ r, U.testBit r = true → (if g.testBit r = true then l else h r) = h r := fun r z => if_neg ((ui r).mp z).2
    have uh : ∀ r, r < m → U.testBit r = true → h r ≠ l := fun r hr z e => by
      have := (vh.1 r hr z).2.1
      rw [e] at this
      exact ((ui l).mp this).2 gl
    refine ⟨fun r => if g.testBit r = true then l else h r, ⟨fun r hr hs => ?_, fun j r h1 h2 h3 h4 h5 => ?_, fun r s h1 h2 h3 h4 => ?_⟩, ?_⟩
    · by_cases z : g.testBit r = true
      · show (if g.testBit r = true then l else h r) ≤ r ∧ _
        simp only [if_pos z]
        refine ⟨Nat.le_of_not_lt (fun w => hl.2 r w hs), hl.1, fg l gl⟩
      · have u := (ui r).mpr ⟨hs, z⟩
        obtain ⟨a, b, c⟩ := vh.1 r hr u
        show (if g.testBit r = true then l else h r) ≤ r ∧ _
        simp only [if_neg z]
        exact ⟨a, ((ui _).mp b).1, by rw [if_neg ((ui _).mp b).2]; exact c⟩
    · by_cases zj : g.testBit j = true
      · by_cases zr : g.testBit r = true
        · exact vg.2.1 j r h1 h2 zj zr rfl
        · have u := (ui r).mpr ⟨h4, zr⟩
          have h5' : (if g.testBit j = true then l else h j) = (if g.testBit r = true then l else h r) := h5
          rw [if_pos zj, if_neg zr] at h5'
          exact absurd h5'.symm (uh r h2 u)
      · have uj := (ui j).mpr ⟨h3, zj⟩
        have h5' : (if g.testBit j = true then l else h j) = (if g.testBit r = true then l else h r) := h5
        by_cases zr : g.testBit r = true
        · rw [if_neg zj, if_pos zr] at h5'
          exact absurd h5' (uh j (by omega) uj)
        · have u := (ui r).mpr ⟨h4, zr⟩
          rw [if_neg zj, if_neg zr] at h5'
          exact vh.2.1 j r h1 h2 uj u h5'
    · show _ ∧ (if g.testBit r = true then l else h r) = (if g.testBit s = true then l else h s)
      by_cases zr : g.testBit r = true
      · have := (vg.2.2 r s h1 h2 zr h4).1
        exact ⟨gS s this, by rw [if_pos zr, if_pos this]⟩
      · have u := (ui r).mpr ⟨h3, zr⟩
        obtain ⟨a, b⟩ := vh.2.2 r s h1 h2 u h4
        exact ⟨((ui s).mp a).1, by rw [if_neg zr, if_neg ((ui s).mp a).2]; exact b⟩
    · rw [hx, kg, eh, gp_key_add (C := C) (o := o) (m := m) (f := fun r => if g.testBit r = true then l else h r) gS uS (fun r s _ hs h1 h2 => ?_)]
      · rw [gp_key_congr (C := C) (o := o) (f := fun r => if g.testBit r = true then l else h r) (h := fun _ => l) (fun r _ z => fg r z), gp_key_congr (C := C) (o := o) (S := U) (f := fun r => if g.testBit r = true then l else h r) (h := h) (fun r _ z => fu r z)]
      · show (if g.testBit r = true then l else h r) ≠ (if g.testBit s = true then l else h s)
        rw [fg r h1, fu s h2]
        exact fun z => uh s hs h2 z.symm
end GP2
