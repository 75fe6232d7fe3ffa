/-! Looking at a day: what is known then. -/
def p_mx (ro dy : Nat → Nat) (q : Nat) : Nat → Nat
  | 0 => 0
  | i + 1 => if dy i ≤ q then max (p_mx ro dy q i) (ro i + 1) else p_mx ro dy q i
theorem p_mx_a (ro dy : Nat → Nat) (q : Nat) : ∀ i j, j < i → dy j ≤ q → ro j < p_mx ro dy q i
  | 0, _, h, _ => by omega
  | i + 1, j, h, hd => by
    rw [p_mx]
    by_cases e : j = i
    · subst e
      rw [if_pos hd]
      omega
    · have := p_mx_a ro dy q i j (by omega) hd
      split <;> omega
theorem p_mx_b (ro dy : Nat → Nat) (q : Nat) : ∀ i, p_mx ro dy q i = 0 ∨ ∃ j, j < i ∧ dy j ≤ q ∧ ro j + 1 = p_mx ro dy q i
  | 0 => Or.inl rfl
  | i + 1 => by
    rw [p_mx]
    by_cases h : dy i ≤ q
    · rw [if_pos h]
      by_cases h2 : p_mx ro dy q i ≤ ro i + 1
      · exact Or.inr ⟨i, by omega, h, by omega⟩
      · rcases p_mx_b ro dy q i with z | ⟨j, a, b, c⟩
        · omega
        · exact Or.inr ⟨j, by omega, b, by omega⟩
    · rw [if_neg h]
      exact (p_mx_b ro dy q i).imp id (fun ⟨j, a, b, c⟩ => ⟨j, by omega, b, c⟩)
/-- the state behind the first i rows -/
def p_rti (I0 I : Nat → Nat → Int32) (c : Nat) (fa ro dy : Nat → Nat) (q i : Nat) : Prop := (∀ b, b < 14 ∨ 45 < b → I b = I0 b) ∧ I 14 1 = nI (p_mx ro dy q i) ∧ (∀ r f, r < 10 → f < 5 → iv_fact I c fa r f (p_rf I0 (nI r) (nI f) (nI q) i)) ∧ (∀ r k, r < 10 → 5 ≤ k → k < 32 → tb (I (16 + 3 * r) 0) k = false)
theorem p_take_0 {I : Nat → Nat → Int32} {a t : Nat} {bits : Int32} : p_take I a t bits a 0 = (I a 0 &&& (bits ^^^ -1)) ||| (I t 0 &&& bits) := by
  unfold p_take
  rw [if_pos rfl, if_pos rfl]
theorem p_take_1 {I : Nat → Nat → Int32} {a t : Nat} {bits : Int32} : p_take I a t bits a 1 = if tb bits 2 = true then I t 1 else I a 1 := by
  unfold p_take
  rw [if_pos rfl, if_neg (by decide), tb_bitB (by decide)]
  simp
theorem p_take_v {I : Nat → Nat → Int32} {a t : Nat} {bits : Int32} {f : Nat} (hf : f < 5) : p_take I a t bits (a + 1) f = if tb bits f = true then I (t + 1) f else I (a + 1) f := by
  unfold p_take
  rw [if_neg (by omega), if_pos rfl, tb_bitB (by omega)]
  simp [hf]
theorem p_take_w {I : Nat → Nat → Int32} {a t : Nat} {bits : Int32} {k : Nat} (hk : k < 3) : p_take I a t bits (a + 2) k = if tb bits 3 = true then I (t + 2) k else I (a + 2) k := by
  unfold p_take
  rw [if_neg (by omega), if_neg (by omega), if_pos rfl, tb_bitB (by omega)]
  simp [hk]
theorem p_take_tb {I : Nat → Nat → Int32} {a t : Nat} {bits : Int32} {k : Nat} (hk : k < 32) : tb (p_take I a t bits a 0) k = ((tb (I a 0) k && !tb bits k) || (tb (I t 0) k && tb bits k)) := by
  rw [p_take_0, tb_or, tb_and, tb_and, tb_not hk]
section LOK
variable {G : tm_G} {I0 : Nat → Nat → Int32} {J : Nat → Nat → Int64} {R : Nat → Nat → Option Nat} {nw rp c q : Nat} {tl fa ro dy rd : Nat → Nat}
theorem p_rt_s (hrw : iv_rows G I0 R c tl fa) (hd : iv_days I0 nw rp c ro dy rd) (hnw : nw ≤ 1000) (hrp : rp ≤ 10) (hq : q ≤ 1000) {i : Nat} (hi : i < c) {I : Nat → Nat → Int32} (h : p_rti I0 I c fa ro dy q i) : p_rti I0 (if nI q < I (tl i) 1 then I else p_learn I (tl i) (fa i)) c fa ro dy q (i + 1) := by
  obtain ⟨h1, h2, h3, h4⟩ := h
  obtain ⟨a1, a2, a3, a4, a5⟩ := hd.1 i hi
  obtain ⟨-, -, t3, -, -, t6⟩ := hrw.1 i hi
  have hrow := hrw.2.2.1 i hi
  have eT : I (tl i) = I0 (tl i) := h1 _ (by omega)
  have e0 : I (tl i) 0 = nI (ro i) := by rw [eT, hrow.1, a1]
  have e1 : I (tl i) 1 = nI (dy i) := by rw [eT, hrow.2.1, a3]
  have lt : nI q < I (tl i) 1 ↔ q < dy i := by rw [e1]; exact nI_ltI (by omega) (by omega)
  by_cases hlt : q < dy i
  · rw [if_pos (lt.mpr hlt)]
    have hn : ∀ r, ¬ (I0 94 i = r ∧ I0 95 i ≤ nI q) := fun r z => by
      rw [a3] at z
      have := (nI_leI (by omega) (by omega)).mp z.2
      omega
    refine ⟨h1, ?_, fun r f hr hf => ?_, h4⟩
    · rw [p_mx, if_neg (by omega)]
      exact h2
    · rw [p_rf, if_neg (hn _)]
      exact h3 r f hr hf
  · rw [if_neg (fun z => hlt (lt.mp z))]
    have hro : ro i < 10 := by omega
    have hin : tm_in (I (tl i) 0) 10 := by rw [e0]; exact q_in hro (by decide)
    have hix : tm_ix (I (tl i) 0) = ro i := by rw [e0]; exact q_ix (by omega)
    have eF : ∀ k, k < 3 → I (fa i + k) = I0 (fa i + k) := fun k hk => h1 _ (by omega)
    generalize hX : up2 I 14 1 (if I 14 1 < I (tl i) 0 + 1 then I (tl i) 0 + 1 else I 14 1) = X
    have xo : ∀ b, b ≠ 14 → X b = I b := fun b hb => by rw [← hX]; exact up2_row hb
    have el : p_learn I (tl i) (fa i) = p_take X (16 + 3 * ro i) (fa i) (I (tl i) 2) := by
      unfold p_learn
      rw [hX, hix]
    have xf0 : X (fa i) = I0 (fa i) := by rw [xo _ (by omega)]; exact eF 0 (by decide)
    have xf1 : X (fa i + 1) = I0 (fa i + 1) := by rw [xo _ (by omega)]; exact eF 1 (by decide)
    have xf2 : X (fa i + 2) = I0 (fa i + 2) := by rw [xo _ (by omega)]; exact eF 2 (by decide)
    have bold : ∀ b, b < 16 + 3 * ro i ∨ 16 + 3 * ro i + 2 < b → p_learn I (tl i) (fa i) b = X b := fun b hb => by rw [el]; exact p_take_old hb
    have hy : ∀ r, (I0 94 i = nI r ∧ I0 95 i ≤ nI q) ↔ r = ro i ∨ (¬ r < 10 ∧ I0 94 i = nI r) := fun r => by
      rw [a1, a3]
      have hle : nI (dy i) ≤ nI q := (nI_leI (by omega) (by omega)).mpr (by omega)
      by_cases hr10 : r < 10
      · rw [nI_eq (by omega) (by omega)]
        constructor
        · rintro ⟨z, -⟩; exact Or.inl z.symm
        · rintro (z | z)
          · exact ⟨z.symm, hle⟩
          · exact absurd hr10 z.1
      · constructor
        · rintro ⟨z, -⟩; exact Or.inr ⟨hr10, z⟩
        · rintro (z | z)
          · omega
          · exact ⟨z.2, hle⟩
    have hbits : ∀ f, f < 5 → ((I0 96 i >>> (nI f &&& 31)) &&& 1 = 1 ↔ tb (I0 96 i) f = true) := fun f hf => tb_bit (by omega)
    refine ⟨fun b hb => ?_, ?_, fun r f hr hf => ?_, fun r k hr hk1 hk2 => ?_⟩
    · rw [bold b (by omega), xo b (by omega)]
      exact h1 b hb
    · rw [bold 14 (by omega), ← hX, up2_at, h2, e0, nI_1, p_mx, if_pos (show dy i ≤ q by omega)]
      have hmb : p_mx ro dy q i ≤ 10 := by
        rcases p_mx_b ro dy q i with z | ⟨j, z1, z2, z3⟩
        · omega
        · have := (hd.1 j (by omega)).2.1
          omega
      by_cases z : p_mx ro dy q i < ro i + 1
      · rw [if_pos ((nI_ltI (by omega) (by omega)).mpr z)]
        congr 1
        omega
      · rw [if_neg (fun y => z ((nI_ltI (by omega) (by omega)).mp y))]
        congr 1
        omega
    · by_cases hrr : r = ro i
      · subst hrr
        rw [p_rf, if_pos ((hy (ro i)).mpr (Or.inl rfl))]
        have old := h3 (ro i) f hr hf
        have c1 : ∀ k, k < 32 → tb (p_learn I (tl i) (fa i) (16 + 3 * ro i) 0) k = ((tb (I (16 + 3 * ro i) 0) k && !tb (I (tl i) 2) k) || (tb (I0 (fa i) 0) k && tb (I (tl i) 2) k)) := fun k hk => by
          rw [el, p_take_tb hk, xo (16 + 3 * ro i) (by omega), xf0]
        have c2 : p_learn I (tl i) (fa i) (16 + 3 * ro i) 1 = if tb (I (tl i) 2) 2 = true then I0 (fa i) 1 else I (16 + 3 * ro i) 1 := by
          rw [el, p_take_1, xo (16 + 3 * ro i) (by omega), xf0]
        have c3 : ∀ f, f < 5 → p_learn I (tl i) (fa i) (16 + 3 * ro i + 1) f = if tb (I (tl i) 2) f = true then I0 (fa i + 1) f else I (16 + 3 * ro i + 1) f := fun f hf => by
          rw [el, p_take_v hf, xo (16 + 3 * ro i + 1) (by omega), xf1]
        have c4 : ∀ k, k < 3 → p_learn I (tl i) (fa i) (16 + 3 * ro i + 2) k = if tb (I (tl i) 2) 3 = true then I0 (fa i + 2) k else I (16 + 3 * ro i + 2) k := fun k hk => by
          rw [el, p_take_w hk, xo (16 + 3 * ro i + 2) (by omega), xf2]
        have lo : ∀ b, 94 ≤ b → p_learn I (tl i) (fa i) b = I0 b := fun b hb => by
          rw [bold b (by omega), xo b (by omega)]
          exact h1 b (by omega)
        have lf : ∀ j, j < c → ∀ k, k < 3 → p_learn I (tl i) (fa i) (fa j + k) = I0 (fa j + k) := fun j hj k hk => by
          obtain ⟨-, -, -, -, -, u6⟩ := hrw.1 j hj
          rw [bold _ (by omega), xo _ (by omega)]
          exact h1 _ (by omega)
        have li : ∀ j, j < c → ∀ k, k < 3 → I (fa j + k) = I0 (fa j + k) := fun j hj k hk => by
          obtain ⟨-, -, -, -, -, u6⟩ := hrw.1 j hj
          exact h1 _ (by omega)
        have keep : tb (I (tl i) 2) f = false → iv_fact (p_learn I (tl i) (fa i)) c fa (ro i) f (p_rf I0 (nI (ro i)) (nI f) (nI q) i) := fun hz => by
          have z1 : tb (p_learn I (tl i) (fa i) (16 + 3 * ro i) 0) f = tb (I (16 + 3 * ro i) 0) f := by rw [c1 f (by omega), hz]; simp
          have z2 : p_learn I (tl i) (fa i) (16 + 3 * ro i + 1) f = I (16 + 3 * ro i + 1) f := by rw [c3 f hf, hz]; simp
          rcases old with ⟨o1, o2, o3⟩ | ⟨j, o1, o2, o3, o4, o5, o6, o7⟩
          · refine Or.inl ⟨o1, by rw [z1]; exact o2, fun e => ?_⟩
            subst e
            rw [z2]
            exact o3 rfl
          · refine Or.inr ⟨j, o1, o2, ?_, by rw [z1]; exact o4, ?_, fun e => ?_, fun e k hk => ?_⟩
            · rw [lo 96 (by omega)]
              rw [h1 96 (by omega)] at o3
              exact o3
            · rw [z2, o5, li j o1 1 (by decide), lf j o1 1 (by decide)]
            · subst e
              rw [c2, hz, if_neg (by decide), o6 rfl]
              exact congrFun ((li j o1 0 (by decide)).trans (lf j o1 0 (by decide)).symm) 1
            · subst e
              rw [c4 k hk, hz, if_neg (by decide), o7 rfl k hk]
              exact congrFun ((li j o1 2 (by decide)).trans (lf j o1 2 (by decide)).symm) k
        rcases hrow.2.2 with ⟨y1, y2, y3⟩ | ⟨y1, y2, g, y3, y4, y5⟩
        · have eb : I (tl i) 2 = I0 96 i := by rw [eT, y2]
          have ef : I0 (fa i) 0 = I0 96 i := y3.1
          by_cases hb : tb (I0 96 i) f = true
          · rw [if_pos ((hbits f hf).mpr hb)]
            refine Or.inr ⟨i, hi, rfl, by rw [lo 96 (by omega)]; exact hb, ?_, ?_, fun e => ?_, fun e k hk => ?_⟩
            · rw [c1 f (by omega), eb, ef, hb]
              simp
            · rw [c3 f hf, eb, hb, if_pos rfl]
              exact congrFun (lf i hi 1 (by decide)).symm f
            · subst e
              rw [c2, eb, hb, if_pos rfl]
              exact congrFun (lf i hi 0 (by decide)).symm 1
            · subst e
              rw [c4 k hk, eb, hb, if_pos rfl]
              exact congrFun (lf i hi 2 (by decide)).symm k
          · rw [if_neg (fun z => hb ((hbits f hf).mp z)), if_neg (by rw [y1]; exact fun z => nI_m1 (y := f) (by omega) z.symm)]
            exact keep (by rw [eb]; simpa using hb)
        · have eb : I (tl i) 2 = 1 <<< (nI g &&& 31) := by rw [eT, y5]
          have hb0 : ¬ (I0 96 i >>> (nI f &&& 31)) &&& 1 = 1 := fun z => by
            have := (hbits f hf).mp z
            rw [y1, tb_0] at this
            exact absurd this (by decide)
          rw [if_neg hb0, y4]
          by_cases hg : g = f
          · subst hg
            rw [if_pos rfl]
            have hz : tb (I (tl i) 2) g = true := by rw [eb, tb_one (by omega) (by omega)]; simp
            refine Or.inl ⟨rfl, ?_, fun e => ?_⟩
            · rw [c1 g (by omega), hz, y2, hrw.2.2.2.1, tb_0]
              simp
            · subst e
              rw [c3 3 (by decide), hz, if_pos rfl, y2]
              exact hrw.2.2.2.2
          · rw [if_neg (fun z => hg ((nI_eq (by omega) (by omega)).mp z))]
            refine keep ?_
            rw [eb, tb_one (by omega) (by omega)]
            simp
            omega
      · rw [p_rf, if_neg (fun z => ((hy r).mp z).elim hrr (fun w => w.1 hr))]
        have old := h3 r f hr hf
        have z0 : p_learn I (tl i) (fa i) (16 + 3 * r) = I (16 + 3 * r) := by rw [bold _ (by omega), xo _ (by omega)]
        have z1 : p_learn I (tl i) (fa i) (16 + 3 * r + 1) = I (16 + 3 * r + 1) := by rw [bold _ (by omega), xo _ (by omega)]
        have z2 : p_learn I (tl i) (fa i) (16 + 3 * r + 2) = I (16 + 3 * r + 2) := by rw [bold _ (by omega), xo _ (by omega)]
        have z96 : p_learn I (tl i) (fa i) 96 = I 96 := by rw [bold _ (by omega), xo _ (by omega)]
        unfold iv_fact at old ⊢
        rw [z0, z1, z2, z96]
        rcases old with o | ⟨j, o1, o2, o3, o4, o5, o6, o7⟩
        · exact Or.inl o
        · obtain ⟨-, -, -, -, -, u6⟩ := hrw.1 j o1
          have w0 : p_learn I (tl i) (fa i) (fa j) = I (fa j) := by rw [bold _ (by omega), xo _ (by omega)]
          have w1 : p_learn I (tl i) (fa i) (fa j + 1) = I (fa j + 1) := by rw [bold _ (by omega), xo _ (by omega)]
          have w2 : p_learn I (tl i) (fa i) (fa j + 2) = I (fa j + 2) := by rw [bold _ (by omega), xo _ (by omega)]
          exact Or.inr ⟨j, o1, o2, o3, o4, by rw [w1]; exact o5, fun e => by rw [w0]; exact o6 e, fun e => by rw [w2]; exact o7 e⟩
    · by_cases hrr : r = ro i
      · subst hrr
        rw [el, p_take_tb hk2, xo (16 + 3 * ro i) (by omega), xf0, h4 (ro i) k hr hk1 hk2]
        have : tb (I0 (fa i) 0) k = false := by
          rcases hrow.2.2 with ⟨y1, y2, y3⟩ | ⟨y1, y2, -⟩
          · exact y3.2.2.2.2.2 k hk1 hk2
          · rw [y2, hrw.2.2.2.1]; exact tb_0 k
        rw [this]
        simp
      · rw [bold _ (by omega), xo _ (by omega)]
        exact h4 r k hr hk1 hk2
end LOK
