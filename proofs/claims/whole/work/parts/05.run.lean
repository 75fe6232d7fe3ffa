def tm_op (j pc : Nat) : Option (Instr × tm_X) := (tm_all[j]?).bind (fun q => q.1.lookup pc)
def tm_ml (j : Nat) : Nat := ((tm_all[j]?).map (fun q => q.2.1)).getD 0
def tm_rk (j : Nat) : Nat := ((tm_all[j]?).map (fun q => q.2.2.1)).getD 0
def tm_ak (j : Nat) : List Nat := ((tm_all[j]?).map (fun q => q.2.2.2)).getD []
/-- a value's kind: 0 int, 1 long, 2 a reference -/
def tm_vk (v : Value) : Nat := match v with
  | .int _ => 0
  | .long _ => 1
  | .ref _ => 2
  | .null => 2
  | _ => 9
/-- may the receiver be called so: 1 static, 2 by its class, 3 a constructor -/
def tm_rcv (t c : Nat) (as : List Value) (h : tm_H) : Bool := match t, as with
  | 1, _ => true
  | 2, .ref a :: _ => decide (h.1.2.2 a = (0, c))
  | 3, .ref _ :: _ => true
  | _, _ => false
/-- the members of Math, in one step: 6 abs, 7 max, 8 min, 9 min of longs -/
def tm_mp (t : Nat) (st : List Value) : Option (List Value) := match t, st with
  | 6, .int x :: r => if (r.map Value.category).sum ≤ 8 then some (.int (if 0 ≤ x then x else 0 - x) :: r) else none
  | 7, .int y :: .int x :: r => if (r.map Value.category).sum ≤ 8 then some (.int (if x < y then y else x) :: r) else none
  | 8, .int y :: .int x :: r => if (r.map Value.category).sum ≤ 8 then some (.int (if y < x then y else x) :: r) else none
  | 9, .long y :: .long x :: r => if (r.map Value.category).sum ≤ 8 then some (.long (if y < x then y else x) :: r) else none
  | _, _ => none
def tm_run : Nat → Nat → Nat → Nat → tm_Lo → List Value → tm_H → Option (Option Value × tm_H)
  | 0, _, _, _, _, _, _ => none
  | n + 1, d, j, pc, ls, st, h => (tm_op j pc).bind fun o =>
      if tm_isRet o.1 = true then (tm_ret o.1 (tm_rk j) st).map (fun v => (v, h))
      else if tm_isInv o.1 = true then
        if d = 0 then none
        else if o.2.1 = 4 then (tm_oi st).bind fun st' => tm_run n d j (pc + 3) ls st' h
        else if o.2.1 = 5 then (tm_cp st h).bind fun q => tm_run n d j (pc + 3) ls q.1 q.2
        else if 6 ≤ o.2.1 then (tm_mp o.2.1 st).bind fun st' => tm_run n d j (pc + 3) ls st' h
        else if o.2.2.2.1 ≤ st.length ∧ (st.take o.2.2.2.1).reverse.map tm_vk = tm_ak o.2.2.1 ∧ tm_rcv o.2.1 o.2.2.2.2 (st.take o.2.2.2.1).reverse h = true ∧ ((st.drop o.2.2.2.1).map Value.category).sum ≤ 8 then
          (tm_run n (d - 1) o.2.2.1 0 (tm_ent (tm_ml o.2.2.1) (st.take o.2.2.2.1).reverse) [] h).bind fun q => tm_run n d j (pc + 3) ls (q.1.toList ++ st.drop o.2.2.2.1) q.2
        else none
      else (tm_h o.1 o.2 pc ls st h).bind fun q => tm_run n d j q.1 q.2.1 q.2.2.1 q.2.2.2
theorem tm_mono1 : ∀ (n d j pc : Nat) (ls : tm_Lo) (st : List Value) (h : tm_H) (q : Option Value × tm_H), tm_run n d j pc ls st h = some q → tm_run (n + 1) d j pc ls st h = some q
  | 0, _, _, _, _, _, _, _ => fun e => by cases e
  | n + 1, d, j, pc, ls, st, h, q => fun e => by
    rw [tm_run] at e
    rw [tm_run]
    cases ho : tm_op j pc with
    | none => rw [ho] at e; cases e
    | some o =>
      rw [ho] at e
      simp only [Option.bind_some] at e ⊢
      by_cases h1 : tm_isRet o.1 = true
      · rw [if_pos h1] at e ⊢; exact e
      · rw [if_neg h1] at e ⊢
        by_cases h2 : tm_isInv o.1 = true
        · rw [if_pos h2] at e ⊢
          by_cases h3 : d = 0
          · rw [if_pos h3] at e; cases e
          · rw [if_neg h3] at e ⊢
            by_cases h4 : o.2.1 = 4
            · rw [if_pos h4] at e ⊢
              obtain ⟨w, e1, e2⟩ := Option.bind_eq_some_iff.mp e
              rw [e1]
              exact tm_mono1 n _ _ _ _ _ _ _ e2
            · rw [if_neg h4] at e ⊢
              by_cases h5 : o.2.1 = 5
              · rw [if_pos h5] at e ⊢
                obtain ⟨w, e1, e2⟩ := Option.bind_eq_some_iff.mp e
                rw [e1]
                exact tm_mono1 n _ _ _ _ _ _ _ e2
              · rw [if_neg h5] at e ⊢
                by_cases h7 : 6 ≤ o.2.1
                · rw [if_pos h7] at e ⊢
                  obtain ⟨w, e1, e2⟩ := Option.bind_eq_some_iff.mp e
                  rw [e1]
                  exact tm_mono1 n _ _ _ _ _ _ _ e2
                rw [if_neg h7] at e ⊢
                by_cases h6 : o.2.2.2.1 ≤ st.length ∧ (st.take o.2.2.2.1).reverse.map tm_vk = tm_ak o.2.2.1 ∧ tm_rcv o.2.1 o.2.2.2.2 (st.take o.2.2.2.1).reverse h = true ∧ ((st.drop o.2.2.2.1).map Value.category).sum ≤ 8
                · rw [if_pos h6] at e ⊢
                  obtain ⟨w, e1, e2⟩ := Option.bind_eq_some_iff.mp e
                  rw [tm_mono1 n _ _ _ _ _ _ _ e1]
                  exact tm_mono1 n _ _ _ _ _ _ _ e2
                · rw [if_neg h6] at e; cases e
        · rw [if_neg h2] at e ⊢
          obtain ⟨w, e1, e2⟩ := Option.bind_eq_some_iff.mp e
          rw [e1]
          exact tm_mono1 n _ _ _ _ _ _ _ e2
theorem tm_mono {n m d j pc : Nat} {ls : tm_Lo} {st : List Value} {h : tm_H} {q : Option Value × tm_H} (hm : n ≤ m) (e : tm_run n d j pc ls st h = some q) : tm_run m d j pc ls st h = some q := by
  induction hm with
  | refl => exact e
  | step _ ih => exact tm_mono1 _ _ _ _ _ _ _ _ ih
/-- from here the method comes to its end, with an answer and a heap of which K holds -/
def tm_A (d j pc : Nat) (ls : tm_Lo) (st : List Value) (h : tm_H) (K : Option Value → tm_H → Prop) : Prop := ∃ n q, tm_run n d j pc ls st h = some q ∧ K q.1 q.2
/-- a whole method -/
def tm_R (d j : Nat) (as : List Value) (h : tm_H) (K : Option Value → tm_H → Prop) : Prop := tm_A d j 0 (tm_ent (tm_ml j) as) [] h K
theorem tm_A_mono {d j pc : Nat} {ls : tm_Lo} {st : List Value} {h : tm_H} {K K' : Option Value → tm_H → Prop} (hk : ∀ r h', K r h' → K' r h') (e : tm_A d j pc ls st h K) : tm_A d j pc ls st h K' := by
  obtain ⟨n, q, e1, e2⟩ := e
  exact ⟨n, q, e1, hk _ _ e2⟩
theorem tm_A_det {d j pc : Nat} {ls : tm_Lo} {st : List Value} {h : tm_H} {r : Option Value} {h' : tm_H} (hs : ∀ K : Option Value → tm_H → Prop, K r h' → tm_A d j pc ls st h K) (K : Option Value → tm_H → Prop) : tm_A d j pc ls st h K ↔ K r h' := by
  refine ⟨fun e => ?_, hs K⟩
  obtain ⟨n, q, e1, e2⟩ := e
  obtain ⟨m, p, f1, f2, f3⟩ := hs (fun a b => a = r ∧ b = h') ⟨rfl, rfl⟩
  have g1 := tm_mono (Nat.le_max_left n m) e1
  have g2 := tm_mono (Nat.le_max_right n m) f1
  have g3 : q = p := Option.some.inj (g1.symm.trans g2)
  rw [g3, f2, f3] at e2
  exact e2
section TMA
variable {d j pc : Nat} {ls : tm_Lo} {st : List Value} {h : tm_H} {K : Option Value → tm_H → Prop} {i : Instr} {x : tm_X}
theorem tm_A_h (ho : tm_op j pc = some (i, x)) (h1 : tm_isRet i = false) (h2 : tm_isInv i = false) : tm_A d j pc ls st h K ↔ ∃ q, tm_h i x pc ls st h = some q ∧ tm_A d j q.1 q.2.1 q.2.2.1 q.2.2.2 K := by
  constructor
  · rintro ⟨n, q, e1, e2⟩
    cases n with
    | zero => cases e1
    | succ n =>
      rw [tm_run, ho] at e1
      simp only [Option.bind_some, h1, h2, Bool.false_eq_true, if_false] at e1
      obtain ⟨w, f1, f2⟩ := Option.bind_eq_some_iff.mp e1
      exact ⟨w, f1, n, q, f2, e2⟩
  · rintro ⟨w, f1, n, q, f2, e2⟩
    refine ⟨n + 1, q, ?_, e2⟩
    rw [tm_run, ho]
    simp only [Option.bind_some, h1, h2, Bool.false_eq_true, if_false, f1]
    exact f2
theorem tm_A_r (ho : tm_op j pc = some (i, x)) (h1 : tm_isRet i = true) : tm_A d j pc ls st h K ↔ ∃ v, tm_ret i (tm_rk j) st = some v ∧ K v h := by
  constructor
  · rintro ⟨n, q, e1, e2⟩
    cases n with
    | zero => cases e1
    | succ n =>
      rw [tm_run, ho] at e1
      simp only [Option.bind_some, h1, if_true] at e1
      obtain ⟨w, f1, f2⟩ := Option.map_eq_some_iff.mp e1
      subst f2
      exact ⟨w, f1, e2⟩
  · rintro ⟨v, f1, f2⟩
    refine ⟨1, (v, h), ?_, f2⟩
    rw [tm_run, ho]
    simp only [Option.bind_some, h1, if_true, f1, Option.map_some]
theorem tm_A_i (ho : tm_op j pc = some (i, x)) (h1 : tm_isRet i = false) (h2 : tm_isInv i = true) (h4 : x.1 ≠ 4) (h5 : x.1 ≠ 5) (h6 : ¬ 6 ≤ x.1) : tm_A (d + 1) j pc ls st h K ↔ (x.2.2.1 ≤ st.length ∧ (st.take x.2.2.1).reverse.map tm_vk = tm_ak x.2.1 ∧ tm_rcv x.1 x.2.2.2 (st.take x.2.2.1).reverse h = true ∧ ((st.drop x.2.2.1).map Value.category).sum ≤ 8) ∧ tm_R d x.2.1 (st.take x.2.2.1).reverse h (fun r h' => tm_A (d + 1) j (pc + 3) ls (r.toList ++ st.drop x.2.2.1) h' K) := by
  constructor
  · rintro ⟨n, q, e1, e2⟩
    cases n with
    | zero => cases e1
    | succ n =>
      rw [tm_run, ho] at e1
      simp only [Option.bind_some, h1, h2, Bool.false_eq_true, if_false, if_true, h4, h5, h6, Nat.add_one_ne_zero, Nat.add_sub_cancel] at e1
      split at e1
      next hc =>
        obtain ⟨w, f1, f2⟩ := Option.bind_eq_some_iff.mp e1
        exact ⟨hc, n, w, f1, n, q, f2, e2⟩
      next => cases e1
  · rintro ⟨hc, n, w, f1, m, q, f2, e2⟩
    refine ⟨max n m + 1, q, ?_, e2⟩
    rw [tm_run, ho]
    simp only [Option.bind_some, h1, h2, Bool.false_eq_true, if_false, if_true, h4, h5, h6, Nat.add_one_ne_zero, Nat.add_sub_cancel, hc]
    rw [tm_mono (Nat.le_max_left n m) f1]
    simp only [Option.bind_some]
    simp only [true_and, and_self, if_true]
    exact tm_mono (Nat.le_max_right n m) f2
theorem tm_A_oi (ho : tm_op j pc = some (i, x)) (h1 : tm_isRet i = false) (h2 : tm_isInv i = true) (h4 : x.1 = 4) : tm_A (d + 1) j pc ls st h K ↔ ∃ st', tm_oi st = some st' ∧ tm_A (d + 1) j (pc + 3) ls st' h K := by
  constructor
  · rintro ⟨n, q, e1, e2⟩
    cases n with
    | zero => cases e1
    | succ n =>
      rw [tm_run, ho] at e1
      simp only [Option.bind_some, h1, h2, Bool.false_eq_true, if_false, if_true, h4, Nat.add_one_ne_zero] at e1
      obtain ⟨w, f1, f2⟩ := Option.bind_eq_some_iff.mp e1
      exact ⟨w, f1, n, q, f2, e2⟩
  · rintro ⟨w, f1, n, q, f2, e2⟩
    refine ⟨n + 1, q, ?_, e2⟩
    rw [tm_run, ho]
    simp only [Option.bind_some, h1, h2, Bool.false_eq_true, if_false, if_true, h4, Nat.add_one_ne_zero, f1]
    exact f2
theorem tm_A_cp (ho : tm_op j pc = some (i, x)) (h1 : tm_isRet i = false) (h2 : tm_isInv i = true) (h4 : x.1 = 5) : tm_A (d + 1) j pc ls st h K ↔ ∃ w, tm_cp st h = some w ∧ tm_A (d + 1) j (pc + 3) ls w.1 w.2 K := by
  constructor
  · rintro ⟨n, q, e1, e2⟩
    cases n with
    | zero => cases e1
    | succ n =>
      rw [tm_run, ho] at e1
      simp only [Option.bind_some, h1, h2, Bool.false_eq_true, if_false, if_true, h4, Nat.add_one_ne_zero, Nat.reduceEqDiff] at e1
      obtain ⟨w, f1, f2⟩ := Option.bind_eq_some_iff.mp e1
      exact ⟨w, f1, n, q, f2, e2⟩
  · rintro ⟨w, f1, n, q, f2, e2⟩
    refine ⟨n + 1, q, ?_, e2⟩
    rw [tm_run, ho]
    simp only [Option.bind_some, h1, h2, Bool.false_eq_true, if_false, if_true, h4, Nat.add_one_ne_zero, f1, Nat.reduceEqDiff]
    exact f2
theorem tm_A_mp (ho : tm_op j pc = some (i, x)) (h1 : tm_isRet i = false) (h2 : tm_isInv i = true) (h4 : x.1 ≠ 4) (h5 : x.1 ≠ 5) (h6 : 6 ≤ x.1) : tm_A (d + 1) j pc ls st h K ↔ ∃ st', tm_mp x.1 st = some st' ∧ tm_A (d + 1) j (pc + 3) ls st' h K := by
  constructor
  · rintro ⟨n, q, e1, e2⟩
    cases n with
    | zero => cases e1
    | succ n =>
      rw [tm_run, ho] at e1
      simp only [Option.bind_some, h1, h2, Bool.false_eq_true, if_false, if_true, h4, h5, h6, Nat.add_one_ne_zero] at e1
      obtain ⟨w, f1, f2⟩ := Option.bind_eq_some_iff.mp e1
      exact ⟨w, f1, n, q, f2, e2⟩
  · rintro ⟨w, f1, n, q, f2, e2⟩
    refine ⟨n + 1, q, ?_, e2⟩
    rw [tm_run, ho]
    simp only [Option.bind_some, h1, h2, Bool.false_eq_true, if_false, if_true, h4, h5, h6, Nat.add_one_ne_zero, f1]
    exact f2
end TMA
