/-! The constructors: from the start to where all of it holds. -/
def Sx (L c : Nat) : Nat → Nat × Nat := fun a => if a < c then (if a = 0 then (1, L) else tp_sh a) else (99, 0)
def zJ : Nat → Nat → Int64 := fun _ _ => 0
def Rx : List (Nat × Nat × Nat) → Nat → Nat → Option Nat
  | [] => fun _ _ => none
  | q :: l => up2 (Rx l) q.1 q.2.1 (some q.2.2)
def lo (l : List (Nat × Nat × Nat)) (c : Nat) : Prop := ∀ e ∈ l, e.1 < c
theorem lo_c {l : List (Nat × Nat × Nat)} {c a k v : Nat} (h : lo l c) (ha : a < c) : lo ((a, k, v) :: l) c := fun e he => by
  rcases List.mem_cons.mp he with rfl | he
  · exact ha
  · exact h e he
theorem lo_m {l : List (Nat × Nat × Nat)} {c c' : Nat} (h : lo l c) (hc : c ≤ c') : lo l c' := fun e he => Nat.lt_of_lt_of_le (h e he) hc
theorem Rx_no : ∀ {l : List (Nat × Nat × Nat)} {c b : Nat}, lo l c → c ≤ b → ∀ i, Rx l b i = none
  | [], _, _, _, _, _ => rfl
  | q :: l, c, b, h, hb, i => by
    have h1 := h q (List.mem_cons_self ..)
    have h2 := Rx_no (l := l) (c := c) (b := b) (fun e he => h e (List.mem_cons_of_mem _ he)) hb i
    show up2 (Rx l) q.1 q.2.1 (some q.2.2) b i = none
    unfold up2
    rw [if_neg (fun z => by have := z.1; omega)]
    exact h2
theorem Rx_put {l : List (Nat × Nat × Nat)} {a k v : Nat} : up2 (Rx l) a k (some v) = Rx ((a, k, v) :: l) := rfl
theorem up2_z {I : Nat → Nat → Int32} {a : Nat} (h : I a = fun _ => 0) (k : Nat) : up2 I a k 0 = I := by
  funext b j
  unfold up2
  by_cases e : b = a ∧ j = k
  · rw [if_pos e, e.1, h]
  · rw [if_neg e]
theorem up2_zJ (a k : Nat) : up2 zJ a k 0 = zJ := by
  funext b j
  unfold up2 zJ
  split <;> rfl
theorem Sx_s {L c : Nat} {q : Nat × Nat} (hc : 1 ≤ c) (hq : tp_sh c = q) : upr (Sx L c) c q = Sx L (c + 1) := by
  funext a
  unfold upr Sx
  by_cases e : a = c
  · subst e
    rw [if_pos rfl, if_pos (by omega), if_neg (by omega), hq]
  · rw [if_neg e]
    by_cases h : a < c
    · rw [if_pos h, if_pos (show a < c + 1 by omega)]
    · rw [if_neg h, if_neg (show ¬ a < c + 1 by omega)]
theorem hn {L c c' s n : Nat} {q : Nat × Nat} {I : Nat → Nat → Int32} {l : List (Nat × Nat × Nat)} (hc : 1 ≤ c) (hc' : c' = c + 1) (hq : tp_sh c = q) (hI : I c = fun _ => 0) (hl : lo l c) : tm_nw q n ((c, s, Sx L c), I, zJ, Rx l) = ((c', s + n, Sx L c'), I, zJ, Rx l) := by
  subst hc'
  have e1 : upr I c (fun _ => 0) = I := by rw [← hI]; exact upr_self
  have e2 : upr zJ c (fun _ => 0) = zJ := by
    funext b
    unfold upr
    by_cases h : b = c
    · rw [if_pos h]; rfl
    · rw [if_neg h]
  have e3 : upr (Rx l) c (fun _ => none) = Rx l := by
    funext b
    unfold upr
    by_cases h : b = c
    · rw [if_pos h]
      funext i
      exact (Rx_no hl (by omega) i).symm
    · rw [if_neg h]
  rw [tm_nw_eq]
  simp only
  rw [e1, e2, e3, Sx_s hc hq]
def rw_l (c : Nat) : Nat → List (Nat × Nat × Nat) → List (Nat × Nat × Nat)
  | 0, l => l
  | n + 1, l => (c, n, c + 1 + n) :: rw_l c n l
theorem rw_l_e (c : Nat) (l : List (Nat × Nat × Nat)) (b i : Nat) : ∀ n, Rx (rw_l c n l) b i = if b = c ∧ i < n then some (c + 1 + i) else Rx l b i
  | 0 => by rw [if_neg (by omega)]; rfl
  | n + 1 => by
    show up2 (Rx (rw_l c n l)) c n (some (c + 1 + n)) b i = _
    unfold up2
    by_cases h : b = c ∧ i = n
    · rw [if_pos h, if_pos ⟨h.1, by omega⟩, h.2]
    · rw [if_neg h, rw_l_e c l b i n]
      by_cases h2 : b = c ∧ i < n
      · rw [if_pos h2, if_pos ⟨h2.1, by omega⟩]
      · rw [if_neg h2, if_neg (fun z => by
          by_cases h3 : i = n
          · exact h ⟨z.1, h3⟩
          · exact h2 ⟨z.1, by omega⟩)]
theorem lo_rw {l : List (Nat × Nat × Nat)} {c c' : Nat} (h : lo l c') (hc : c < c') : ∀ n, lo (rw_l c n l) c'
  | 0 => h
  | n + 1 => lo_c (lo_rw h hc n) hc
theorem hmn {L c c' s k : Nat} {I : Nat → Nat → Int32} {l : List (Nat × Nat × Nat)} (hc : 1 ≤ c) (hc' : c' = c + 11) (hq : tp_sh c = (3, 10)) (hr : ∀ i, i < 10 → tp_sh (c + 1 + i) = (1, k)) (hI : ∀ b, c ≤ b → I b = fun _ => 0) (hl : lo l c) : tm_mn 10 k ((c, s, Sx L c), I, zJ, Rx l) = ((c', s + 10 + 10 * k, Sx L c'), I, zJ, Rx (rw_l c 10 l)) := by
  subst hc'
  unfold tm_mn
  simp only
  refine Prod.ext (Prod.ext rfl (Prod.ext rfl ?_)) (Prod.ext ?_ (Prod.ext ?_ ?_))
  · funext b
    show (if b = c then (3, 10) else if c < b ∧ b ≤ c + 10 then (1, k) else Sx L c b) = Sx L (c + 11) b
    unfold Sx
    by_cases h1 : b = c
    · subst h1
      rw [if_pos rfl, if_pos (by omega), if_neg (by omega), hq]
    · rw [if_neg h1]
      by_cases h2 : c < b ∧ b ≤ c + 10
      · have := hr (b - c - 1) (by omega)
        rw [show c + 1 + (b - c - 1) = b by omega] at this
        rw [if_pos h2, if_pos (by omega), if_neg (by omega), this]
      · rw [if_neg h2]
        by_cases h3 : b < c
        · rw [if_pos h3, if_pos (show b < c + 11 by omega)]
        · rw [if_neg h3, if_neg (show ¬ b < c + 11 by omega)]
  · funext b
    show (if c ≤ b ∧ b ≤ c + 10 then (fun _ => 0) else I b) = I b
    by_cases h : c ≤ b ∧ b ≤ c + 10
    · rw [if_pos h, hI b h.1]
    · rw [if_neg h]
  · funext b
    show (if c ≤ b ∧ b ≤ c + 10 then (fun _ => 0) else zJ b) = zJ b
    by_cases h : c ≤ b ∧ b ≤ c + 10
    · rw [if_pos h]; rfl
    · rw [if_neg h]
  · funext b i
    show (if b = c then (fun i => if i < 10 then some (c + 1 + i) else none) else if c < b ∧ b ≤ c + 10 then (fun _ => none) else Rx l b) i = Rx (rw_l c 10 l) b i
    rw [rw_l_e]
    by_cases h1 : b = c
    · by_cases h2 : i < 10
      · have h12 : b = c ∧ i < 10 := ⟨h1, h2⟩
        rw [if_pos h12, if_pos h1]
        exact if_pos h2
      · have h12 : ¬ (b = c ∧ i < 10) := fun z => h2 z.2
        rw [if_neg h12, if_pos h1, Rx_no hl (by omega)]
        exact if_neg h2
    · have h12 : ¬ (b = c ∧ i < 10) := fun z => h1 z.1
      rw [if_neg h12, if_neg h1]
      by_cases h2 : c < b ∧ b ≤ c + 10
      · rw [if_pos h2, Rx_no hl (by omega)]
      · rw [if_neg h2]
theorem Sx_at {L c a : Nat} {q : Nat × Nat} (h1 : 1 ≤ a) (h2 : a < c) (hq : tp_sh a = q) : Sx L c a = q := by
  unfold Sx
  rw [if_pos h2, if_neg (by omega), hq]
section INI
variable {L s : Nat} {I : Nat → Nat → Int32} {l : List (Nat × Nat × Nat)}
theorem k0 (d a b1 b2 c c' : Nat) (K : Option Value → tm_H → Prop) (h3 : 3 ≤ a) (q0 : tp_sh a = (0, 0)) (q1 : tp_sh b1 = (1, 5)) (q2 : tp_sh b2 = (1, 3)) (e1 : b1 = a + 1) (e2 : b2 = a + 2) (ec : c = a + 1) (ec' : c' = a + 3) (hI : ∀ b, a ≤ b → I b = fun _ => 0) (hl : lo l c) : tm_R (d + 1) 0 [.ref a] ((c, s, Sx L c), I, zJ, Rx l) K ↔ K none ((c', s + 5 + 3, Sx L c'), I, zJ, Rx ((a, 3, b2) :: (a, 2, b1) :: l)) := by
  subst e1 e2 ec ec'
  rw [e0]
  simp only [r0_0, r0_1, r0_4, r0_5, r0_6, r0_9, r0_10, r0_11, r0_14, r0_15, r0_16, r0_18, r0_21, r0_22, r0_23, r0_25, r0_28, Sx_at (L := L) (show 1 ≤ a by omega) (show a < a + 1 by omega) q0, Sx_at (L := L) (show 1 ≤ a by omega) (show a < a + 2 by omega) q0, Sx_at (L := L) (show 1 ≤ a by omega) (show a < a + 3 by omega) q0, up2_z (hI a (Nat.le_refl _)), i5_, i3_, ix5, ix3, hn (L := L) (I := I) (c := a + 1) (c' := a + 2) (q := (1, 5)) (by omega) rfl q1 (hI _ (by omega)) hl, hn (L := L) (I := I) (c := a + 2) (c' := a + 3) (q := (1, 3)) (l := (a, 2, a + 1) :: l) (by omega) rfl q2 (hI _ (by omega)) (lo_c (lo_m hl (by omega)) (by omega)), Rx_put, not_false_eq_true, show 5 ≤ 100000 by decide, show 3 ≤ 100000 by decide, tm_in, or_true, true_or, tm_cs0, tm_cs1, tm_cs2, tm_cs3, tm_cs4, true_and, and_true, and_self, Option.toList_some, Option.toList_none, List.cons_append, List.nil_append, tm_rf_some, tm_rf_none]
theorem k68 (d : Nat) (K : Option Value → tm_H → Prop) (hI : ∀ b, 3 ≤ b → I b = fun _ => 0) (hl : lo l 5) : tm_R (d + 2) 68 [.ref 4] ((5, s, Sx L 5), I, zJ, Rx l) K ↔ K none ((9, s + 100 + 4 + 5 + 3, Sx L 9), I, zJ, Rx ((4, 3, 6) :: (6, 3, 8) :: (6, 2, 7) :: (4, 0, 5) :: l)) := by
  have z4 := up2_z (hI 4 (by decide))
  have l6 : lo ((4, 0, 5) :: l) 6 := lo_c (lo_m hl (by decide)) (by decide)
  rw [e68]
  simp only [r68_0, r68_1, r68_4, r68_5, r68_7, r68_9, r68_12, r68_13, r68_14, r68_17, r68_18, r68_19, r68_22, r68_23, r68_26, r68_26i, r68_27, r68_30, r68_33, Sx_at (L := L) (c := 6) (a := 4) (q := (0, 7)) (by decide) (by decide) rfl, Sx_at (L := L) (c := 9) (a := 4) (q := (0, 7)) (by decide) (by decide) rfl, z4, show ¬ (100 : Int32) < 0 by decide, show tm_ix 100 = 100 from rfl, show 100 ≤ 100000 by decide, hn (L := L) (I := I) (c := 5) (c' := 6) (q := (1, 100)) (by decide) rfl rfl (hI _ (by decide)) hl, hn (L := L) (I := I) (c := 6) (c' := 7) (q := (0, 0)) (by decide) rfl rfl (hI _ (by decide)) l6, k0 _ 6 7 8 7 9 _ (by decide) rfl rfl rfl rfl rfl rfl rfl (fun b hb => hI b (by omega)) (lo_m l6 (show 6 ≤ 7 by decide)), Rx_put, not_false_eq_true, tm_in, or_true, true_or, tm_cs0, tm_cs1, tm_cs2, tm_cs3, tm_cs4, true_and, and_true, and_self, Option.toList_some, Option.toList_none, List.cons_append, List.nil_append, tm_rf_some, tm_rf_none]
theorem k48 (d : Nat) (K : Option Value → tm_H → Prop) (hI : ∀ b, 3 ≤ b → I b = fun _ => 0) (hl : lo l 10) : tm_R (d + 2) 48 [.ref 9] ((10, s, Sx L 10), I, zJ, Rx l) K ↔ K none ((14, s + 70 + 4 + 5 + 3, Sx L 14), I, zJ, Rx ((9, 1, 11) :: (11, 3, 13) :: (11, 2, 12) :: (9, 0, 10) :: l)) := by
  have z9 := up2_z (hI 9 (by decide))
  have l11 : lo ((9, 0, 10) :: l) 11 := lo_c (lo_m hl (by decide)) (by decide)
  rw [e48]
  simp only [r48_0, r48_1, r48_4, r48_5, r48_7, r48_10, r48_13, r48_14, r48_17, r48_17i, r48_18, r48_21, r48_24, r48_25, r48_26, r48_29, r48_30, r48_31, r48_34, r48_35, r48_36, r48_39, Sx_at (L := L) (c := 11) (a := 9) (q := (0, 5)) (by decide) (by decide) rfl, Sx_at (L := L) (c := 14) (a := 9) (q := (0, 5)) (by decide) (by decide) rfl, z9, show ¬ (70 : Int32) < 0 by decide, show tm_ix 70 = 70 from rfl, show 70 ≤ 100000 by decide, hn (L := L) (I := I) (c := 10) (c' := 11) (q := (4, 70)) (by decide) rfl rfl (hI _ (by decide)) hl, hn (L := L) (I := I) (c := 11) (c' := 12) (q := (0, 0)) (by decide) rfl rfl (hI _ (by decide)) l11, k0 _ 11 12 13 12 14 _ (by decide) rfl rfl rfl rfl rfl rfl rfl (fun b hb => hI b (by omega)) (lo_m l11 (show 11 ≤ 12 by decide)), Rx_put, not_false_eq_true, tm_in, or_true, true_or, tm_cs0, tm_cs1, tm_cs2, tm_cs3, tm_cs4, true_and, and_true, and_self, Option.toList_some, Option.toList_none, List.cons_append, List.nil_append, tm_rf_some, tm_rf_none]
theorem k34 (d : Nat) (K : Option Value → tm_H → Prop) (hI : ∀ b, 3 ≤ b → I b = fun _ => 0) (hl : lo l 47) : tm_R (d + 1) 34 [.ref 46] ((47, s, Sx L 47), I, zJ, Rx l) K ↔ K none ((58, s + 10 + 10 * 10, Sx L 58), I, zJ, Rx ((46, 0, 47) :: rw_l 47 10 l)) := by
  rw [e34]
  simp only [r34_0, r34_1, r34_4, r34_5, r34_7, r34_9, r34_13, r34_16, Sx_at (L := L) (c := 58) (a := 46) (q := (0, 3)) (by decide) (by decide) rfl, show ¬ (10 : Int32) < 0 by decide, show tm_ix 10 = 10 from rfl, show 10 ≤ 1000 by decide, hmn (L := L) (I := I) (c := 47) (c' := 58) (k := 10) (by decide) rfl rfl (by decide) (fun b hb => hI b (by omega)) hl, Rx_put, not_false_eq_true, tm_in, or_true, true_or, tm_cs0, tm_cs1, tm_cs2, tm_cs3, tm_cs4, true_and, and_true, and_self, Option.toList_some, Option.toList_none, List.cons_append, List.nil_append, tm_rf_some, tm_rf_none]
theorem k59 (d : Nat) (K : Option Value → tm_H → Prop) (hI : ∀ b, 3 ≤ b → I b = fun _ => 0) (hl : lo l 59) : tm_R (d + 1) 59 [.ref 58] ((59, s, Sx L 59), I, zJ, Rx l) K ↔ K none ((71, s + 10 + 10 * 10 + 10, Sx L 71), I, zJ, Rx ((58, 1, 70) :: (58, 0, 59) :: rw_l 59 10 l)) := by
  have l70 : lo ((58, 0, 59) :: rw_l 59 10 l) 70 := lo_c (lo_rw (lo_m hl (by decide)) (by decide) 10) (by decide)
  rw [e59]
  simp only [r59_0, r59_1, r59_4, r59_5, r59_7, r59_9, r59_13, r59_16, r59_17, r59_19, r59_21, r59_24, Sx_at (L := L) (c := 70) (a := 58) (q := (0, 6)) (by decide) (by decide) rfl, Sx_at (L := L) (c := 71) (a := 58) (q := (0, 6)) (by decide) (by decide) rfl, show ¬ (10 : Int32) < 0 by decide, show tm_ix 10 = 10 from rfl, show 10 ≤ 1000 by decide, show 10 ≤ 100000 by decide, hmn (L := L) (I := I) (c := 59) (c' := 70) (k := 10) (by decide) rfl rfl (by decide) (fun b hb => hI b (by omega)) hl, hn (L := L) (I := I) (c := 70) (c' := 71) (q := (1, 10)) (by decide) rfl rfl (hI _ (by decide)) l70, Rx_put, not_false_eq_true, tm_in, or_true, true_or, tm_cs0, tm_cs1, tm_cs2, tm_cs3, tm_cs4, true_and, and_true, and_self, Option.toList_some, Option.toList_none, List.cons_append, List.nil_append, tm_rf_some, tm_rf_none]
theorem k13 (d : Nat) (K : Option Value → tm_H → Prop) (hI : ∀ b, 76 ≤ b → I b = fun _ => 0) (hl : lo l 77) : tm_R (d + 1) 13 [.ref 76] ((77, s, Sx L 77), I, zJ, Rx l) K ↔ K none ((89, s + 10 + 10 * 32 + 3, Sx L 89), I, zJ, Rx ((76, 1, 88) :: (76, 0, 77) :: rw_l 77 10 l)) := by
  have z := up2_z (hI 76 (by decide))
  have l88 : lo ((76, 0, 77) :: rw_l 77 10 l) 88 := lo_c (lo_rw (lo_m hl (by decide)) (by decide) 10) (by decide)
  rw [e13]
  simp only [r13_0, r13_1, r13_4, r13_5, r13_7, r13_9, r13_13, r13_16, r13_17, r13_18, r13_20, r13_23, r13_24, r13_25, r13_28, r13_29, r13_30, r13_33, r13_34, r13_35, r13_38, Sx_at (L := L) (c := 88) (a := 76) (q := (0, 1)) (by decide) (by decide) rfl, Sx_at (L := L) (c := 89) (a := 76) (q := (0, 1)) (by decide) (by decide) rfl, z, show ¬ (10 : Int32) < 0 by decide, show ¬ (32 : Int32) < 0 by decide, show ¬ (3 : Int32) < 0 by decide, show tm_ix 10 = 10 from rfl, show tm_ix 32 = 32 from rfl, show tm_ix 3 = 3 from rfl, show 10 ≤ 1000 by decide, show 32 ≤ 1000 by decide, show 3 ≤ 100000 by decide, hmn (L := L) (I := I) (c := 77) (c' := 88) (k := 32) (by decide) rfl rfl (by decide) (fun b hb => hI b (by omega)) hl, hn (L := L) (I := I) (c := 88) (c' := 89) (q := (1, 3)) (by decide) rfl rfl (hI _ (by decide)) l88, Rx_put, not_false_eq_true, tm_in, or_true, true_or, tm_cs0, tm_cs1, tm_cs2, tm_cs3, tm_cs4, true_and, and_true, and_self, Option.toList_some, Option.toList_none, List.cons_append, List.nil_append, tm_rf_some, tm_rf_none]
theorem Rx_ne {q : Nat × Nat × Nat} {a k : Nat} (h : a ≠ q.1) : Rx (q :: l) a k = Rx l a k := by
  show up2 (Rx l) q.1 q.2.1 (some q.2.2) a k = _
  unfold up2
  rw [if_neg (fun z => h z.1)]
theorem k39_i (d r c c' b1 b2 : Nat) (K : Option Value → tm_H → Prop) (hI : ∀ b, 3 ≤ b → I b = fun _ => 0) (hl : lo l c) (hR : Rx l 14 0 = some 15) (hr : r < 10) (h16 : 16 ≤ c) (q0 : tp_sh c = (0, 0)) (q1 : tp_sh b1 = (1, 5)) (q2 : tp_sh b2 = (1, 3)) (e1 : b1 = c + 1) (e2 : b2 = c + 2) (ec : c' = c + 3) : tm_A (d + 2) 39 15 [some (.ref 14), some (.int (nI r))] [] ((c, s, Sx L c), I, zJ, Rx l) K ↔ tm_A (d + 2) 39 15 [some (.ref 14), some (.int (nI (r + 1)))] [] ((c', s + 4 + 5 + 3, Sx L c'), I, zJ, Rx ((15, r, c) :: (c, 3, b2) :: (c, 2, b1) :: l)) K := by
  have hc : ¬ (10 : Int32) ≤ nI r := fun z => by
    have := (q_le (a := 10) (b := r) rfl rfl (by decide) (by omega)).mp z
    omega
  have ir : tm_in (nI r) 10 := q_in hr (by decide)
  have hl1 : lo l (c + 1) := lo_m hl (by omega)
  rw [r39_15]
  simp only [r39_16, r39_18, r39_21, r39_22, r39_25, r39_26, r39_29, r39_29i, r39_30, r39_33, r39_34, r39_37, hc, if_false, Sx_at (L := L) (c := c) (a := 14) (q := (0, 4)) (by decide) (by omega) rfl, hR, Sx_at (L := L) (c := c') (a := 15) (q := (5, 10)) (by decide) (by omega) rfl, Sx_at (L := L) (c := c') (a := c) (q := (0, 0)) (by omega) (by omega) q0, hn (L := L) (I := I) (c := c) (c' := c + 1) (q := (0, 0)) (by omega) rfl q0 (hI _ (by omega)) hl, k0 _ c b1 b2 (c + 1) c' _ (by omega) q0 q1 q2 e1 e2 rfl ec (fun b hb => hI b (by omega)) hl1, ir, q_ix (show r < 2147483648 by omega), Rx_put, nI_1, not_false_eq_true, show 3 ≤ 15 by decide, tm_in, or_true, true_or, tm_cs0, tm_cs1, tm_cs2, tm_cs3, tm_cs4, true_and, and_true, and_self, Option.toList_some, Option.toList_none, List.cons_append, List.nil_append, tm_rf_some, tm_rf_none]
def kn_l (r : Nat) (l : List (Nat × Nat × Nat)) : List (Nat × Nat × Nat) := (15, r, 16 + 3 * r) :: (16 + 3 * r, 3, 18 + 3 * r) :: (16 + 3 * r, 2, 17 + 3 * r) :: l
theorem lo_kn {r : Nat} (h : lo l (16 + 3 * r)) : lo (kn_l r l) (16 + 3 * (r + 1)) := lo_c (lo_c (lo_c (lo_m h (by omega)) (by omega)) (by omega)) (by omega)
theorem Rx_kn {r : Nat} (h : Rx l 14 0 = some 15) : Rx (kn_l r l) 14 0 = some 15 := by
  unfold kn_l
  rw [Rx_ne (by simp), Rx_ne (by simp; omega), Rx_ne (by simp; omega)]
  exact h
theorem kn_sh : ∀ r, r < 10 → tp_sh (16 + 3 * r) = (0, 0) ∧ tp_sh (17 + 3 * r) = (1, 5) ∧ tp_sh (18 + 3 * r) = (1, 3) := by decide
def kn_a : Nat → List (Nat × Nat × Nat) → List (Nat × Nat × Nat)
  | 0, l => l
  | n + 1, l => kn_l n (kn_a n l)
theorem k39_l (d : Nat) (K : Option Value → tm_H → Prop) (hI : ∀ b, 3 ≤ b → I b = fun _ => 0) : ∀ (n r s : Nat) (l : List (Nat × Nat × Nat)), r + n = 10 → lo (kn_a r l) (16 + 3 * r) → Rx (kn_a r l) 14 0 = some 15 → (∀ s' : Nat, s' = s + 12 * n → K none ((46, s', Sx L 46), I, zJ, Rx (kn_a 10 l))) → tm_A (d + 2) 39 15 [some (.ref 14), some (.int (nI r))] [] ((16 + 3 * r, s, Sx L (16 + 3 * r)), I, zJ, Rx (kn_a r l)) K := by
  intro n
  induction n with
  | zero =>
    intro r s l hr hl hR hK
    have : r = 10 := by omega
    subst this
    have hc : (10 : Int32) ≤ nI 10 := by decide
    have z := up2_z (hI 14 (by decide))
    rw [r39_15]
    simp only [r39_16, r39_18, r39_40, r39_41, r39_42, r39_45, hc, if_true, Sx_at (L := L) (c := 16 + 3 * 10) (a := 14) (q := (0, 4)) (by decide) (by decide) rfl, z, tm_in, or_true, true_or, tm_cs0, tm_cs1, tm_cs2, tm_cs3, tm_cs4, true_and, and_true, and_self, Option.toList_some, Option.toList_none, List.cons_append, List.nil_append, tm_rf_some, tm_rf_none]
    exact hK s (by omega)
  | succ n ih =>
    intro r s l hr hl hR hK
    have q := kn_sh r (by omega)
    rw [k39_i d r (16 + 3 * r) (16 + 3 * (r + 1)) (17 + 3 * r) (18 + 3 * r) K hI hl hR (by omega) (by omega) q.1 q.2.1 q.2.2 (by omega) (by omega) (by omega)]
    exact ih (r + 1) (s + 4 + 5 + 3) l (by omega) (lo_kn hl) (Rx_kn hR) (fun s' e => hK s' (by omega))
theorem k39 (d : Nat) (K : Option Value → tm_H → Prop) (hI : ∀ b, 3 ≤ b → I b = fun _ => 0) (hl : lo l 15) (hK : ∀ s' : Nat, s' = s + 130 → K none ((46, s', Sx L 46), I, zJ, Rx (kn_a 10 ((14, 0, 15) :: l)))) : tm_R (d + 2) 39 [.ref 14] ((15, s, Sx L 15), I, zJ, Rx l) K := by
  rw [e39]
  simp only [r39_0, r39_1, r39_4, r39_5, r39_7, r39_10, r39_13, r39_14, Sx_at (L := L) (c := 16) (a := 14) (q := (0, 4)) (by decide) (by decide) rfl, show ¬ (10 : Int32) < 0 by decide, show tm_ix 10 = 10 from rfl, show 10 ≤ 100000 by decide, hn (L := L) (I := I) (c := 15) (c' := 16) (q := (5, 10)) (by decide) rfl rfl (hI _ (by decide)) hl, Rx_put, not_false_eq_true, tm_in, or_true, true_or, tm_cs0, tm_cs1, tm_cs2, tm_cs3, tm_cs4, true_and, and_true, and_self, Option.toList_some, Option.toList_none, List.cons_append, List.nil_append, tm_rf_some, tm_rf_none]
  exact k39_l d K hI 10 0 (s + 10) ((14, 0, 15) :: l) rfl (lo_c (lo_m hl (by decide)) (by decide)) (by
    show up2 (Rx l) 14 0 (some 15) 14 0 = _
    exact up2_at) (fun s' e => hK s' (by omega))
end INI
