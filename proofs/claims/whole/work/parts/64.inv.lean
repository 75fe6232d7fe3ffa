/-! What always holds between calls. -/
def iv_sc (I : Nat → Nat → Int32) (nw rp ch n oc pr : Nat) : Prop :=
  (I 3 7 = nI nw ∧ I 89 0 = nI nw ∧ nw ≤ 1000) ∧ (I 9 3 = nI rp ∧ I 89 1 = nI rp ∧ rp ≤ 10) ∧ (I 9 4 = nI ch ∧ I 89 2 = nI ch ∧ ch ≤ 60) ∧ (I 9 2 = nI (rp + ch) ∧ I 89 14 = nI (rp + ch)) ∧ (I 4 1 = nI n ∧ I 89 6 = nI n ∧ n ≤ 100) ∧ (I 3 8 = nI oc ∧ I 89 3 = nI oc ∧ oc ≤ 100) ∧ (I 3 9 = nI pr ∧ I 89 4 = nI pr ∧ pr ≤ 50)
def iv_tp (I : Nat → Nat → Int32) (n : Nat) : Prop := ∀ p, p < n → I 5 p = I 90 p ∧ I 90 p ≠ 0
def iv_hd (I : Nat → Nat → Int32) (rp : Nat) : Prop := ∀ a b, a < 10 → b < 10 → I (48 + 1 * a) b = I 106 (10 * a + b) ∧ I 106 (10 * a + b) = I 106 (10 * b + a) ∧ (I 106 (10 * a + b) = 0 ∨ ((I 106 (10 * a + b) = 1 ∨ I 106 (10 * a + b) = 2) ∧ a < rp ∧ b < rp ∧ a ≠ b))
/-- the reference's row j as what was told, and the class's telling at T with facts at F -/
abbrev iv_D (I : Nat → Nat → Int32) (F : Nat) : p_D := (0, I F 0, I F 1, I (F + 1), I (F + 2))
abbrev iv_M (I : Nat → Nat → Int32) (j : Nat) : p_M := (I 96 j, I 100 j, I 99 j, 0, (fun f => I 98 (5 * j + f)), (fun k => I 101 (18 * j + k)), (fun k => I 102 (3 * j + k)))
def iv_row (I : Nat → Nat → Int32) (T F j : Nat) : Prop := I T 0 = I 94 j ∧ I T 1 = I 95 j ∧ ((I 97 j = -1 ∧ I T 2 = I 96 j ∧ p_dm (iv_D I F) (iv_M I j)) ∨ (I 96 j = 0 ∧ F = 11 ∧ ∃ f, f < 5 ∧ I 97 j = nI f ∧ I T 2 = 1 <<< (nI f &&& 31)))
def iv_rows (G : tm_G) (I : Nat → Nat → Int32) (R : Nat → Nat → Option Nat) (c : Nat) (tl fa : Nat → Nat) : Prop := tp_T G R c tl fa ∧ (∀ j, j < c → tl j < G.1 ∧ fa j + 2 < G.1) ∧ (∀ j, j < c → iv_row I (tl j) (fa j) j) ∧ I 11 0 = 0 ∧ I 12 3 = 0
def iv_days (I : Nat → Nat → Int32) (nw rp c : Nat) (ro dy rd : Nat → Nat) : Prop := (∀ j, j < c → I 94 j = nI (ro j) ∧ ro j < rp ∧ I 95 j = nI (dy j) ∧ rd (ro j) ≤ dy j ∧ dy j ≤ nw) ∧ (∀ r, r < rp → I 103 r = nI (rd r) ∧ rd r ≤ nw ∧ ∃ j, j < c ∧ ro j = r ∧ dy j = rd r) ∧ (∀ r s, r ≤ s → s < rp → rd r ≤ rd s)
def p_low : Nat → Nat → Nat
  | 0, _ => 0
  | n + 1, s => if s % 2 = 1 then 0 else p_low n (s / 2) + 1
def iv_low (I : Nat → Nat → Int32) : Prop := ∀ s, 1 ≤ s → s < 1024 → I 74 s = nI (p_low 10 s)
def iv_room (G : tm_G) (c : Nat) : Prop := G.1 ≤ 112 + 4 * c ∧ G.2.1 ≤ 100000 + 16 * c
/-- the row that says a field of a report, of the first c -/
def p_rf (I : Nat → Nat → Int32) (r f q : Int32) : Nat → Int32
  | 0 => -1
  | c + 1 => if I 94 c = r ∧ I 95 c ≤ q then (if (I 96 c >>> (f &&& 31)) &&& 1 = 1 then nI c else if I 97 c = f then -1 else p_rf I r f q c) else p_rf I r f q c
def iv_fact (I : Nat → Nat → Int32) (c : Nat) (fa : Nat → Nat) (r f : Nat) (x : Int32) : Prop :=
  (x = -1 ∧ tb (I (16 + 3 * r) 0) f = false ∧ (f = 3 → I (16 + 3 * r + 1) 3 = 0)) ∨ (∃ j, j < c ∧ x = nI j ∧ tb (I 96 j) f = true ∧ tb (I (16 + 3 * r) 0) f = true ∧ I (16 + 3 * r + 1) f = I (fa j + 1) f ∧ (f = 2 → I (16 + 3 * r) 1 = I (fa j) 1) ∧ (f = 3 → ∀ k, k < 3 → I (16 + 3 * r + 2) k = I (fa j + 2) k))
def iv_kn (I : Nat → Nat → Int32) (rp c : Nat) (fa rd : Nat → Nat) (q m : Nat) : Prop := m ≤ rp ∧ (∀ r, r < rp → (rd r ≤ q ↔ r < m)) ∧ I 14 1 = nI m ∧ (∀ r f, r < 10 → f < 5 → iv_fact I c fa r f (p_rf I (nI r) (nI f) (nI q) c)) ∧ (∀ r k, r < 10 → 5 ≤ k → k < 32 → tb (I (16 + 3 * r) 0) k = false)
/-- names' numbers, costs of pairs, what a hand told together -/
def ck_n (I : Nat → Nat → Int32) (r : Nat) : Nat := tm_ix (I (16 + 3 * r + 1) 3)
def ck_C (I : Nat → Nat → Int32) (m r s : Nat) : Int := if r < m ∧ s < m then (p_pc I (ck_n I) m r s).toInt else 0
def ck_T (I : Nat → Nat → Int32) (r s : Nat) : Prop := r < 10 ∧ s < 10 ∧ I (48 + 1 * r) s = 1
def iv_gr (I : Nat → Nat → Int32) (J : Nat → Nat → Int64) (m oc : Nat) : Prop := I 71 5 = nI m ∧ ∃ x : Int, J 71 4 = Int64.ofInt x ∧ gp_lst (ck_C I m) (ck_T I) oc m (gp_all m) x ∧ ∀ f, gp_val (ck_C I m) (ck_T I) m (gp_all m) f → x = gp_key (ck_C I m) oc m (gp_all m) f → ∀ r, r < m → I 75 r = nI (f r)
/-! Forms, pure. -/
def fs_pc (x : Nat) : Nat := x % 2 + x / 2 % 2 + x / 4 % 2 + x / 8 % 2 + x / 16 % 2
def fs_mis (s f : Nat) : Nat := fs_pc (f &&& (31 - s)) + 2 * fs_pc (s &&& (31 - f))
def fs_sum (sh : Nat → Nat) (a b c : Nat) : Nat → Nat
  | 0 => 0
  | m + 1 => fs_sum sh a b c m + min (fs_mis (sh m) a) (min (fs_mis (sh m) b) (fs_mis (sh m) c))
/-- how many, what they cost, the forms -/
abbrev fs_S : Type := Nat × Nat × Nat × Nat × Nat
def fs_st (sh : Nat → Nat) (m pr many a b c : Nat) (s : fs_S) : fs_S := if s.1 = 0 ∨ many * pr + fs_sum sh a b c m < s.2.1 then (many, many * pr + fs_sum sh a b c m, a, b, c) else s
def fs_1 (sh : Nat → Nat) (m pr : Nat) : Nat → Nat → fs_S → fs_S
  | 0, _, s => s
  | k + 1, a, s => fs_1 sh m pr k (a + 1) (fs_st sh m pr 1 a a a s)
def fs_2b (sh : Nat → Nat) (m pr a : Nat) : Nat → Nat → fs_S → fs_S
  | 0, _, s => s
  | k + 1, b, s => fs_2b sh m pr a k (b + 1) (fs_st sh m pr 2 a b b s)
def fs_2 (sh : Nat → Nat) (m pr : Nat) : Nat → Nat → fs_S → fs_S
  | 0, _, s => s
  | k + 1, a, s => fs_2 sh m pr k (a + 1) (fs_2b sh m pr a (31 - a) (a + 1) s)
def fs_3c (sh : Nat → Nat) (m pr a b : Nat) : Nat → Nat → fs_S → fs_S
  | 0, _, s => s
  | k + 1, c, s => fs_3c sh m pr a b k (c + 1) (fs_st sh m pr 3 a b c s)
def fs_3b (sh : Nat → Nat) (m pr a : Nat) : Nat → Nat → fs_S → fs_S
  | 0, _, s => s
  | k + 1, b, s => fs_3b sh m pr a k (b + 1) (fs_3c sh m pr a b (31 - b) (b + 1) s)
def fs_3 (sh : Nat → Nat) (m pr : Nat) : Nat → Nat → fs_S → fs_S
  | 0, _, s => s
  | k + 1, a, s => fs_3 sh m pr k (a + 1) (fs_3b sh m pr a (31 - a) (a + 1) s)
def fs_all (sh : Nat → Nat) (m pr : Nat) : fs_S := if m = 0 then (0, 0, 0, 0, 0) else fs_3 sh m pr 31 1 (fs_2 sh m pr 31 1 (fs_1 sh m pr 31 1 (0, 0, 0, 0, 0)))
def ck_s (I : Nat → Nat → Int32) (r : Nat) : Nat := tm_ix (I (16 + 3 * r) 0)
/-- the forms that a row holds -/
def fs_row (w : Nat → Int32) (s : fs_S) : Prop := (0 < s.1 → w 0 = nI s.2.2.1) ∧ (1 < s.1 → w 1 = nI s.2.2.2.1) ∧ (2 < s.1 → w 2 = nI s.2.2.2.2)
def iv_fs (I : Nat → Nat → Int32) (m pr : Nat) : Prop := I 76 2 = nI (fs_all (ck_s I) m pr).1 ∧ I 76 3 = nI (fs_all (ck_s I) m pr).2.1 ∧ fs_row (I 88) (fs_all (ck_s I) m pr)
/-! All of it. -/
def iv_b (G : tm_G) (I : Nat → Nat → Int32) (R : Nat → Nat → Option Nat) (nw rp ch n oc pr : Nat) (tl fa ro dy rd : Nat → Nat) : Prop := tp_S G ∧ tp_R R ∧ tp_C I ∧ iv_sc I nw rp ch n oc pr ∧ iv_tp I n ∧ iv_hd I rp ∧ iv_rows G I R (rp + ch) tl fa ∧ iv_days I nw rp (rp + ch) ro dy rd ∧ iv_low I ∧ iv_room G (rp + ch)
def iv_c (I : Nat → Nat → Int32) (J : Nat → Nat → Int64) (rp ch oc pr : Nat) (fa rd : Nat → Nat) (q m : Nat) : Prop := I 3 10 = nI q ∧ iv_kn I rp (rp + ch) fa rd q m ∧ (I 3 11 = 0 ∨ (I 3 11 = 1 ∧ iv_gr I J m oc)) ∧ (I 3 12 = 0 ∨ (I 3 12 = 1 ∧ iv_fs I m pr))
def iv_p (G : tm_G) (I : Nat → Nat → Int32) (J : Nat → Nat → Int64) (R : Nat → Nat → Option Nat) (nw rp ch n oc pr : Nat) (tl fa ro dy rd : Nat → Nat) : Prop := iv_b G I R nw rp ch n oc pr tl fa ro dy rd ∧ (I 3 10 = -1 ∨ ∃ q m, q ≤ nw ∧ iv_c I J rp ch oc pr fa rd q m)
def iv (h : tm_H) : Prop := ∃ (nw rp ch n oc pr : Nat) (tl fa ro dy rd : Nat → Nat), iv_p h.1 h.2.1 h.2.2.1 h.2.2.2 nw rp ch n oc pr tl fa ro dy rd
/-- a call on both: the class's, then the reference's; the same answer, and all of it holds again -/
def iv_both (d j j' : Nat) (as : List Value) (h : tm_H) : Prop := tm_R d j (.ref 3 :: as) h (fun r h1 => tm_R d j' (.ref 89 :: as) h1 (fun r' h2 => (∃ x, r = some (.int x) ∧ r' = some (.int x)) ∧ iv h2))
