/-! Both groupings agree; folds over a group. -/
/-- what all of a group's members have alike -/
def p_ag (sel : Nat → Bool) (has : Nat → Bool) (val : Nat → Int32) : Nat → Nat → Int32 → Int32
  | 0, _, v => v
  | n + 1, k, v => if sel k = true ∧ has k = true then (if v = -1 ∨ v = val k then p_ag sel has val n (k + 1) (val k) else -2) else p_ag sel has val n (k + 1) v
def p_lo (sel : Nat → Bool) (has : Nat → Bool) (val : Nat → Int32) : Nat → Nat → Int32 → Int32
  | 0, _, v => v
  | n + 1, k, v => p_lo sel has val n (k + 1) (if sel k = true ∧ has k = true then (if v = -1 then val k else if v < val k then val k else v) else v)
def p_hi (sel : Nat → Bool) (has : Nat → Bool) (val : Nat → Int32) : Nat → Nat → Int32 → Int32
  | 0, _, v => v
  | n + 1, k, v => p_hi sel has val n (k + 1) (if sel k = true ∧ has k = true then (if v = -1 then val k else if val k < v then val k else v) else v)
def p_cn (sel : Nat → Bool) : Nat → Nat → Nat
  | 0, _ => 0
  | n + 1, k => (if sel k = true then 1 else 0) + p_cn sel n (k + 1)
theorem p_ag_sel {sel sel' has : Nat → Bool} {val : Nat → Int32} : ∀ n k v, (∀ i, k ≤ i → i < k + n → sel i = sel' i) → p_ag sel has val n k v = p_ag sel' has val n k v
  | 0, _, _, _ => rfl
  | n + 1, k, v, h => by
    rw [p_ag, p_ag, h k (by omega) (by omega), p_ag_sel n (k + 1) (val k) (fun i a b => h i (by omega) (by omega)), p_ag_sel n (k + 1) v (fun i a b => h i (by omega) (by omega))]
theorem p_lo_sel {sel sel' has : Nat → Bool} {val : Nat → Int32} : ∀ n k v, (∀ i, k ≤ i → i < k + n → sel i = sel' i) → p_lo sel has val n k v = p_lo sel' has val n k v
  | 0, _, _, _ => rfl
  | n + 1, k, v, h => by
    rw [p_lo, p_lo, h k (by omega) (by omega), p_lo_sel n (k + 1) _ (fun i a b => h i (by omega) (by omega))]
theorem p_hi_sel {sel sel' has : Nat → Bool} {val : Nat → Int32} : ∀ n k v, (∀ i, k ≤ i → i < k + n → sel i = sel' i) → p_hi sel has val n k v = p_hi sel' has val n k v
  | 0, _, _, _ => rfl
  | n + 1, k, v, h => by
    rw [p_hi, p_hi, h k (by omega) (by omega), p_hi_sel n (k + 1) _ (fun i a b => h i (by omega) (by omega))]
theorem p_cn_sel {sel sel' : Nat → Bool} : ∀ n k, (∀ i, k ≤ i → i < k + n → sel i = sel' i) → p_cn sel n k = p_cn sel' n k
  | 0, _, _ => rfl
  | n + 1, k, h => by
    rw [p_cn, p_cn, h k (by omega) (by omega), p_cn_sel n (k + 1) (fun i a b => h i (by omega) (by omega))]
theorem p_ag_skip {sel has : Nat → Bool} {val : Nat → Int32} : ∀ j n k v, (∀ i, k ≤ i → i < k + j → sel i = false) → p_ag sel has val (j + n) k v = p_ag sel has val n (k + j) v
  | 0, n, k, v, _ => by rw [Nat.zero_add, Nat.add_zero]
  | j + 1, n, k, v, h => by
    rw [show j + 1 + n = (j + n) + 1 by omega, p_ag, h k (by omega) (by omega), if_neg (by simp), p_ag_skip j n (k + 1) v (fun i a b => h i (by omega) (by omega)), show k + 1 + j = k + (j + 1) by omega]
theorem p_lo_skip {sel has : Nat → Bool} {val : Nat → Int32} : ∀ j n k v, (∀ i, k ≤ i → i < k + j → sel i = false) → p_lo sel has val (j + n) k v = p_lo sel has val n (k + j) v
  | 0, n, k, v, _ => by rw [Nat.zero_add, Nat.add_zero]
  | j + 1, n, k, v, h => by
    rw [show j + 1 + n = (j + n) + 1 by omega, p_lo, h k (by omega) (by omega), if_neg (by simp), p_lo_skip j n (k + 1) v (fun i a b => h i (by omega) (by omega)), show k + 1 + j = k + (j + 1) by omega]
theorem p_hi_skip {sel has : Nat → Bool} {val : Nat → Int32} : ∀ j n k v, (∀ i, k ≤ i → i < k + j → sel i = false) → p_hi sel has val (j + n) k v = p_hi sel has val n (k + j) v
  | 0, n, k, v, _ => by rw [Nat.zero_add, Nat.add_zero]
  | j + 1, n, k, v, h => by
    rw [show j + 1 + n = (j + n) + 1 by omega, p_hi, h k (by omega) (by omega), if_neg (by simp), p_hi_skip j n (k + 1) v (fun i a b => h i (by omega) (by omega)), show k + 1 + j = k + (j + 1) by omega]
theorem p_cn_le (sel : Nat → Bool) : ∀ n k, p_cn sel n k ≤ n
  | 0, _ => Nat.le_refl _
  | n + 1, k => by
    have := p_cn_le sel n (k + 1)
    rw [p_cn]
    split <;> omega
theorem gp_n_cn (sel : Nat → Bool) : ∀ n k, gp_n (fun j => if sel j = true then 1 else 0) (k + n) = gp_n (fun j => if sel j = true then 1 else 0) k + p_cn sel n k
  | 0, k => rfl
  | n + 1, k => by
    rw [show k + (n + 1) = k + 1 + n by omega, gp_n_cn sel n (k + 1), gp_n, p_cn]
    omega
theorem gp_n_1 : ∀ n, gp_n (fun _ => 1) n = n
  | 0 => rfl
  | n + 1 => by rw [gp_n, gp_n_1 n]
section AGR
variable {G : tm_G} {I : Nat → Nat → Int32} {J : Nat → Nat → Int64} {R : Nat → Nat → Option Nat} {nw rp ch n oc pr q m : Nat} {tl fa ro dy rd : Nat → Nat}
/-- a grouping found: its firsts, its ways, their number -/
def gr_yes (I : Nat → Nat → Int32) (J : Nat → Nat → Int64) (oc m : Nat) (bc bg : Int32) (bw : Nat → Int32) (b w : Nat → Nat) (g : Nat) : Prop := gp_val (ck_C I m) (ck_T I) m (gp_all m) b ∧ gp_rel m g w b ∧ bc = iI (gp_cost (ck_C I m) oc m (gp_all m) b) ∧ bg = nI g ∧ (∀ j, j < m → bw j = nI (w j)) ∧ (∀ r, r < m → I 75 r = nI (b r)) ∧ J 71 4 = lI (gp_key (ck_C I m) oc m (gp_all m) b) ∧ J 71 4 ≠ lI gp_NV
theorem gr_agree (hb : iv_b G I R nw rp ch n oc pr tl fa ro dy rd) (hk : iv_kn I rp (rp + ch) fa rd q m) (hm : m ≤ 10) (hg : iv_gr I J m oc) {f : Nat → Nat} {B : Option (Nat → Nat)} {fd bc bg : Int32} {bw : Nat → Int32} (hpo : gp_post (ck_C I m) oc m (gp_V (ck_C I m) (ck_T I) m 0 f) none B) (hst : dp_st (ck_C I m) (ck_T I) oc m B fd bc bg bw) : (fd = 0 ∧ J 71 4 = lI gp_NV) ∨ (fd = 1 ∧ ∃ b w g, gr_yes I J oc m bc bg bw b w g) := by
  obtain ⟨-, X, e1, e2, e3⟩ := hg
  have hC := ck_bd hb hk hm
  have s6 := hb.2.2.2.1.2.2.2.2.2.1
  have ho : (0 : Int) ≤ (oc : Int) ∧ (oc : Int) ≤ 100 := by have := s6.2.2; omega
  have ag := gp_agree (f := f) hm hC ho e2 hpo (fun b hB => by
    rcases hst with ⟨z, -⟩ | ⟨b', w, g, z, -, z3, -⟩
    · rw [z] at hB; cases hB
    · have : b = b' := Option.some.inj (hB.symm.trans z)
      subst this
      exact z3)
  have hXb := gp_lst_bd (C := ck_C I m) (T := ck_T I) (oc := oc) hm hC s6.2.2 e2
  rcases hst with ⟨z1, z2⟩ | ⟨b, w, g, z1, z2, z3, z4, z5, z6, z7⟩
  · exact Or.inl ⟨z2, by rw [e1]; show lI X = _; rw [ag.1 z1]⟩
  · obtain ⟨y1, y2⟩ := ag.2 b z1
    refine Or.inr ⟨z2, b, w, g, z3, z4, z5, z6, z7, e3 b z3 y1, ?_, ?_⟩
    · rw [e1]; show lI X = _; rw [y1]
    · rw [e1]
      show lI X ≠ _
      intro h
      exact y2 ((lI_eq (by omega) (by unfold gp_NV; omega)).mp h)
theorem gr_sel {m g : Nat} {w b : Nat → Nat} (hr : gp_rel m g w b) {i r : Nat} (hi : i < m) (hrm : r < m) : w i = w r ↔ b i = b r := by
  obtain ⟨h1, h2, -⟩ := hr
  constructor
  · exact h2 i r hi hrm
  · intro e
    rw [← (h1 i hi).2.2, ← (h1 r hrm).2.2, e]
theorem gr_bb {m g : Nat} {w b : Nat → Nat} (hr : gp_rel m g w b) {r : Nat} (hrm : r < m) : b (b r) = b r ∧ b r ≤ r := by
  obtain ⟨h1, h2, -⟩ := hr
  have a := h1 r hrm
  exact ⟨h2 _ _ (by omega) hrm a.2.2, a.2.1⟩
end AGR
