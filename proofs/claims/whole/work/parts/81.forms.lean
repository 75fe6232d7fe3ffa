/-! Forms: the class's search. -/
def p_us (a b : Int32) : Int32 := (a.toUInt32 >>> (b.toUInt32 &&& Int32.toUInt32 31)).toInt32
def p_b1 (x : Int32) : Int32 := x - ((p_us x 1) &&& 1431655765)
def p_b2 (a : Int32) : Int32 := (a &&& 858993459) + ((p_us a 2) &&& 858993459)
def p_b3 (b : Int32) : Int32 := (b + p_us b 4) &&& 252645135
def p_b4 (c : Int32) : Int32 := c + p_us c 8
def p_b5 (c : Int32) : Int32 := c + p_us c 16
def p_bc (x : Int32) : Int32 := p_b5 (p_b4 (p_b3 (p_b2 (p_b1 x)))) &&& 63
theorem m174 (d : Nat) (x : Int32) (h : tm_H) (K : Option Value → tm_H → Prop) : tm_R d 174 [.int x] h K ↔ K (some (.int (p_bc x))) h := by
  rw [e174]
  simp only [r174_0, r174_1, r174_2, r174_3, r174_4, r174_7, r174_8, r174_9, r174_10, r174_11, r174_14, r174_15, r174_16, r174_17, r174_18, r174_21, r174_22, r174_23, r174_24, r174_25, r174_26, r174_27, r174_28, r174_29, r174_32, r174_33, r174_34, r174_35, r174_36, r174_38, r174_39, r174_40, r174_41, r174_42, r174_43, r174_45, r174_46, r174_47, r174_48, r174_49, r174_51, r174_52, tm_in, or_true, true_or, tm_cs0, tm_cs1, tm_cs2, tm_cs3, tm_cs4, true_and, and_true, and_self, Option.toList_some, Option.toList_none, List.cons_append, List.nil_append, tm_rf_some, tm_rf_none]
  exact Iff.rfl
theorem fs_bc : ∀ s, s < 32 → ∀ f, f < 32 → p_bc (nI f &&& (nI s ^^^ -1)) = nI (fs_pc (f &&& (31 - s))) := by decide +kernel
theorem fs_pc_le (x : Nat) : fs_pc x ≤ 5 := by
  unfold fs_pc
  omega
theorem fs_mis_le (s f : Nat) : fs_mis s f ≤ 15 := by
  have h1 := fs_pc_le (f &&& (31 - s))
  have h2 := fs_pc_le (s &&& (31 - f))
  unfold fs_mis
  omega
theorem fs_sum_mono (sh : Nat → Nat) (a b c : Nat) : ∀ k i, fs_sum sh a b c i ≤ fs_sum sh a b c (i + k)
  | 0, i => Nat.le_refl _
  | k + 1, i => by
    have := fs_sum_mono sh a b c k i
    rw [← Nat.add_assoc, fs_sum]
    omega
theorem fs_sum_le (sh : Nat → Nat) (a b c : Nat) : ∀ m, fs_sum sh a b c m ≤ 15 * m
  | 0 => Nat.le_refl _
  | m + 1 => by
    have h1 := fs_sum_le sh a b c m
    have h2 := fs_mis_le (sh m) a
    rw [fs_sum]
    omega
theorem nI_min {x y : Nat} (hx : x < 2147483648) (hy : y < 2147483648) : (if nI y < nI x then nI y else nI x) = nI (min x y) := by
  by_cases h : y < x
  · rw [if_pos ((nI_ltI (by omega) (by omega)).mpr h)]
    congr 1
    omega
  · rw [if_neg (fun z => h ((nI_ltI (by omega) (by omega)).mp z))]
    congr 1
    omega
def tp_fs (I : Nat → Nat → Int32) (my cs : Int32) (w : Nat → Int32) : Nat → Nat → Int32 := fun b k => if b = 88 then w k else if b = 76 ∧ k = 2 then my else if b = 76 ∧ k = 3 then cs else I b k
section FSH
variable {I : Nat → Nat → Int32} {my cs v : Int32} {w : Nat → Int32} {i : Nat}
theorem fs_88 : tp_fs I my cs w 88 = w := by funext k; simp [tp_fs]
theorem fs_762 : tp_fs I my cs w 76 2 = my := by simp [tp_fs]
theorem fs_763 : tp_fs I my cs w 76 3 = cs := by simp [tp_fs]
theorem fs_764 : tp_fs I my cs w 76 4 = I 76 4 := by simp [tp_fs]
theorem fs_o {b : Nat} (h1 : b ≠ 88) (h2 : b ≠ 76) : tp_fs I my cs w b = I b := by funext k; simp [tp_fs, h1, h2]
theorem fs_u2 : up2 (tp_fs I my cs w) 76 2 v = tp_fs I v cs w := by
  funext b k; simp only [up2, tp_fs]; grind
theorem fs_u3 : up2 (tp_fs I my cs w) 76 3 v = tp_fs I my v w := by
  funext b k; simp only [up2, tp_fs]; grind
theorem fs_u88 : up2 (tp_fs I my cs w) 88 i v = tp_fs I my cs (p_upf w i v) := by
  funext b k; simp only [up2, tp_fs, p_upf]; grind
theorem fs_self : tp_fs I (I 76 2) (I 76 3) (I 88) = I := by
  funext b k; simp only [tp_fs]; grind
end FSH
/-- the class's search as far as it is -/
def fs_rel (s : fs_S) (my cs : Int32) (w : Nat → Int32) : Prop := my = nI s.1 ∧ cs = nI (if s.1 = 0 then 1000000 else s.2.1) ∧ fs_row w s ∧ s.2.1 ≤ 1000
abbrev fs_w (w : Nat → Int32) (a b c : Nat) : Nat → Int32 := p_upf (p_upf (p_upf w 0 (nI a)) 1 (nI b)) 2 (nI c)
theorem fs_st_y {sh : Nat → Nat} {m pr many a b c : Nat} {s : fs_S} {my cs : Int32} {w : Nat → Int32} (h : fs_rel s my cs w) (hm : m ≤ 10) (hpr : pr ≤ 50) (hmany : 1 ≤ many ∧ many ≤ 3) (hc : many * pr + fs_sum sh a b c m < if s.1 = 0 then 1000000 else s.2.1) : fs_rel (fs_st sh m pr many a b c s) (nI many) (nI (many * pr + fs_sum sh a b c m)) (fs_w w a b c) := by
  have hs := fs_sum_le sh a b c m
  have hmp : many * pr ≤ 150 := Nat.le_trans (Nat.mul_le_mul hmany.2 hpr) (by decide)
  have e : fs_st sh m pr many a b c s = (many, many * pr + fs_sum sh a b c m, a, b, c) := by
    unfold fs_st
    rw [if_pos ?_]
    by_cases h0 : s.1 = 0
    · exact Or.inl h0
    · rw [if_neg h0] at hc
      exact Or.inr hc
  rw [e]
  refine ⟨rfl, ?_, ⟨fun _ => ?_, fun _ => ?_, fun _ => ?_⟩, ?_⟩
  · show nI (many * pr + fs_sum sh a b c m) = nI (if many = 0 then 1000000 else many * pr + fs_sum sh a b c m)
    rw [if_neg (by omega)]
  · simp [fs_w, p_upf]
  · simp [fs_w, p_upf]
  · simp [fs_w, p_upf]
  · show many * pr + fs_sum sh a b c m ≤ 1000
    omega
theorem fs_st_n {sh : Nat → Nat} {m pr many a b c : Nat} {s : fs_S} (hm : m ≤ 10) (hpr : pr ≤ 50) (hmany : 1 ≤ many ∧ many ≤ 3) (hc : ¬ many * pr + fs_sum sh a b c m < if s.1 = 0 then 1000000 else s.2.1) : fs_st sh m pr many a b c s = s := by
  have hs := fs_sum_le sh a b c m
  have hmp : many * pr ≤ 150 := Nat.le_trans (Nat.mul_le_mul hmany.2 hpr) (by decide)
  unfold fs_st
  rw [if_neg ?_]
  rintro (z | z)
  · rw [if_pos z] at hc
    omega
  · by_cases h0 : s.1 = 0
    · rw [if_pos h0] at hc
      omega
    · rw [if_neg h0] at hc
      exact hc z
section FRM
variable {G : tm_G} {I : Nat → Nat → Int32} {J : Nat → Nat → Int64} {R : Nat → Nat → Option Nat} {m : Nat} {sh : Nat → Nat}
/-- the class's table of costs -/
def fs_tab (I : Nat → Nat → Int32) (sh : Nat → Nat) (m : Nat) : Prop := I 76 4 = nI m ∧ m ≤ 10 ∧ ∀ r f, r < m → 1 ≤ f → f < 32 → I (78 + 1 * r) f = nI (fs_mis (sh r) f)
theorem c19_l (d : Nat) (K : Option Value → tm_H → Prop) (hS : tp_S G) (hR : tp_R R) (hT : fs_tab I sh m) {p C a b c : Nat} (hp : p ≤ 150) (hC : C ≤ 1000000) (ha : 1 ≤ a ∧ a < 32) (hb : 1 ≤ b ∧ b < 32) (hc : 1 ≤ c ∧ c < 32) {my : Int32} {w : Nat → Int32} (o : Option Value) : ∀ (k i : Nat), i + k = m → (tm_A (d + 1) 19 6 [some (.ref 76), o, some (.int (nI a)), some (.int (nI b)), some (.int (nI c)), some (.int (nI (p + fs_sum sh a b c i))), some (.int (nI i))] [] (G, tp_fs I my (nI C) w, J, R) K ↔ if p + fs_sum sh a b c m < C then K (some (.int 1)) (G, tp_fs I my (nI (p + fs_sum sh a b c m)) (fs_w w a b c), J, R) else K (some (.int 0)) (G, tp_fs I my (nI C) w, J, R)) := by
  obtain ⟨t1, t2, t3⟩ := hT
  have i76 : tp_fs I my (nI C) w 76 4 = nI m := by rw [fs_764]; exact t1
  intro k
  induction k with
  | zero =>
    intro i hi
    have : i = m := by omega
    subst this
    have hs := fs_sum_le sh a b c i
    have hcc : nI i ≤ nI i := Int32.le_refl _
    have hlt : nI (p + fs_sum sh a b c i) < nI C ↔ p + fs_sum sh a b c i < C := nI_ltI (by omega) (by omega)
    rw [r19_6]
    simp only [r19_8, r19_9, r19_12, r19_69, r19_71, r19_72, r19_75, sh_76 hS, i76, fs_763, hcc, if_true, hlt, tm_in, or_true, true_or, tm_cs0, tm_cs1, tm_cs2, tm_cs3, tm_cs4, true_and, and_true, and_self, Option.toList_some, Option.toList_none, List.cons_append, List.nil_append, tm_rf_some, tm_rf_none]
    by_cases h : p + fs_sum sh a b c i < C
    · simp only [h, if_true, r19_80, r19_81, r19_83, r19_86, r19_87, r19_90, r19_91, r19_92, r19_93, r19_94, r19_97, r19_98, r19_99, r19_100, r19_101, r19_104, r19_105, r19_107, r19_108, r19_109, sh_76 hS, sh_88 hS, rf_76_1 hR, fs_u3, fs_u88, show tm_in 0 3 by decide, show tm_in 1 3 by decide, show tm_in 2 3 by decide, ix0, ix1, ix2, show 3 ≤ 88 by decide, tm_z1, tm_in, or_true, true_or, tm_cs0, tm_cs1, tm_cs2, tm_cs3, tm_cs4, true_and, and_true, and_self, Option.toList_some, Option.toList_none, List.cons_append, List.nil_append, tm_rf_some, tm_rf_none]
    · simp only [h, if_false, r19_78, r19_79, tm_z0, tm_in, or_true, true_or, tm_cs0, tm_cs1, tm_cs2, tm_cs3, tm_cs4, true_and, and_true, and_self, Option.toList_some, Option.toList_none, List.cons_append, List.nil_append, tm_rf_some, tm_rf_none]
  | succ k ih =>
    intro i hi
    have hs := fs_sum_le sh a b c i
    have hcc : ¬ nI m ≤ nI i := fun z => by
      have := (q_le (a := m) (b := i) rfl rfl (by omega) (by omega)).mp z
      omega
    have hi10 : i < 10 := by omega
    have i1 : tm_in (nI i) 10 := q_in hi10 (by decide)
    have ia : tm_in (nI a) 32 := q_in ha.2 (by decide)
    have ib : tm_in (nI b) 32 := q_in hb.2 (by decide)
    have ic : tm_in (nI c) 32 := q_in hc.2 (by decide)
    have ro : tp_fs I my (nI C) w (78 + 1 * i) = I (78 + 1 * i) := fs_o (by omega) (by omega)
    have va := t3 i a (by omega) ha.1 ha.2
    have vb := t3 i b (by omega) hb.1 hb.2
    have vc := t3 i c (by omega) hc.1 hc.2
    have la := fs_mis_le (sh i) a
    have lb := fs_mis_le (sh i) b
    have lc := fs_mis_le (sh i) c
    have hle : nI C ≤ nI (p + fs_sum sh a b c i) ↔ C ≤ p + fs_sum sh a b c i := nI_leI (by omega) (by omega)
    rw [r19_6]
    simp only [r19_8, r19_9, r19_12, r19_15, r19_17, r19_18, r19_21, sh_76 hS, i76, fs_763, hcc, if_false, hle, tm_in, or_true, true_or, tm_cs0, tm_cs1, tm_cs2, tm_cs3, tm_cs4, true_and, and_true, and_self, Option.toList_some, Option.toList_none, List.cons_append, List.nil_append, tm_rf_some, tm_rf_none]
    by_cases h : C ≤ p + fs_sum sh a b c i
    · have hmono := fs_sum_mono sh a b c (k + 1) i
      rw [show i + (k + 1) = m by omega] at hmono
      have hn : ¬ p + fs_sum sh a b c m < C := by omega
      have hlt : ¬ nI (p + fs_sum sh a b c i) < nI C := fun z => by
        have := (nI_ltI (by omega) (by omega)).mp z
        omega
      rw [if_neg hn]
      simp only [h, if_true, r19_69, r19_71, r19_72, r19_75, r19_78, r19_79, sh_76 hS, fs_763, hlt, if_false, tm_z0, tm_in, or_true, true_or, tm_cs0, tm_cs1, tm_cs2, tm_cs3, tm_cs4, true_and, and_true, and_self, Option.toList_some, Option.toList_none, List.cons_append, List.nil_append, tm_rf_some, tm_rf_none]
    · have ih' := ih (i + 1) (by omega)
      rw [fs_sum] at ih'
      simp only [h, if_false, r19_24, r19_26, r19_27, r19_30, r19_32, r19_33, r19_34, r19_35, r19_36, r19_39, r19_41, r19_42, r19_43, r19_44, r19_45, r19_48, r19_50, r19_51, r19_53, r19_54, r19_57, r19_60, r19_61, r19_63, r19_66, sh_76 hS, sh_77 hS, rf_76_0 hR, rf_C hR hi10, sh_C hS hi10, i1, ia, ib, ic, ro, q_ix (show i < 2147483648 by omega), q_ix (show a < 2147483648 by omega), q_ix (show b < 2147483648 by omega), q_ix (show c < 2147483648 by omega), va, vb, vc, nI_min (show fs_mis (sh i) b < 2147483648 by omega) (show fs_mis (sh i) c < 2147483648 by omega), nI_min (show fs_mis (sh i) a < 2147483648 by omega) (show min (fs_mis (sh i) b) (fs_mis (sh i) c) < 2147483648 by omega), nI_add, nI_1, Nat.add_assoc, tm_in, or_true, true_or, tm_cs0, tm_cs1, tm_cs2, tm_cs3, tm_cs4, true_and, and_true, and_self, Option.toList_some, Option.toList_none, List.cons_append, List.nil_append, tm_rf_some, tm_rf_none]
      exact ih'
end FRM
