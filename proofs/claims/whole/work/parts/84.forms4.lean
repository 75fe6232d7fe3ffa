/-! Forms: the reference's search. -/
def ms_v (sh : Nat → Nat) (many a b c r : Nat) : Nat := if 2 < many then min (min (fs_mis (sh r) a) (fs_mis (sh r) b)) (fs_mis (sh r) c) else if 1 < many then min (fs_mis (sh r) a) (fs_mis (sh r) b) else fs_mis (sh r) a
def ms_sum (sh : Nat → Nat) (many a b c : Nat) : Nat → Nat
  | 0 => 0
  | m + 1 => ms_sum sh many a b c m + ms_v sh many a b c m
theorem ms_1 (sh : Nat → Nat) (a b c : Nat) : ∀ m, ms_sum sh 1 a b c m = fs_sum sh a a a m
  | 0 => rfl
  | m + 1 => by
    rw [ms_sum, fs_sum, ms_1 sh a b c m, ms_v, if_neg (by decide), if_neg (by decide), Nat.min_self, Nat.min_self]
theorem ms_2 (sh : Nat → Nat) (a b c : Nat) : ∀ m, ms_sum sh 2 a b c m = fs_sum sh a b b m
  | 0 => rfl
  | m + 1 => by
    rw [ms_sum, fs_sum, ms_2 sh a b c m, ms_v, if_neg (by decide), if_pos (by decide), Nat.min_self]
theorem ms_3 (sh : Nat → Nat) (a b c : Nat) : ∀ m, ms_sum sh 3 a b c m = fs_sum sh a b c m
  | 0 => rfl
  | m + 1 => by
    rw [ms_sum, fs_sum, ms_3 sh a b c m, ms_v, if_pos (by decide), Nat.min_assoc]
theorem ms_v_le (sh : Nat → Nat) (many a b c r : Nat) : ms_v sh many a b c r ≤ 15 := by
  have := fs_mis_le (sh r) a
  unfold ms_v
  split
  · omega
  · split <;> omega
theorem ms_sum_le (sh : Nat → Nat) (many a b c : Nat) : ∀ m, ms_sum sh many a b c m ≤ 15 * m
  | 0 => Nat.le_refl _
  | m + 1 => by
    have h1 := ms_sum_le sh many a b c m
    have h2 := ms_v_le sh many a b c m
    rw [ms_sum]
    omega
def tp_ms (I : Nat → Nat → Int32) (my cs : Int32) (w : Nat → Int32) : Nat → Nat → Int32 := fun b k => if b = 111 then w k else if b = 89 ∧ k = 37 then my else if b = 89 ∧ k = 38 then cs else I b k
section MSH
variable {I : Nat → Nat → Int32} {my cs v : Int32} {w : Nat → Int32} {i : Nat}
theorem ms_111 : tp_ms I my cs w 111 = w := by funext k; simp [tp_ms]
theorem ms_37 : tp_ms I my cs w 89 37 = my := by simp [tp_ms]
theorem ms_38 : tp_ms I my cs w 89 38 = cs := by simp [tp_ms]
theorem ms_89 {k : Nat} (h1 : k ≠ 37) (h2 : k ≠ 38) : tp_ms I my cs w 89 k = I 89 k := by simp [tp_ms, h1, h2]
theorem ms_o {b : Nat} (h1 : b ≠ 111) (h2 : b ≠ 89) : tp_ms I my cs w b = I b := by funext k; simp [tp_ms, h1, h2]
theorem ms_u37 : up2 (tp_ms I my cs w) 89 37 v = tp_ms I v cs w := by
  funext b k; simp only [up2, tp_ms]; grind
theorem ms_u38 : up2 (tp_ms I my cs w) 89 38 v = tp_ms I my v w := by
  funext b k; simp only [up2, tp_ms]; grind
theorem ms_u111 : up2 (tp_ms I my cs w) 111 i v = tp_ms I my cs (p_upf w i v) := by
  funext b k; simp only [up2, tp_ms, p_upf]; grind
theorem ms_scr {b k : Nat} (h : ¬ scr b k) : tp_ms I my cs w b k = I b k := by
  unfold scr at h
  unfold tp_ms
  rw [if_neg (by omega), if_neg (by omega), if_neg (by omega)]
end MSH
def ms_rel (s : fs_S) (my cs : Int32) (w : Nat → Int32) : Prop := my = nI s.1 ∧ s.1 ≤ 3 ∧ cs = nI s.2.1 ∧ fs_row w s ∧ s.2.1 ≤ 1000
section MFS
variable {G : tm_G} {I : Nat → Nat → Int32} {J : Nat → Nat → Int64} {R : Nat → Nat → Option Nat} {m pr : Nat} {sh : Nat → Nat}
theorem m167 (d : Nat) {s f : Nat} (hs : s < 32) (hf : f < 32) (h : tm_H) (K : Option Value → tm_H → Prop) : tm_R (d + 1) 167 [.int (nI s), .int (nI f)] h K ↔ K (some (.int (nI (fs_mis s f)))) h := by
  have b1 := fs_bc s hs f hf
  have b2 := fs_bc f hf s hs
  have em : nI (fs_pc (f &&& (31 - s))) + (2 : Int32) * nI (fs_pc (s &&& (31 - f))) = nI (fs_mis s f) := by
    rw [show (2 : Int32) = nI 2 from rfl, pk_mul, nI_add]
    rfl
  rw [e167]
  simp only [r167_0, r167_1, r167_2, r167_3, r167_4, r167_5, r167_8, r167_9, r167_10, r167_11, r167_12, r167_13, r167_14, r167_17, r167_18, r167_19, m174, b1, b2, em, tm_in, or_true, true_or, tm_cs0, tm_cs1, tm_cs2, tm_cs3, tm_cs4, true_and, and_true, and_self, Option.toList_some, Option.toList_none, List.cons_append, List.nil_append, tm_rf_some, tm_rf_none]
/-- what the reference's search rests on -/
def ms_tab (I : Nat → Nat → Int32) (sh : Nat → Nat) (m pr : Nat) : Prop := I 89 26 = nI m ∧ m ≤ 10 ∧ I 89 4 = nI pr ∧ pr ≤ 50 ∧ ∀ r, r < m → I 110 r = nI (sh r) ∧ sh r < 32
theorem m168_l (d : Nat) (K : Option Value → tm_H → Prop) (hS : tp_S G) (hR : tp_R R) (hT : ms_tab I sh m pr) {many a b c : Nat} (hmany : many ≤ 3) (ha : a < 32) (hb : b < 32) (hc : c < 32) {my cs : Int32} {w : Nat → Int32} : ∀ (k i p : Nat) (o : Option Value), i + k = m → p ≤ 1000 + 15 * i → (tm_A (d + 2) 168 12 [some (.ref 89), some (.int (nI a)), some (.int (nI b)), some (.int (nI c)), some (.int (nI many)), some (.int (nI (p + ms_sum sh many a b c i))), some (.int (nI i)), o] [] (G, tp_ms I my cs w, J, R) K ↔ K (some (.int (nI (p + ms_sum sh many a b c m)))) (G, tp_ms I my cs w, J, R)) := by
  obtain ⟨t1, t2, t3, t4, t5⟩ := hT
  have i26 : tp_ms I my cs w 89 26 = nI m := by rw [ms_89 (by decide) (by decide)]; exact t1
  have i110 : tp_ms I my cs w 110 = I 110 := ms_o (by decide) (by decide)
  intro k
  induction k with
  | zero =>
    intro i p o hi hp
    have : i = m := by omega
    subst this
    have hcc : nI i ≤ nI i := Int32.le_refl _
    rw [r168_12]
    simp only [r168_14, r168_15, r168_18, r168_105, r168_107, sh_89 hS, i26, hcc, if_true, tm_in, or_true, true_or, tm_cs0, tm_cs1, tm_cs2, tm_cs3, tm_cs4, true_and, and_true, and_self, Option.toList_some, Option.toList_none, List.cons_append, List.nil_append, tm_rf_some, tm_rf_none]
  | succ k ih =>
    intro i p o hi hp
    have hcc : ¬ nI m ≤ nI i := fun z => by
      have := (q_le (a := m) (b := i) rfl rfl (by omega) (by omega)).mp z
      omega
    have i1 : tm_in (nI i) 10 := q_in (by omega) (by decide)
    obtain ⟨e1, l1⟩ := t5 i (by omega)
    have la := fs_mis_le (sh i) a
    have lb := fs_mis_le (sh i) b
    have lc := fs_mis_le (sh i) c
    have ih' := fun o => ih (i + 1) p o (by omega) (by omega)
    simp only [ms_sum] at ih'
    rw [r168_12]
    simp only [r168_14, r168_15, r168_18, r168_21, r168_22, r168_25, r168_27, r168_28, r168_29, r168_32, r168_34, r168_36, r168_37, sh_89 hS, sh_110 hS, rf_89_35 hR, i26, i110, hcc, if_false, i1, q_ix (show i < 2147483648 by omega), e1, m167 _ l1 ha, tm_in, or_true, true_or, tm_cs0, tm_cs1, tm_cs2, tm_cs3, tm_cs4, true_and, and_true, and_self, Option.toList_some, Option.toList_none, List.cons_append, List.nil_append, tm_rf_some, tm_rf_none]
    by_cases h1 : 1 < many
    · have z1 : ¬ nI many ≤ 1 := fun z => by
        have := (q_le (a := many) (b := 1) rfl rfl (by omega) (by decide)).mp z
        omega
      simp only [z1, if_false, r168_40, r168_42, r168_43, r168_46, r168_48, r168_49, r168_50, r168_53, r168_56, r168_59, r168_61, r168_63, r168_65, r168_66, sh_89 hS, sh_110 hS, rf_89_35 hR, i110, i1, q_ix (show i < 2147483648 by omega), e1, m167 _ l1 hb, nI_min (show fs_mis (sh i) a < 2147483648 by omega) (show fs_mis (sh i) b < 2147483648 by omega), tm_in, or_true, true_or, tm_cs0, tm_cs1, tm_cs2, tm_cs3, tm_cs4, true_and, and_true, and_self, Option.toList_some, Option.toList_none, List.cons_append, List.nil_append, tm_rf_some, tm_rf_none]
      by_cases h2 : 2 < many
      · have z2 : ¬ nI many ≤ 2 := fun z => by
          have := (q_le (a := many) (b := 2) rfl rfl (by omega) (by decide)).mp z
          omega
        have ev : ms_v sh many a b c i = min (min (fs_mis (sh i) a) (fs_mis (sh i) b)) (fs_mis (sh i) c) := by unfold ms_v; rw [if_pos h2]
        rw [ev] at ih'
        simp only [z2, if_false, r168_69, r168_71, r168_72, r168_75, r168_77, r168_78, r168_79, r168_82, r168_85, r168_88, r168_90, r168_92, r168_94, r168_96, r168_97, r168_99, r168_102, sh_89 hS, sh_110 hS, rf_89_35 hR, i110, i1, q_ix (show i < 2147483648 by omega), e1, m167 _ l1 hc, nI_min (show min (fs_mis (sh i) a) (fs_mis (sh i) b) < 2147483648 by omega) (show fs_mis (sh i) c < 2147483648 by omega), nI_add, nI_1, Nat.add_assoc, tm_in, or_true, true_or, tm_cs0, tm_cs1, tm_cs2, tm_cs3, tm_cs4, true_and, and_true, and_self, Option.toList_some, Option.toList_none, List.cons_append, List.nil_append, tm_rf_some, tm_rf_none]
        exact ih' _
      · have z2 : nI many ≤ 2 := (q_le (a := many) (b := 2) rfl rfl (by omega) (by decide)).mpr (by omega)
        have ev : ms_v sh many a b c i = min (fs_mis (sh i) a) (fs_mis (sh i) b) := by unfold ms_v; rw [if_neg h2, if_pos h1]
        rw [ev] at ih'
        simp only [z2, if_true, r168_88, r168_90, r168_92, r168_94, r168_96, r168_97, r168_99, r168_102, nI_add, nI_1, Nat.add_assoc, tm_in, or_true, true_or, tm_cs0, tm_cs1, tm_cs2, tm_cs3, tm_cs4, true_and, and_true, and_self, Option.toList_some, Option.toList_none, List.cons_append, List.nil_append, tm_rf_some, tm_rf_none]
        exact ih' _
    · have z1 : nI many ≤ 1 := (q_le (a := many) (b := 1) rfl rfl (by omega) (by decide)).mpr (by omega)
      have z2 : nI many ≤ 2 := (q_le (a := many) (b := 2) rfl rfl (by omega) (by decide)).mpr (by omega)
      have ev : ms_v sh many a b c i = fs_mis (sh i) a := by unfold ms_v; rw [if_neg (by omega), if_neg h1]
      rw [ev] at ih'
      simp only [z1, z2, if_true, r168_59, r168_61, r168_63, r168_65, r168_66, r168_88, r168_90, r168_92, r168_94, r168_96, r168_97, r168_99, r168_102, nI_add, nI_1, Nat.add_assoc, tm_in, or_true, true_or, tm_cs0, tm_cs1, tm_cs2, tm_cs3, tm_cs4, true_and, and_true, and_self, Option.toList_some, Option.toList_none, List.cons_append, List.nil_append, tm_rf_some, tm_rf_none]
      exact ih' _
theorem m169 (d : Nat) (K : Option Value → tm_H → Prop) (hS : tp_S G) (hR : tp_R R) (hT : ms_tab I sh m pr) {many a b c B C : Nat} (hmany : 1 ≤ many ∧ many ≤ 3) (ha : a < 32) (hb : b < 32) (hc : c < 32) (hB : 1 < many → b = B) (hC : 2 < many → c = C) (hsum : ms_sum sh many a b c m = fs_sum sh a B C m) {s : fs_S} {my cs : Int32} {w : Nat → Int32} (hr : ms_rel s my cs w) (hK : ∀ my' cs' w', ms_rel (fs_st sh m pr many a B C s) my' cs' w' → K none (G, tp_ms I my' cs' w', J, R)) : tm_R (d + 3) 169 [.ref 89, .int (nI a), .int (nI b), .int (nI c), .int (nI many)] (G, tp_ms I my cs w, J, R) K := by
  obtain ⟨h1, h1', h2, h3, h4⟩ := hr
  have hT0 := hT
  obtain ⟨t1, t2, t3, t4, t5⟩ := hT
  have hmp : many * pr ≤ 150 := Nat.le_trans (Nat.mul_le_mul hmany.2 t4) (by decide)
  have hle := ms_sum_le sh many a b c m
  have i4 : tp_ms I my cs w 89 4 = nI pr := by rw [ms_89 (by decide) (by decide)]; exact t3
  have hcost : ∀ K', tm_R (d + 2) 168 [.ref 89, .int (nI a), .int (nI b), .int (nI c), .int (nI many)] (G, tp_ms I my cs w, J, R) K' ↔ K' (some (.int (nI (many * pr + fs_sum sh a B C m)))) (G, tp_ms I my cs w, J, R) := fun K' => by
    rw [e168]
    simp only [r168_0, r168_2, r168_3, r168_6, r168_7, r168_9, r168_10, sh_89 hS, i4, pk_mul, tm_in, or_true, true_or, tm_cs0, tm_cs1, tm_cs2, tm_cs3, tm_cs4, true_and, and_true, and_self, Option.toList_some, Option.toList_none, List.cons_append, List.nil_append, tm_rf_some, tm_rf_none]
    have := m168_l (G := G) (I := I) (J := J) (R := R) d K' hS hR hT0 hmany.2 ha hb hc (my := my) (cs := cs) (w := w) m 0 (many * pr) none (by omega) (by omega)
    rw [nI_0, hsum] at this
    exact this
  have hfin : (many * pr + fs_sum sh a B C m) ≤ 1000 := by rw [← hsum]; omega
  have hset : ms_rel (many, many * pr + fs_sum sh a B C m, a, B, C) (nI many) (nI (many * pr + fs_sum sh a B C m)) (fs_w w a b c) := ⟨rfl, hmany.2, rfl, ⟨fun _ => by simp [fs_w, p_upf], fun z => by simp [fs_w, p_upf, hB z], fun z => by simp [fs_w, p_upf, hC z]⟩, hfin⟩
  rw [e169]
  simp only [r169_0, r169_1, r169_2, r169_3, r169_4, r169_6, r169_9, r169_11, r169_12, r169_15, sh_89 hS, hcost, ms_37, tm_in, or_true, true_or, tm_cs0, tm_cs1, tm_cs2, tm_cs3, tm_cs4, true_and, and_true, and_self, Option.toList_some, Option.toList_none, List.cons_append, List.nil_append, tm_rf_some, tm_rf_none]
  by_cases h0 : s.1 = 0
  · have e : fs_st sh m pr many a B C s = (many, many * pr + fs_sum sh a B C m, a, B, C) := by unfold fs_st; rw [if_pos (Or.inl h0)]
    rw [e] at hK
    have z : my = 0 := by rw [h1, h0]; rfl
    simp only [z, if_true, r169_27, r169_28, r169_30, r169_33, r169_34, r169_36, r169_39, r169_40, r169_43, r169_44, r169_45, r169_46, r169_47, r169_50, r169_51, r169_52, r169_53, r169_54, r169_57, r169_58, r169_59, r169_60, sh_89 hS, sh_111 hS, rf_89_36 hR, ms_u37, ms_u38, ms_u111, show tm_in 0 3 by decide, show tm_in 1 3 by decide, show tm_in 2 3 by decide, ix0, ix1, ix2, show 3 ≤ 111 by decide, tm_in, or_true, true_or, tm_cs0, tm_cs1, tm_cs2, tm_cs3, tm_cs4, true_and, and_true, and_self, Option.toList_some, Option.toList_none, List.cons_append, List.nil_append, tm_rf_some, tm_rf_none]
    exact hK _ _ _ hset
  · have z : ¬ my = 0 := by rw [h1]; exact nI_ne0 (by omega) (by omega)
    simp only [z, if_false, r169_18, r169_20, r169_21, r169_24, sh_89 hS, ms_38, h2, tm_in, or_true, true_or, tm_cs0, tm_cs1, tm_cs2, tm_cs3, tm_cs4, true_and, and_true, and_self, Option.toList_some, Option.toList_none, List.cons_append, List.nil_append, tm_rf_some, tm_rf_none]
    by_cases hlt : many * pr + fs_sum sh a B C m < s.2.1
    · have e : fs_st sh m pr many a B C s = (many, many * pr + fs_sum sh a B C m, a, B, C) := by unfold fs_st; rw [if_pos (Or.inr hlt)]
      rw [e] at hK
      have hn : ¬ nI s.2.1 ≤ nI (many * pr + fs_sum sh a B C m) := fun y => by
        have := (nI_leI (by omega) (by omega)).mp y
        omega
      simp only [hn, if_false, r169_27, r169_28, r169_30, r169_33, r169_34, r169_36, r169_39, r169_40, r169_43, r169_44, r169_45, r169_46, r169_47, r169_50, r169_51, r169_52, r169_53, r169_54, r169_57, r169_58, r169_59, r169_60, sh_89 hS, sh_111 hS, rf_89_36 hR, ms_u37, ms_u38, ms_u111, show tm_in 0 3 by decide, show tm_in 1 3 by decide, show tm_in 2 3 by decide, ix0, ix1, ix2, show 3 ≤ 111 by decide, tm_in, or_true, true_or, tm_cs0, tm_cs1, tm_cs2, tm_cs3, tm_cs4, true_and, and_true, and_self, Option.toList_some, Option.toList_none, List.cons_append, List.nil_append, tm_rf_some, tm_rf_none]
      exact hK _ _ _ hset
    · have e : fs_st sh m pr many a B C s = s := by unfold fs_st; rw [if_neg (fun y => y.elim h0 hlt)]
      rw [e] at hK
      have hn : nI s.2.1 ≤ nI (many * pr + fs_sum sh a B C m) := (nI_leI (by omega) (by omega)).mpr (by omega)
      simp only [hn, if_true, r169_60]
      exact hK _ _ _ ⟨h1, h1', rfl, h3, h4⟩
end MFS
