/-! What working cells hold matters to nothing. -/
def scr (b k : Nat) : Prop := (b = 89 ∧ 7 ≤ k ∧ k ≠ 14) ∨ (91 ≤ b ∧ b ≤ 93) ∨ b = 104 ∨ b = 105 ∨ (107 ≤ b ∧ b < 112) ∨ (b = 4 ∧ k = 2) ∨ (6 ≤ b ∧ b ≤ 8) ∨ (60 ≤ b ∧ b ≤ 70) ∨ (78 ≤ b ∧ b ≤ 87)
theorem scr_no {b : Nat} (h : b < 4 ∨ b = 5 ∨ (9 ≤ b ∧ b < 60) ∨ (71 ≤ b ∧ b ≤ 77) ∨ b = 88 ∨ b = 90 ∨ (94 ≤ b ∧ b ≤ 103) ∨ b = 106 ∨ 112 ≤ b) (k : Nat) : ¬ scr b k := by
  unfold scr
  omega
theorem p_rf_congr {I I' : Nat → Nat → Int32} (h : ∀ b, 94 ≤ b → b ≤ 97 → I' b = I b) (r f q : Int32) : ∀ c, p_rf I' r f q c = p_rf I r f q c
  | 0 => rfl
  | c + 1 => by
    rw [p_rf, p_rf, h 94 (by decide) (by decide), h 95 (by decide) (by decide), h 96 (by decide) (by decide), h 97 (by decide) (by decide), p_rf_congr h r f q c]
theorem p_ho_congr {I I' : Nat → Nat → Int32} (h : ∀ i, i < 10 → I' (16 + 3 * i + 2) = I (16 + 3 * i + 2)) (cn : Nat → Nat) (nm : Int32) : ∀ n i, i + n ≤ 10 → p_ho I' cn nm i n = p_ho I cn nm i n
  | 0, _, _ => rfl
  | n + 1, i, hi => by
    rw [p_ho, p_ho, h i (by omega), p_ho_congr h cn nm n (i + 1) (by omega)]
theorem p_pc_congr {I I' : Nat → Nat → Int32} (h : ∀ b, 16 ≤ b → b ≤ 57 → I' b = I b) (cn : Nat → Nat) {m r s : Nat} (hm : m ≤ 10) (hr : r < 10) (hs : s < 10) : p_pc I' cn m r s = p_pc I cn m r s := by
  have a1 := h (16 + 3 * r) (by omega) (by omega)
  have a2 := h (16 + 3 * r + 1) (by omega) (by omega)
  have a3 := h (16 + 3 * r + 2) (by omega) (by omega)
  have b1 := h (16 + 3 * s) (by omega) (by omega)
  have b2 := h (16 + 3 * s + 1) (by omega) (by omega)
  have b3 := h (16 + 3 * s + 2) (by omega) (by omega)
  have c1 := h (48 + 1 * r) (by omega) (by omega)
  have hg : p_gain I' cn m r s = p_gain I cn m r s := by
    unfold p_gain
    rw [a3, b3]
    have : (fun z => p_ho I' cn z 0 m) = (fun z => p_ho I cn z 0 m) := funext (fun z => p_ho_congr (fun i hi => h _ (by omega) (by omega)) cn z m 0 (by omega))
    rw [this]
  unfold p_pc
  rw [hg, c1]
  unfold p_da p_dif p_np
  rw [a1, a2, b1, b2]
section SCR
variable {G : tm_G} {I I' : Nat → Nat → Int32} {J : Nat → Nat → Int64} {R : Nat → Nat → Option Nat} {nw rp ch n oc pr : Nat} {tl fa ro dy rd : Nat → Nat}
theorem p_ho_cn {cn cn' : Nat → Nat} (h : ∀ r, r < 10 → cn' r = cn r) (z : Int32) : ∀ n i, i + n ≤ 10 → p_ho I cn' z i n = p_ho I cn z i n
  | 0, _, _ => rfl
  | n + 1, i, hi => by rw [p_ho, p_ho, h i (by omega), p_ho_cn h z n (i + 1) (by omega)]
theorem p_gain_cn {cn cn' : Nat → Nat} (h : ∀ r, r < 10 → cn' r = cn r) {m r s : Nat} (hm : m ≤ 10) (hr : r < 10) (hs : s < 10) : p_gain I cn' m r s = p_gain I cn m r s := by
  unfold p_gain
  rw [h r hr, h s hs]
  have : (fun z => p_ho I cn' z 0 m) = (fun z => p_ho I cn z 0 m) := funext (fun z => p_ho_cn h z m 0 (by omega))
  rw [this]
theorem p_pc_cn {cn cn' : Nat → Nat} (h : ∀ r, r < 10 → cn' r = cn r) {m r s : Nat} (hm : m ≤ 10) (hr : r < 10) (hs : s < 10) : p_pc I cn' m r s = p_pc I cn m r s := by
  unfold p_pc
  rw [p_gain_cn h hm hr hs]
theorem ck_congr_n (h : ∀ b, 16 ≤ b → b ≤ 57 → I' b = I b) (r : Nat) (hr : r < 10) : ck_n I' r = ck_n I r := by
  have := h (16 + 3 * r + 1) (by omega) (by omega)
  unfold ck_n
  rw [this]
theorem ck_congr_s (h : ∀ b, 16 ≤ b → b ≤ 45 → I' b = I b) (r : Nat) (hr : r < 10) : ck_s I' r = ck_s I r := by
  have := h (16 + 3 * r) (by omega) (by omega)
  unfold ck_s
  rw [this]
theorem ck_congr_C (h : ∀ b, 16 ≤ b → b ≤ 57 → I' b = I b) {m : Nat} (hm : m ≤ 10) : ck_C I' m = ck_C I m := by
  funext r s
  unfold ck_C
  by_cases g : r < m ∧ s < m
  · rw [if_pos g, if_pos g, p_pc_congr h _ hm (by omega) (by omega), p_pc_cn (ck_congr_n h) hm (by omega) (by omega)]
  · rw [if_neg g, if_neg g]
theorem ck_congr_T (h : ∀ b, 16 ≤ b → b ≤ 57 → I' b = I b) : ck_T I' = ck_T I := by
  funext r s
  apply propext
  constructor
  · rintro ⟨a, b, c⟩
    have := h (48 + 1 * r) (by omega) (by omega)
    exact ⟨a, b, by rw [← this]; exact c⟩
  · rintro ⟨a, b, c⟩
    have := h (48 + 1 * r) (by omega) (by omega)
    exact ⟨a, b, by rw [this]; exact c⟩
theorem ck_congr (h : ∀ b, 16 ≤ b → b ≤ 57 → I' b = I b) {m : Nat} (hm : m ≤ 10) : ck_C I' m = ck_C I m ∧ ck_T I' = ck_T I ∧ (∀ r, r < 10 → ck_n I' r = ck_n I r) ∧ (∀ r, r < 10 → ck_s I' r = ck_s I r) := ⟨ck_congr_C h hm, ck_congr_T h, ck_congr_n h, ck_congr_s (fun b h1 h2 => h b h1 (by omega))⟩
theorem fs_sum_congr {sh sh' : Nat → Nat} (a b c : Nat) : ∀ m, (∀ r, r < m → sh' r = sh r) → fs_sum sh' a b c m = fs_sum sh a b c m
  | 0, _ => rfl
  | m + 1, h => by rw [fs_sum, fs_sum, fs_sum_congr a b c m (fun r hr => h r (by omega)), h m (by omega)]
theorem fs_all_congr {sh sh' : Nat → Nat} {m : Nat} (pr : Nat) (h : ∀ r, r < m → sh' r = sh r) : fs_all sh' m pr = fs_all sh m pr := by
  have e0 : ∀ a b c, fs_sum sh' a b c m = fs_sum sh a b c m := fun a b c => fs_sum_congr a b c m h
  have e1 : fs_st sh' m pr = fs_st sh m pr := by
    funext many a b c s
    unfold fs_st
    rw [e0]
  have e2 : ∀ k a s, fs_1 sh' m pr k a s = fs_1 sh m pr k a s := by
    intro k
    induction k with
    | zero => intro a s; rfl
    | succ k ih => intro a s; rw [fs_1, fs_1, ih, e1]
  have e3 : ∀ a k b s, fs_2b sh' m pr a k b s = fs_2b sh m pr a k b s := by
    intro a k
    induction k with
    | zero => intro b s; rfl
    | succ k ih => intro b s; rw [fs_2b, fs_2b, ih, e1]
  have e4 : ∀ k a s, fs_2 sh' m pr k a s = fs_2 sh m pr k a s := by
    intro k
    induction k with
    | zero => intro a s; rfl
    | succ k ih => intro a s; rw [fs_2, fs_2, ih, e3]
  have e5 : ∀ a b k c s, fs_3c sh' m pr a b k c s = fs_3c sh m pr a b k c s := by
    intro a b k
    induction k with
    | zero => intro c s; rfl
    | succ k ih => intro c s; rw [fs_3c, fs_3c, ih, e1]
  have e6 : ∀ a k b s, fs_3b sh' m pr a k b s = fs_3b sh m pr a k b s := by
    intro a k
    induction k with
    | zero => intro b s; rfl
    | succ k ih => intro b s; rw [fs_3b, fs_3b, ih, e5]
  have e7 : ∀ k a s, fs_3 sh' m pr k a s = fs_3 sh m pr k a s := by
    intro k
    induction k with
    | zero => intro a s; rfl
    | succ k ih => intro a s; rw [fs_3, fs_3, ih, e6]
  unfold fs_all
  rw [e2, e4, e7]
theorem iv_gr_congr {J' : Nat → Nat → Int64} (h : ∀ b, 16 ≤ b → b ≤ 57 → I' b = I b) (h71 : I' 71 = I 71) (h75 : I' 75 = I 75) (hJ : J' 71 4 = J 71 4) {m : Nat} (hm : m ≤ 10) (hg : iv_gr I J m oc) : iv_gr I' J' m oc := by
  obtain ⟨c1, c2, -, -⟩ := ck_congr h hm
  unfold iv_gr at hg ⊢
  rw [c1, c2, h71, h75, hJ]
  exact hg
theorem iv_fs_congr (h : ∀ b, 16 ≤ b → b ≤ 45 → I' b = I b) (h76 : I' 76 = I 76) (h88 : I' 88 = I 88) {m : Nat} (hm : m ≤ 10) (hg : iv_fs I m pr) : iv_fs I' m pr := by
  unfold iv_fs at hg ⊢
  rw [fs_all_congr pr (fun r hr => ck_congr_s h r (by omega)), h76, h88]
  exact hg
theorem iv_kn_congr {c q m : Nat} (h : ∀ b, 14 ≤ b → b ≤ 45 → I' b = I b) (h2 : ∀ b, 94 ≤ b → b ≤ 97 → I' b = I b) (h3 : ∀ j, j < c → I' (fa j) = I (fa j) ∧ I' (fa j + 1) = I (fa j + 1) ∧ I' (fa j + 2) = I (fa j + 2)) (hk : iv_kn I rp c fa rd q m) : iv_kn I' rp c fa rd q m := by
  obtain ⟨k1, k2, k3, k4, k5⟩ := hk
  refine ⟨k1, k2, by rw [h 14 (by decide) (by decide)]; exact k3, fun r f hr hf => ?_, fun r k hr a b => by rw [h (16 + 3 * r) (by omega) (by omega)]; exact k5 r k hr a b⟩
  have a1 := h (16 + 3 * r) (by omega) (by omega)
  have a2 := h (16 + 3 * r + 1) (by omega) (by omega)
  have a3 := h (16 + 3 * r + 2) (by omega) (by omega)
  rw [p_rf_congr h2]
  unfold iv_fact
  rw [a1, a2, a3]
  rcases k4 r f hr hf with z | ⟨j, z1, z2, z3, z4, z5, z6, z7⟩
  · exact Or.inl z
  · obtain ⟨f1, f2, f3⟩ := h3 j z1
    refine Or.inr ⟨j, z1, z2, by rw [h2 96 (by decide) (by decide)]; exact z3, z4, by rw [f2]; exact z5, fun e => by rw [f1]; exact z6 e, fun e => by rw [f3]; exact z7 e⟩
theorem iv_rows_congr {c : Nat} (h : ∀ b, 94 ≤ b → b ≤ 102 → I' b = I b) (h2 : I' 11 = I 11) (h3 : I' 12 = I 12) (h13 : I' 13 = I 13) (h4 : ∀ b, 112 ≤ b → I' b = I b) (hr : iv_rows G I R c tl fa) : iv_rows G I' R c tl fa := by
  obtain ⟨r1, r2, r3, r4, r5⟩ := hr
  refine ⟨r1, r2, fun j hj => ?_, by rw [h2]; exact r4, by rw [h3]; exact r5⟩
  have z := r3 j hj
  obtain ⟨-, -, t3, -, -, t6⟩ := r1 j hj
  have e1 := h4 (tl j) t3
  have f1 : I' (fa j) = I (fa j) := t6.elim (fun e => by rw [e]; exact h2) (fun e => h4 _ e)
  have f2 : I' (fa j + 1) = I (fa j + 1) := t6.elim (fun e => by rw [e]; exact h3) (fun e => h4 _ (by omega))
  have f3 : I' (fa j + 2) = I (fa j + 2) := t6.elim (fun e => by rw [e]; exact h13) (fun e => h4 _ (by omega))
  unfold iv_row iv_D iv_M at z ⊢
  rw [e1, f1, f2, f3, h 94 (by decide) (by decide), h 95 (by decide) (by decide), h 96 (by decide) (by decide), h 97 (by decide) (by decide), h 98 (by decide) (by decide), h 99 (by decide) (by decide), h 100 (by decide) (by decide), h 101 (by decide) (by decide), h 102 (by decide) (by decide)]
  exact z
theorem iv_scr (hi : iv_p G I J R nw rp ch n oc pr tl fa ro dy rd) {J' : Nat → Nat → Int64} (e : ∀ b k, ¬ scr b k → I' b k = I b k) (hJ : J' 71 4 = J 71 4) : iv_p G I' J' R nw rp ch n oc pr tl fa ro dy rd := by
  have er : ∀ b, (b < 4 ∨ b = 5 ∨ (9 ≤ b ∧ b < 60) ∨ (71 ≤ b ∧ b ≤ 77) ∨ b = 88 ∨ b = 90 ∨ (94 ≤ b ∧ b ≤ 103) ∨ b = 106 ∨ 112 ≤ b) → I' b = I b := fun b h => by
    funext k
    exact e b k (scr_no h k)
  have e8 : ∀ k, k < 7 ∨ k = 14 → I' 89 k = I 89 k := fun k h => e 89 k (by unfold scr; omega)
  have e4 : I' 4 1 = I 4 1 := e 4 1 (by unfold scr; omega)
  obtain ⟨⟨b1, b2, b3, b4, b5, b6, b7, b8, b9, b10⟩, hc⟩ := hi
  have fe : ∀ j, j < rp + ch → I' (fa j) = I (fa j) ∧ I' (fa j + 1) = I (fa j + 1) ∧ I' (fa j + 2) = I (fa j + 2) := fun j hj => by
    obtain ⟨-, -, -, -, -, t6⟩ := b7.1 j hj
    exact ⟨er _ (by omega), er _ (by omega), er _ (by omega)⟩
  refine ⟨⟨b1, b2, ?_, ?_, ?_, ?_, ?_, ?_, ?_, b10⟩, ?_⟩
  · unfold tp_C
    rw [er 1 (by omega), er 2 (by omega)]
    exact b3
  · unfold iv_sc
    rw [er 3 (by omega), er 9 (by omega), e4, e8 0 (by omega), e8 1 (by omega), e8 2 (by omega), e8 3 (by omega), e8 4 (by omega), e8 6 (by omega), e8 14 (by omega)]
    exact b4
  · unfold iv_tp
    rw [er 5 (by omega), er 90 (by omega)]
    exact b5
  · intro a b ha hb
    rw [er (48 + 1 * a) (by omega), er 106 (by omega)]
    exact b6 a b ha hb
  · exact iv_rows_congr (fun b h1 h2 => er b (by omega)) (er 11 (by omega)) (er 12 (by omega)) (er 13 (by omega)) (fun b h => er b (by omega)) b7
  · unfold iv_days
    rw [er 94 (by omega), er 95 (by omega), er 103 (by omega)]
    exact b8
  · unfold iv_low
    rw [er 74 (by omega)]
    exact b9
  · rw [er 3 (by omega)]
    rcases hc with z | ⟨q, m, hq, z1, z2, z3, z4⟩
    · exact Or.inl z
    · have hm : m ≤ 10 := Nat.le_trans z2.1 b4.2.1.2.2
      refine Or.inr ⟨q, m, hq, by rw [er 3 (by omega)]; exact z1, iv_kn_congr (fun b h1 h2 => er b (by omega)) (fun b h1 h2 => er b (by omega)) fe z2, ?_, ?_⟩
      · rw [er 3 (by omega)]
        exact z3.imp id (fun y => ⟨y.1, iv_gr_congr (fun b h1 h2 => er b (by omega)) (er 71 (by omega)) (er 75 (by omega)) hJ hm y.2⟩)
      · rw [er 3 (by omega)]
        exact z4.imp id (fun y => ⟨y.1, iv_fs_congr (fun b h1 h2 => er b (by omega)) (er 76 (by omega)) (er 88 (by omega)) hm y.2⟩)
end SCR
