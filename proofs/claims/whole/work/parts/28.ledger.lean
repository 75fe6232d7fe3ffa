/-! The ledger: what was told. -/
theorem tm_nw_eq (q : Nat × Nat) (n : Nat) (G : tm_G) (I : Nat → Nat → Int32) (J : Nat → Nat → Int64) (R : Nat → Nat → Option Nat) : tm_nw q n (G, I, J, R) = ((G.1 + 1, G.2.1 + n, upr G.2.2 G.1 q), upr I G.1 (fun _ => 0), upr J G.1 (fun _ => 0), upr R G.1 (fun _ => none)) := rfl
theorem i5_ : ¬ (5 : Int32) < 0 ∧ tm_ix 5 ≤ 100000 := by decide
theorem i3_ : ¬ (3 : Int32) < 0 ∧ tm_ix 3 ≤ 100000 := by decide
theorem ix5 : tm_ix 5 = 5 := rfl
section LED
variable {G : tm_G} {I : Nat → Nat → Int32} {J : Nat → Nat → Int64} {R : Nat → Nat → Option Nat}
theorem c0 (d a : Nat) (K : Option Value → tm_H → Prop) (ha : G.2.2 a = (0, 0)) (han : a < G.1) : tm_R (d + 1) 0 [.ref a] (G, I, J, R) K ↔ K none ((G.1 + 1 + 1, G.2.1 + 5 + 3, upr (upr G.2.2 G.1 (1, 5)) (G.1 + 1) (1, 3)), upr (upr (up2 (up2 I a 0 0) a 1 0) G.1 (fun _ => 0)) (G.1 + 1) (fun _ => 0), upr (upr J G.1 (fun _ => 0)) (G.1 + 1) (fun _ => 0), up2 (upr (up2 (upr R G.1 (fun _ => none)) a 2 (some G.1)) (G.1 + 1) (fun _ => none)) a 3 (some (G.1 + 1))) := by
  have n1 : a ≠ G.1 := by omega
  have n2 : a ≠ G.1 + 1 := by omega
  have e1 : upr G.2.2 G.1 (1, 5) a = (0, 0) := by rw [upr_ne n1]; exact ha
  have e2 : upr (upr G.2.2 G.1 (1, 5)) (G.1 + 1) (1, 3) a = (0, 0) := by rw [upr_ne n2]; exact e1
  rw [e0]
  simp only [r0_0, r0_1, r0_4, r0_5, r0_6, r0_9, r0_10, r0_11, r0_14, r0_15, r0_16, r0_18, r0_21, r0_22, r0_23, r0_25, r0_28, ha, tm_nw_eq, i5_, i3_, ix5, ix3, e1, e2, not_false_eq_true, show 5 ≤ 100000 by decide, show 3 ≤ 100000 by decide, tm_in, or_true, true_or, tm_cs0, tm_cs1, tm_cs2, tm_cs3, tm_cs4, true_and, and_true, and_self, Option.toList_some, Option.toList_none, List.cons_append, List.nil_append, tm_rf_some, tm_rf_none]
theorem c84 (d T f : Nat) (x y z : Int32) (K : Option Value → tm_H → Prop) (hT : G.2.2 T = (0, 8)) : tm_R (d + 1) 84 [.ref T, .int x, .int y, .int z, .ref f] (G, I, J, R) K ↔ K none (G, up2 (up2 (up2 I T 0 x) T 1 y) T 2 z, J, up2 R T 3 (some f)) := by
  rw [e84]
  simp only [r84_0, r84_1, r84_4, r84_5, r84_6, r84_9, r84_10, r84_11, r84_14, r84_15, r84_16, r84_19, r84_20, r84_20n, r84_22, r84_25, hT, tm_in, or_true, true_or, tm_cs0, tm_cs1, tm_cs2, tm_cs3, tm_cs4, true_and, and_true, and_self, Option.toList_some, Option.toList_none, List.cons_append, List.nil_append, tm_rf_some, tm_rf_none]
theorem c57 (d T : Nat) (K : Option Value → tm_H → Prop) (hS : tp_S G) (hR : tp_R R) (hT : G.2.2 T = (0, 8)) {n : Nat} (hn : I 9 2 = nI n) (hn70 : n < 70) : tm_R d 57 [.ref 9, .ref T] (G, I, J, R) K ↔ K none (G, up2 I 9 2 (nI (n + 1)), J, up2 R 10 n (some T)) := by
  have hc : ¬ (70 : Int32) ≤ nI n := fun q => by
    have := (q_le (a := 70) (b := n) rfl rfl (by decide) (by omega)).mp q
    omega
  have hin : tm_in (nI n) 70 := q_in hn70 (by decide)
  have h10 : 3 ≤ 10 := by decide
  rw [e57]
  simp only [r57_0, r57_1, r57_4, r57_6, r57_9, r57_10, r57_13, r57_14, r57_17, r57_17n, r57_18, r57_19, r57_20, r57_20i, r57_21, r57_24, r57_25, r57_26, r57_29, sh_9 hS, sh_10 hS, rf_9_0 hR, hn, hc, hin, hT, h10, q_ix (show n < 2147483648 by omega), if_false, nI_1, tm_in, or_true, true_or, tm_cs0, tm_cs1, tm_cs2, tm_cs3, tm_cs4, true_and, and_true, and_self, Option.toList_some, Option.toList_none, List.cons_append, List.nil_append, tm_rf_some, tm_rf_none]
theorem tp_S_grow {G' : tm_G} (hS : tp_S G) (h1 : G.1 ≤ G'.1) (h2 : ∀ a, a < G.1 → G'.2.2 a = G.2.2 a) : tp_S G' := ⟨Nat.le_trans hS.1 h1, fun a ha h0 => by rw [h2 a (Nat.lt_of_lt_of_le ha hS.1)]; exact hS.2 a ha h0⟩
theorem tp_R_keep {R' : Nat → Nat → Option Nat} (hR : tp_R R) (h : ∀ a k, a < 112 → a ≠ 10 → R' a k = R a k) : tp_R R' := fun q hq => by
  rw [h q.1 q.2.1 ((by decide : ∀ q ∈ tp_rl, q.1 < 112) q hq) ((by decide : ∀ q ∈ tp_rl, q.1 ≠ 10) q hq)]
  exact hR q hq
theorem c55 (d : Nat) (x y f : Int32) (K : Option Value → tm_H → Prop) (hS : tp_S G) (hR : tp_R R) {n : Nat} (hn : I 9 2 = nI n) (hn70 : n < 70) : tm_R (d + 2) 55 [.ref 9, .int x, .int y, .int f] (G, I, J, R) K ↔ K none ((G.1 + 1, G.2.1 + 4, upr G.2.2 G.1 (0, 8)), up2 (up2 (up2 (up2 (up2 (upr I G.1 (fun _ => 0)) G.1 0 x) G.1 1 y) G.1 2 ((1 : Int32) <<< (f &&& 31))) 9 2 (nI (n + 1))) 9 4 (I 9 4 + 1), upr J G.1 (fun _ => 0), up2 (up2 (upr R G.1 (fun _ => none)) G.1 3 (some 11)) 10 n (some G.1)) := by
  have hG := hS.1
  have n9 : 9 ≠ G.1 := by omega
  have s9 : upr G.2.2 G.1 (0, 8) 9 = (0, 5) := by rw [upr_ne n9]; exact sh_9 hS
  have sT : upr G.2.2 G.1 (0, 8) G.1 = (0, 8) := upr_at
  have rn : upr R G.1 (fun _ => none) 9 1 = some 11 := by rw [upr_ne n9]; exact rf_9_1 hR
  have hS2 : tp_S (G.1 + 1, G.2.1 + 4, upr G.2.2 G.1 (0, 8)) := tp_S_grow hS (Nat.le_succ _) (fun a ha => upr_ne (by omega))
  have hR2 : tp_R (up2 (upr R G.1 (fun _ => none)) G.1 3 (some 11)) := tp_R_keep hR (fun a k ha _ => by rw [up2_row (by omega), upr_ne (by omega)])
  have hI2 : (up2 (up2 (up2 (upr I G.1 (fun _ => 0)) G.1 0 x) G.1 1 y) G.1 2 ((1 : Int32) <<< (f &&& 31))) 9 2 = nI n := by rw [up2_row n9, up2_row n9, up2_row n9, upr_ne n9]; exact hn
  have hI4 : (up2 (up2 (up2 (up2 (upr I G.1 (fun _ => 0)) G.1 0 x) G.1 1 y) G.1 2 ((1 : Int32) <<< (f &&& 31))) 9 2 (nI (n + 1))) 9 4 = I 9 4 := by rw [up2_ne (by decide), up2_row n9, up2_row n9, up2_row n9, upr_ne n9]
  rw [e55]
  simp only [r55_0, r55_1, r55_4, r55_5, r55_6, r55_7, r55_8, r55_9, r55_10, r55_11, r55_14, tm_nw_eq, s9, rn, tm_in, or_true, true_or, tm_cs0, tm_cs1, tm_cs2, tm_cs3, tm_cs4, true_and, and_true, and_self, Option.toList_some, Option.toList_none, List.cons_append, List.nil_append, tm_rf_some, tm_rf_none]
  rw [c84 d G.1 11 x y _ _ sT]
  simp only [r55_17, s9, tm_in, or_true, true_or, tm_cs0, tm_cs1, tm_cs2, tm_cs3, tm_cs4, true_and, and_true, and_self, Option.toList_some, Option.toList_none, List.cons_append, List.nil_append, tm_rf_some, tm_rf_none]
  rw [c57 (d + 1) G.1 _ hS2 hR2 sT hI2 hn70]
  simp only [r55_20, r55_21, r55_21i, r55_22, r55_25, r55_26, r55_27, r55_30, s9, hI4, tm_in, or_true, true_or, tm_cs0, tm_cs1, tm_cs2, tm_cs3, tm_cs4, true_and, and_true, and_self, Option.toList_some, Option.toList_none, List.cons_append, List.nil_append, tm_rf_some, tm_rf_none]
/-- what a text leaves: its facts at n, n + 1, n + 2, its telling at n + 3 -/
def p_text (G G' : tm_G) (I I' : Nat → Nat → Int32) (J J' : Nat → Nat → Int64) (R R' : Nat → Nat → Option Nat) (x y : Int32) (c : Nat) : Prop :=
  G'.1 = G.1 + 4 ∧ G'.2.1 = G.2.1 + 16 ∧ (∀ b, b < G.1 → G'.2.2 b = G.2.2 b) ∧ G'.2.2 G.1 = (0, 0) ∧ G'.2.2 (G.1 + 1) = (1, 5) ∧ G'.2.2 (G.1 + 2) = (1, 3) ∧ G'.2.2 (G.1 + 3) = (0, 8)
  ∧ (∀ b k, b < G.1 → (b = 10 → k ≠ c) → R' b k = R b k) ∧ R' 10 c = some (G.1 + 3) ∧ R' G.1 2 = some (G.1 + 1) ∧ R' G.1 3 = some (G.1 + 2) ∧ R' (G.1 + 3) 3 = some G.1
  ∧ (∀ b k, b < G.1 → (b = 9 → k ≠ 2) → I' b k = I b k) ∧ I' 9 2 = nI (c + 1) ∧ I' G.1 0 = I 6 0 &&& 31 ∧ I' G.1 1 = I 6 1 ∧ (∀ k, k < 5 → I' (G.1 + 1) k = I 7 k) ∧ (∀ k, k < 3 → I' (G.1 + 2) k = I 8 k) ∧ I' (G.1 + 3) 0 = x ∧ I' (G.1 + 3) 1 = y ∧ I' (G.1 + 3) 2 = I 6 0 &&& 31
  ∧ ∀ b k, b < G.1 → J' b k = J b k
theorem p_bit31 : ∀ k, k < 5 → p_bitB 31 k = true := by decide
theorem and0_or (z : Int32) : ((0 : Int32) &&& (31 ^^^ -1)) ||| (z &&& 31) = z &&& 31 := by
  have : (0 : Int32) &&& (31 ^^^ -1) = 0 := by decide
  rw [this, Int32.zero_or]
theorem tp_F6 (hS : tp_S G) (hR : tp_R R) : tp_F G R 6 := ⟨by decide, sh_6 hS, sh_7 hS, sh_8 hS, rf_6_2 hR, rf_6_3 hR⟩
theorem c56 (d : Nat) (x y : Int32) (K : Option Value → tm_H → Prop) (hS : tp_S G) (hR : tp_R R) {c : Nat} (hn : I 9 2 = nI c) (hn70 : c < 70) (hK : ∀ G' I' J' R', p_text G G' I I' J J' R R' x y c → K none (G', I', J', R')) : tm_R (d + 3) 56 [.ref 9, .int x, .int y, .ref 6] (G, I, J, R) K := by
  have hG := hS.1
  obtain ⟨n, m, S⟩ := G
  have hn112 : 112 ≤ n := hG
  rw [e56]
  simp only [r56_0, r56_3, r56_4, tm_nw_eq, tm_in, or_true, true_or, tm_cs0, tm_cs1, tm_cs2, tm_cs3, tm_cs4, true_and, and_true, and_self, Option.toList_some, Option.toList_none, List.cons_append, List.nil_append, tm_rf_some, tm_rf_none]
  rw [c0 (G := (n + 1, m + 4, upr S n (0, 0))) (d + 1) n _ upr_at (Nat.lt_succ_self n)]
  simp only [r56_7, r56_9, r56_11, r56_12, r56_14, tm_in, or_true, true_or, tm_cs0, tm_cs1, tm_cs2, tm_cs3, tm_cs4, true_and, and_true, and_self, Option.toList_some, Option.toList_none, List.cons_append, List.nil_append, tm_rf_some, tm_rf_none]
  generalize hI1 : upr (upr (up2 (up2 (upr I n fun _ => 0) n 0 0) n 1 0) (n + 1) fun _ => 0) (n + 1 + 1) (fun _ => 0) = I1
  generalize hJ1 : upr (upr (upr J n fun _ => 0) (n + 1) fun _ => 0) (n + 1 + 1) (fun _ => 0) = J1
  generalize hR1 : up2 (upr (up2 (upr (upr R n fun _ => none) (n + 1) fun _ => none) n 2 (some (n + 1))) (n + 1 + 1) fun _ => none) n 3 (some (n + 1 + 1)) = R1
  generalize hS1 : upr (upr (upr S n (0, 0)) (n + 1) (1, 5)) (n + 1 + 1) (1, 3) = S1
  have sold : ∀ b, b < n → S1 b = S b := fun b hb => by rw [← hS1, upr_ne (by omega), upr_ne (by omega), upr_ne (by omega)]
  have rold : ∀ b k, b < n → R1 b k = R b k := fun b k hb => by rw [← hR1, up2_row (by omega), upr_ne (by omega), up2_row (by omega), upr_ne (by omega), upr_ne (by omega)]
  have iold : ∀ b k, b < n → I1 b k = I b k := fun b k hb => by rw [← hI1, upr_ne (by omega), upr_ne (by omega), up2_row (by omega), up2_row (by omega), upr_ne (by omega)]
  have jold : ∀ b k, b < n → J1 b k = J b k := fun b k hb => by rw [← hJ1, upr_ne (by omega), upr_ne (by omega), upr_ne (by omega)]
  have hSn : tp_S (n + 1 + 1 + 1, m + 4 + 5 + 3, S1) := tp_S_grow hS (by show n ≤ n + 1 + 1 + 1; omega) sold
  have hRn : tp_R R1 := tp_R_keep hR (fun a k ha _ => rold a k (by omega))
  have sN : S1 n = (0, 0) := by rw [← hS1, upr_ne (by omega), upr_ne (by omega), upr_at]
  have sN1 : S1 (n + 1) = (1, 5) := by rw [← hS1, upr_ne (by omega), upr_at]
  have sN2 : S1 (n + 2) = (1, 3) := by rw [← hS1]; exact upr_at
  have rN2 : R1 n 2 = some (n + 1) := by rw [← hR1, up2_ne (by decide), upr_ne (by omega), up2_at]
  have rN3 : R1 n 3 = some (n + 2) := by rw [← hR1]; exact up2_at
  have hFn : tp_F (n + 1 + 1 + 1, m + 4 + 5 + 3, S1) R1 n := ⟨by omega, sN, sN1, sN2, rN2, rN3⟩
  simp only [sN, tm_in, or_true, true_or, tm_cs0, tm_cs1, tm_cs2, tm_cs3, tm_cs4, true_and, and_true, and_self, Option.toList_some, Option.toList_none, List.cons_append, List.nil_append, tm_rf_some, tm_rf_none]
  rw [c12 (G := (n + 1 + 1 + 1, m + 4 + 5 + 3, S1)) (d + 1) 31 _ hFn (tp_F6 hSn hRn) (by omega)]
  have i0 : ∀ k, I1 n k = 0 := fun k => by
    rw [← hI1, upr_ne (by omega), upr_ne (by omega)]
    by_cases h1 : k = 1
    · subst h1; exact up2_at
    · rw [up2_ne h1]
      by_cases h0 : k = 0
      · subst h0; exact up2_at
      · rw [up2_ne h0, upr_at]
  generalize hI2 : p_take I1 n 6 31 = I2
  have i2old : ∀ b k, b < n → I2 b k = I b k := fun b k hb => by
    rw [← hI2]
    unfold p_take
    rw [if_neg (by omega), if_neg (by omega), if_neg (by omega)]
    exact iold b k hb
  have i2n0 : I2 n 0 = I 6 0 &&& 31 := by
    rw [← hI2]
    unfold p_take
    rw [if_pos rfl, if_pos rfl, i0, iold 6 0 (by omega), and0_or]
  have i2n1 : I2 n 1 = I 6 1 := by
    rw [← hI2]
    unfold p_take
    rw [if_pos rfl, if_neg (by decide), if_pos ⟨rfl, p_bit31 2 (by decide)⟩, iold 6 1 (by omega)]
  have i2v : ∀ k, k < 5 → I2 (n + 1) k = I 7 k := fun k hk => by
    rw [← hI2]
    unfold p_take
    rw [if_neg (by omega), if_pos rfl, if_pos ⟨hk, p_bit31 k hk⟩, iold 7 k (by omega)]
  have i2w : ∀ k, k < 3 → I2 (n + 2) k = I 8 k := fun k hk => by
    rw [← hI2]
    unfold p_take
    rw [if_neg (by omega), if_neg (by omega), if_pos rfl, if_pos ⟨hk, p_bit31 3 (by decide)⟩, iold 8 k (by omega)]
  have sU : upr S1 (n + 1 + 1 + 1) (0, 8) n = (0, 0) := by rw [upr_ne (by omega)]; exact sN
  have sT : upr S1 (n + 1 + 1 + 1) (0, 8) (n + 1 + 1 + 1) = (0, 8) := upr_at
  have s9 : upr S1 (n + 1 + 1 + 1) (0, 8) 9 = (0, 5) := by rw [upr_ne (by omega), sold 9 (by omega)]; exact sh_9 hS
  simp only [r56_17, r56_18, r56_21, r56_22, r56_23, r56_24, r56_26, tm_nw_eq, sU, tm_in, or_true, true_or, tm_cs0, tm_cs1, tm_cs2, tm_cs3, tm_cs4, true_and, and_true, and_self, Option.toList_some, Option.toList_none, List.cons_append, List.nil_append, tm_rf_some, tm_rf_none]
  have hFu : tp_F (n + 1 + 1 + 1 + 1, m + 4 + 5 + 3 + 4, upr S1 (n + 1 + 1 + 1) (0, 8)) (upr R1 (n + 1 + 1 + 1) fun _ => none) n :=
    ⟨by omega, sU, by show upr S1 (n + 1 + 1 + 1) (0, 8) (n + 1) = (1, 5); rw [upr_ne (by omega)]; exact sN1, by show upr S1 (n + 1 + 1 + 1) (0, 8) (n + 2) = (1, 3); rw [upr_ne (by omega)]; exact sN2, by rw [upr_ne (by omega)]; exact rN2, by rw [upr_ne (by omega)]; exact rN3⟩
  rw [c2 (d + 2) _ hFu]
  simp only [r56_29, r56_31, tm_in, or_true, true_or, tm_cs0, tm_cs1, tm_cs2, tm_cs3, tm_cs4, true_and, and_true, and_self, Option.toList_some, Option.toList_none, List.cons_append, List.nil_append, tm_rf_some, tm_rf_none]
  rw [c84 (G := (n + 1 + 1 + 1 + 1, m + 4 + 5 + 3 + 4, upr S1 (n + 1 + 1 + 1) (0, 8))) (d + 1) (n + 1 + 1 + 1) n x y _ _ sT]
  simp only [r56_34, s9, tm_in, or_true, true_or, tm_cs0, tm_cs1, tm_cs2, tm_cs3, tm_cs4, true_and, and_true, and_self, Option.toList_some, Option.toList_none, List.cons_append, List.nil_append, tm_rf_some, tm_rf_none]
  have hSu : tp_S (n + 1 + 1 + 1 + 1, m + 4 + 5 + 3 + 4, upr S1 (n + 1 + 1 + 1) (0, 8)) := tp_S_grow hSn (Nat.le_succ _) (fun a ha => upr_ne (Nat.ne_of_lt ha))
  have hRu : tp_R (up2 (upr R1 (n + 1 + 1 + 1) fun _ => none) (n + 1 + 1 + 1) 3 (some n)) := tp_R_keep hRn (fun a k ha _ => by rw [up2_row (by omega), upr_ne (by omega)])
  have i9 : ∀ (u1 u2 u3 : Int32), (up2 (up2 (up2 (upr I2 (n + 1 + 1 + 1) fun _ => 0) (n + 1 + 1 + 1) 0 u1) (n + 1 + 1 + 1) 1 u2) (n + 1 + 1 + 1) 2 u3) 9 2 = nI c := fun u1 u2 u3 => by rw [up2_row (by omega), up2_row (by omega), up2_row (by omega), upr_ne (by omega), i2old 9 2 (by omega)]; exact hn
  rw [c57 (G := (n + 1 + 1 + 1 + 1, m + 4 + 5 + 3 + 4, upr S1 (n + 1 + 1 + 1) (0, 8))) (d + 2) (n + 1 + 1 + 1) _ hSu hRu sT (i9 _ _ _) hn70]
  simp only [r56_37, tm_in, or_true, true_or, tm_cs0, tm_cs1, tm_cs2, tm_cs3, tm_cs4, true_and, and_true, and_self, Option.toList_some, Option.toList_none, List.cons_append, List.nil_append, tm_rf_some, tm_rf_none]
  have e20 : upr I2 (n + 1 + 1 + 1) (fun _ => 0) n 0 = I 6 0 &&& 31 := by rw [upr_ne (by omega)]; exact i2n0
  refine ⟨by simp [tm_cs, Value.category], hK _ _ _ _ ⟨rfl, rfl, fun b hb => ?_, sU, hFu.2.2.1, hFu.2.2.2.1, sT, fun b k hb h10 => ?_, up2_at, ?_, ?_, ?_, fun b k hb h9 => ?_, up2_at, ?_, ?_, fun k hk => ?_, fun k hk => ?_, ?_, ?_, ?_, fun b k hb => ?_⟩⟩
  · have hb' : b < n := hb
    show upr S1 (n + 1 + 1 + 1) (0, 8) b = S b
    rw [upr_ne (by omega), sold b hb']
  · have hb' : b < n := hb
    by_cases hb10 : b = 10
    · subst hb10
      rw [up2_ne (h10 rfl), up2_row (by omega), upr_ne (by omega), rold 10 k (by omega)]
    · rw [up2_row hb10, up2_row (by omega), upr_ne (by omega), rold b k hb']
  · show up2 (up2 (upr R1 (n + 1 + 1 + 1) fun _ => none) (n + 1 + 1 + 1) 3 (some n)) 10 c (some (n + 1 + 1 + 1)) n 2 = some (n + 1)
    rw [up2_row (by omega), up2_row (by omega), upr_ne (by omega)]; exact rN2
  · show up2 (up2 (upr R1 (n + 1 + 1 + 1) fun _ => none) (n + 1 + 1 + 1) 3 (some n)) 10 c (some (n + 1 + 1 + 1)) n 3 = some (n + 2)
    rw [up2_row (by omega), up2_row (by omega), upr_ne (by omega)]; exact rN3
  · show up2 (up2 (upr R1 (n + 1 + 1 + 1) fun _ => none) (n + 1 + 1 + 1) 3 (some n)) 10 c (some (n + 1 + 1 + 1)) (n + 1 + 1 + 1) 3 = some n
    rw [up2_row (by omega), up2_at]
  · have hb' : b < n := hb
    by_cases hb9 : b = 9
    · subst hb9
      rw [up2_ne (h9 rfl), up2_row (by omega), up2_row (by omega), up2_row (by omega), upr_ne (by omega), i2old 9 k (by omega)]
    · rw [up2_row hb9, up2_row (by omega), up2_row (by omega), up2_row (by omega), upr_ne (by omega), i2old b k hb']
  · show up2 (up2 (up2 (up2 (upr I2 (n + 1 + 1 + 1) fun _ => 0) (n + 1 + 1 + 1) 0 x) (n + 1 + 1 + 1) 1 y) (n + 1 + 1 + 1) 2 _) 9 2 _ n 0 = _
    rw [up2_row (by omega), up2_row (by omega), up2_row (by omega), up2_row (by omega), upr_ne (by omega)]; exact i2n0
  · show up2 (up2 (up2 (up2 (upr I2 (n + 1 + 1 + 1) fun _ => 0) (n + 1 + 1 + 1) 0 x) (n + 1 + 1 + 1) 1 y) (n + 1 + 1 + 1) 2 _) 9 2 _ n 1 = _
    rw [up2_row (by omega), up2_row (by omega), up2_row (by omega), up2_row (by omega), upr_ne (by omega)]; exact i2n1
  · show up2 (up2 (up2 (up2 (upr I2 (n + 1 + 1 + 1) fun _ => 0) (n + 1 + 1 + 1) 0 x) (n + 1 + 1 + 1) 1 y) (n + 1 + 1 + 1) 2 _) 9 2 _ (n + 1) k = _
    rw [up2_row (by omega), up2_row (by omega), up2_row (by omega), up2_row (by omega), upr_ne (by omega)]; exact i2v k hk
  · show up2 (up2 (up2 (up2 (upr I2 (n + 1 + 1 + 1) fun _ => 0) (n + 1 + 1 + 1) 0 x) (n + 1 + 1 + 1) 1 y) (n + 1 + 1 + 1) 2 _) 9 2 _ (n + 2) k = _
    rw [up2_row (by omega), up2_row (by omega), up2_row (by omega), up2_row (by omega), upr_ne (by omega)]; exact i2w k hk
  · show up2 (up2 (up2 (up2 (upr I2 (n + 1 + 1 + 1) fun _ => 0) (n + 1 + 1 + 1) 0 x) (n + 1 + 1 + 1) 1 y) (n + 1 + 1 + 1) 2 _) 9 2 _ (n + 1 + 1 + 1) 0 = _
    rw [up2_row (by omega), up2_ne (by decide), up2_ne (by decide), up2_at]
  · show up2 (up2 (up2 (up2 (upr I2 (n + 1 + 1 + 1) fun _ => 0) (n + 1 + 1 + 1) 0 x) (n + 1 + 1 + 1) 1 y) (n + 1 + 1 + 1) 2 _) 9 2 _ (n + 1 + 1 + 1) 1 = _
    rw [up2_row (by omega), up2_ne (by decide), up2_at]
  · show up2 (up2 (up2 (up2 (upr I2 (n + 1 + 1 + 1) fun _ => 0) (n + 1 + 1 + 1) 0 x) (n + 1 + 1 + 1) 1 y) (n + 1 + 1 + 1) 2 _) 9 2 _ (n + 1 + 1 + 1) 2 = _
    rw [up2_row (by omega), up2_at]; exact e20
  · have hb' : b < n := hb
    show upr J1 (n + 1 + 1 + 1) (fun _ => 0) b k = J b k
    rw [upr_ne (by omega), jold b k hb']
end LED
