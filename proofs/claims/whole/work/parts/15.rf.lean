set_option maxRecDepth 20000 in
theorem o175_0 : tm_op 175 0 = some (.new 7, (0, 9, 13, 0)) := rfl
theorem r175_0 (d : Nat) (ls : tm_Lo) (st : List Value) (G : tm_G) (I : Nat → Nat → Int32) (J : Nat → Nat → Int64) (R : Nat → Nat → Option Nat) (K : Option Value → tm_H → Prop) : tm_A d 175 0 ls st (G, I, J, R) K ↔ tm_A d 175 3 ls (.ref G.1 :: st) (tm_nw (0, 9) 13 (G, I, J, R)) K := tm_s o175_0 rfl rfl rfl
set_option maxRecDepth 20000 in
theorem o175_3 : tm_op 175 3 = some (.dup, (0, 0, 0, 0)) := rfl
theorem r175_3 (d : Nat) (v : Nat) (ls : tm_Lo) (st : List Value) (h : tm_H) (K : Option Value → tm_H → Prop) : tm_A d 175 3 ls (.ref v :: st) h K ↔ tm_A d 175 4 ls (.ref v :: .ref v :: st) h K := tm_s o175_3 rfl rfl rfl
theorem r175_3i (d : Nat) (v : Int32) (ls : tm_Lo) (st : List Value) (h : tm_H) (K : Option Value → tm_H → Prop) : tm_A d 175 3 ls (.int v :: st) h K ↔ tm_A d 175 4 ls (.int v :: .int v :: st) h K := tm_s o175_3 rfl rfl rfl
set_option maxRecDepth 20000 in
theorem o175_4 : tm_op 175 4 = some (.invokespecial 9, (3, 85, 1, 0)) := rfl
theorem r175_4 (d : Nat) (a : Nat) (ls : tm_Lo) (st : List Value) (h : tm_H) (K : Option Value → tm_H → Prop) : tm_A (d + 1) 175 4 ls (.ref a :: st) h K ↔ tm_cs st ∧ tm_R d 85 [.ref a] h (fun r h' => tm_A (d + 1) 175 7 ls (r.toList ++ st) h' K) := tm_callI (as := []) o175_4 rfl rfl rfl rfl
set_option maxRecDepth 20000 in
theorem o175_7 : tm_op 175 7 = some (.astore_n 1, (0, 0, 0, 0)) := rfl
theorem r175_7 (d : Nat) (v : Nat) (l0 l1 l2 l3 : Option Value) (st : List Value) (h : tm_H) (K : Option Value → tm_H → Prop) : tm_A d 175 7 [l0, l1, l2, l3] (.ref v :: st) h K ↔ tm_A d 175 8 [l0, some (.ref v), l2, l3] st h K := tm_s o175_7 rfl rfl rfl
theorem r175_7n (d : Nat)  (l0 l1 l2 l3 : Option Value) (st : List Value) (h : tm_H) (K : Option Value → tm_H → Prop) : tm_A d 175 7 [l0, l1, l2, l3] (.null :: st) h K ↔ tm_A d 175 8 [l0, some .null, l2, l3] st h K := tm_s o175_7 rfl rfl rfl
set_option maxRecDepth 20000 in
theorem o175_8 : tm_op 175 8 = some (.new 10, (0, 10, 39, 0)) := rfl
theorem r175_8 (d : Nat) (ls : tm_Lo) (st : List Value) (G : tm_G) (I : Nat → Nat → Int32) (J : Nat → Nat → Int64) (R : Nat → Nat → Option Nat) (K : Option Value → tm_H → Prop) : tm_A d 175 8 ls st (G, I, J, R) K ↔ tm_A d 175 11 ls (.ref G.1 :: st) (tm_nw (0, 10) 39 (G, I, J, R)) K := tm_s o175_8 rfl rfl rfl
set_option maxRecDepth 20000 in
theorem o175_11 : tm_op 175 11 = some (.dup, (0, 0, 0, 0)) := rfl
theorem r175_11 (d : Nat) (v : Nat) (ls : tm_Lo) (st : List Value) (h : tm_H) (K : Option Value → tm_H → Prop) : tm_A d 175 11 ls (.ref v :: st) h K ↔ tm_A d 175 12 ls (.ref v :: .ref v :: st) h K := tm_s o175_11 rfl rfl rfl
theorem r175_11i (d : Nat) (v : Int32) (ls : tm_Lo) (st : List Value) (h : tm_H) (K : Option Value → tm_H → Prop) : tm_A d 175 11 ls (.int v :: st) h K ↔ tm_A d 175 12 ls (.int v :: .int v :: st) h K := tm_s o175_11 rfl rfl rfl
set_option maxRecDepth 20000 in
theorem o175_12 : tm_op 175 12 = some (.invokespecial 12, (3, 116, 1, 0)) := rfl
theorem r175_12 (d : Nat) (a : Nat) (ls : tm_Lo) (st : List Value) (h : tm_H) (K : Option Value → tm_H → Prop) : tm_A (d + 1) 175 12 ls (.ref a :: st) h K ↔ tm_cs st ∧ tm_R d 116 [.ref a] h (fun r h' => tm_A (d + 1) 175 15 ls (r.toList ++ st) h' K) := tm_callI (as := []) o175_12 rfl rfl rfl rfl
set_option maxRecDepth 20000 in
theorem o175_15 : tm_op 175 15 = some (.astore_n 2, (0, 0, 0, 0)) := rfl
theorem r175_15 (d : Nat) (v : Nat) (l0 l1 l2 l3 : Option Value) (st : List Value) (h : tm_H) (K : Option Value → tm_H → Prop) : tm_A d 175 15 [l0, l1, l2, l3] (.ref v :: st) h K ↔ tm_A d 175 16 [l0, l1, some (.ref v), l3] st h K := tm_s o175_15 rfl rfl rfl
theorem r175_15n (d : Nat)  (l0 l1 l2 l3 : Option Value) (st : List Value) (h : tm_H) (K : Option Value → tm_H → Prop) : tm_A d 175 15 [l0, l1, l2, l3] (.null :: st) h K ↔ tm_A d 175 16 [l0, l1, some .null, l3] st h K := tm_s o175_15 rfl rfl rfl
set_option maxRecDepth 20000 in
theorem o175_16 : tm_op 175 16 = some (.iconst 0, (0, 0, 0, 0)) := rfl
theorem r175_16 (d : Nat) (ls : tm_Lo) (st : List Value) (h : tm_H) (K : Option Value → tm_H → Prop) : tm_A d 175 16 ls st h K ↔ tm_A d 175 17 ls (.int (0 : Int32) :: st) h K := tm_ic o175_16 (by decide)
set_option maxRecDepth 20000 in
theorem o175_17 : tm_op 175 17 = some (.istore_n 3, (0, 0, 0, 0)) := rfl
theorem r175_17 (d : Nat) (v : Int32) (l0 l1 l2 l3 : Option Value) (st : List Value) (h : tm_H) (K : Option Value → tm_H → Prop) : tm_A d 175 17 [l0, l1, l2, l3] (.int v :: st) h K ↔ tm_A d 175 18 [l0, l1, l2, some (.int v)] st h K := tm_s o175_17 rfl rfl rfl
set_option maxRecDepth 20000 in
theorem o175_18 : tm_op 175 18 = some (.iload_n 3, (0, 0, 0, 0)) := rfl
theorem r175_18 (d : Nat) (v : Int32) (l0 l1 l2 : Option Value) (st : List Value) (h : tm_H) (K : Option Value → tm_H → Prop) : tm_A d 175 18 [l0, l1, l2, some (.int v)] st h K ↔ tm_A d 175 19 [l0, l1, l2, some (.int v)] (.int v :: st) h K := tm_s o175_18 rfl rfl rfl
set_option maxRecDepth 20000 in
theorem o175_19 : tm_op 175 19 = some (.aload_n 0, (0, 0, 0, 0)) := rfl
theorem r175_19 (d : Nat) (v : Nat) (l1 l2 l3 : Option Value) (st : List Value) (h : tm_H) (K : Option Value → tm_H → Prop) : tm_A d 175 19 [some (.ref v), l1, l2, l3] st h K ↔ tm_A d 175 20 [some (.ref v), l1, l2, l3] (.ref v :: st) h K := tm_s o175_19 rfl rfl rfl
set_option maxRecDepth 20000 in
theorem o175_20 : tm_op 175 20 = some (.arraylength, (0, 0, 0, 0)) := rfl
theorem r175_20 (d : Nat) (a : Nat) (ls : tm_Lo) (st : List Value) (G : tm_G) (I : Nat → Nat → Int32) (J : Nat → Nat → Int64) (R : Nat → Nat → Option Nat) (K : Option Value → tm_H → Prop) : tm_A d 175 20 ls (.ref a :: st) (G, I, J, R) K ↔ (G.2.2 a).1 = 1 ∧ tm_A d 175 21 ls (.int (Int32.ofNat (G.2.2 a).2) :: st) (G, I, J, R) K := tm_alen o175_20
set_option maxRecDepth 20000 in
theorem o175_21 : tm_op 175 21 = some (.bipush 6, (0, 0, 0, 0)) := rfl
theorem r175_21 (d : Nat) (ls : tm_Lo) (st : List Value) (h : tm_H) (K : Option Value → tm_H → Prop) : tm_A d 175 21 ls st h K ↔ tm_A d 175 23 ls (.int (6 : Int32) :: st) h K := tm_bp o175_21 (by decide)
set_option maxRecDepth 20000 in
theorem o175_23 : tm_op 175 23 = some (.isub, (0, 0, 0, 0)) := rfl
theorem r175_23 (d : Nat) (u v : Int32) (ls : tm_Lo) (st : List Value) (h : tm_H) (K : Option Value → tm_H → Prop) : tm_A d 175 23 ls (.int u :: .int v :: st) h K ↔ tm_A d 175 24 ls (.int (v - u) :: st) h K := tm_s o175_23 rfl rfl rfl
set_option maxRecDepth 20000 in
theorem o175_24 : tm_op 175 24 = some (.if_icmp .gt 841, (0, 0, 0, 0)) := rfl
theorem r175_24 (d : Nat) (y x : Int32) (ls : tm_Lo) (st : List Value) (h : tm_H) (K : Option Value → tm_H → Prop) : tm_A d 175 24 ls (.int y :: .int x :: st) h K ↔ if y < x then tm_A d 175 865 ls st h K else tm_A d 175 27 ls st h K := tm_b o175_24 rfl rfl rfl rfl
set_option maxRecDepth 20000 in
theorem o175_27 : tm_op 175 27 = some (.aload_n 0, (0, 0, 0, 0)) := rfl
theorem r175_27 (d : Nat) (v : Nat) (l1 l2 l3 : Option Value) (st : List Value) (h : tm_H) (K : Option Value → tm_H → Prop) : tm_A d 175 27 [some (.ref v), l1, l2, l3] st h K ↔ tm_A d 175 28 [some (.ref v), l1, l2, l3] (.ref v :: st) h K := tm_s o175_27 rfl rfl rfl
set_option maxRecDepth 20000 in
theorem o175_28 : tm_op 175 28 = some (.iload_n 3, (0, 0, 0, 0)) := rfl
theorem r175_28 (d : Nat) (v : Int32) (l0 l1 l2 : Option Value) (st : List Value) (h : tm_H) (K : Option Value → tm_H → Prop) : tm_A d 175 28 [l0, l1, l2, some (.int v)] st h K ↔ tm_A d 175 29 [l0, l1, l2, some (.int v)] (.int v :: st) h K := tm_s o175_28 rfl rfl rfl
set_option maxRecDepth 20000 in
theorem o175_29 : tm_op 175 29 = some (.iaload, (0, 0, 0, 0)) := rfl
theorem r175_29 (d : Nat) (v : Int32) (a : Nat) (ls : tm_Lo) (st : List Value) (G : tm_G) (I : Nat → Nat → Int32) (J : Nat → Nat → Int64) (R : Nat → Nat → Option Nat) (K : Option Value → tm_H → Prop) : tm_A d 175 29 ls (.int v :: .ref a :: st) (G, I, J, R) K ↔ ((G.2.2 a).1 = 1 ∧ tm_in v (G.2.2 a).2) ∧ tm_A d 175 30 ls (.int (I a (tm_ix v)) :: st) (G, I, J, R) K := tm_iald o175_29
set_option maxRecDepth 20000 in
theorem o175_30 : tm_op 175 30 = some (.bipush 31, (0, 0, 0, 0)) := rfl
theorem r175_30 (d : Nat) (ls : tm_Lo) (st : List Value) (h : tm_H) (K : Option Value → tm_H → Prop) : tm_A d 175 30 ls st h K ↔ tm_A d 175 32 ls (.int (31 : Int32) :: st) h K := tm_bp o175_30 (by decide)
set_option maxRecDepth 20000 in
theorem o175_32 : tm_op 175 32 = some (.iand, (0, 0, 0, 0)) := rfl
theorem r175_32 (d : Nat) (u v : Int32) (ls : tm_Lo) (st : List Value) (h : tm_H) (K : Option Value → tm_H → Prop) : tm_A d 175 32 ls (.int u :: .int v :: st) h K ↔ tm_A d 175 33 ls (.int (v &&& u) :: st) h K := tm_s o175_32 rfl rfl rfl
set_option maxRecDepth 20000 in
theorem o175_33 : tm_op 175 33 = some (.tableswitch 826 0 22 #[107, 130, 193, 216, 229, 242, 265, 298, 341, 364, 387, 430, 463, 516, 559, 592, 615, 638, 681, 714, 747, 780, 803], (107, 0, 0, 0)) := rfl
theorem r175_33 (d : Nat) (v : Int32) (ls : tm_Lo) (st : List Value) (h : tm_H) (K : Option Value → tm_H → Prop) : tm_A d 175 33 ls (.int v :: st) h K ↔ tm_A d 175 (tm_tsw (826) (0) (22) #[107, 130, 193, 216, 229, 242, 265, 298, 341, 364, 387, 430, 463, 516, 559, 592, 615, 638, 681, 714, 747, 780, 803] 33 v) ls st h K := tm_s o175_33 rfl rfl rfl
set_option maxRecDepth 20000 in
theorem o175_140 : tm_op 175 140 = some (.aload_n 1, (0, 0, 0, 0)) := rfl
theorem r175_140 (d : Nat) (v : Nat) (l0 l2 l3 : Option Value) (st : List Value) (h : tm_H) (K : Option Value → tm_H → Prop) : tm_A d 175 140 [l0, some (.ref v), l2, l3] st h K ↔ tm_A d 175 141 [l0, some (.ref v), l2, l3] (.ref v :: st) h K := tm_s o175_140 rfl rfl rfl
theorem r175_140n (d : Nat)  (l0 l2 l3 : Option Value) (st : List Value) (h : tm_H) (K : Option Value → tm_H → Prop) : tm_A d 175 140 [l0, some .null, l2, l3] st h K ↔ tm_A d 175 141 [l0, some .null, l2, l3] (.null :: st) h K := tm_s o175_140 rfl rfl rfl
set_option maxRecDepth 20000 in
theorem o175_141 : tm_op 175 141 = some (.aload_n 0, (0, 0, 0, 0)) := rfl
theorem r175_141 (d : Nat) (v : Nat) (l1 l2 l3 : Option Value) (st : List Value) (h : tm_H) (K : Option Value → tm_H → Prop) : tm_A d 175 141 [some (.ref v), l1, l2, l3] st h K ↔ tm_A d 175 142 [some (.ref v), l1, l2, l3] (.ref v :: st) h K := tm_s o175_141 rfl rfl rfl
set_option maxRecDepth 20000 in
theorem o175_142 : tm_op 175 142 = some (.iload_n 3, (0, 0, 0, 0)) := rfl
theorem r175_142 (d : Nat) (v : Int32) (l0 l1 l2 : Option Value) (st : List Value) (h : tm_H) (K : Option Value → tm_H → Prop) : tm_A d 175 142 [l0, l1, l2, some (.int v)] st h K ↔ tm_A d 175 143 [l0, l1, l2, some (.int v)] (.int v :: st) h K := tm_s o175_142 rfl rfl rfl
set_option maxRecDepth 20000 in
theorem o175_143 : tm_op 175 143 = some (.iconst 1, (0, 0, 0, 0)) := rfl
theorem r175_143 (d : Nat) (ls : tm_Lo) (st : List Value) (h : tm_H) (K : Option Value → tm_H → Prop) : tm_A d 175 143 ls st h K ↔ tm_A d 175 144 ls (.int (1 : Int32) :: st) h K := tm_ic o175_143 (by decide)
set_option maxRecDepth 20000 in
theorem o175_144 : tm_op 175 144 = some (.iadd, (0, 0, 0, 0)) := rfl
theorem r175_144 (d : Nat) (u v : Int32) (ls : tm_Lo) (st : List Value) (h : tm_H) (K : Option Value → tm_H → Prop) : tm_A d 175 144 ls (.int u :: .int v :: st) h K ↔ tm_A d 175 145 ls (.int (v + u) :: st) h K := tm_s o175_144 rfl rfl rfl
set_option maxRecDepth 20000 in
theorem o175_145 : tm_op 175 145 = some (.iaload, (0, 0, 0, 0)) := rfl
theorem r175_145 (d : Nat) (v : Int32) (a : Nat) (ls : tm_Lo) (st : List Value) (G : tm_G) (I : Nat → Nat → Int32) (J : Nat → Nat → Int64) (R : Nat → Nat → Option Nat) (K : Option Value → tm_H → Prop) : tm_A d 175 145 ls (.int v :: .ref a :: st) (G, I, J, R) K ↔ ((G.2.2 a).1 = 1 ∧ tm_in v (G.2.2 a).2) ∧ tm_A d 175 146 ls (.int (I a (tm_ix v)) :: st) (G, I, J, R) K := tm_iald o175_145
set_option maxRecDepth 20000 in
theorem o175_146 : tm_op 175 146 = some (.invokevirtual 13, (2, 86, 2, 9)) := rfl
theorem r175_146 (d : Nat) (v1 : Int32) (a : Nat) (ls : tm_Lo) (st : List Value) (h : tm_H) (K : Option Value → tm_H → Prop) : tm_A (d + 1) 175 146 ls (.int v1 :: .ref a :: st) h K ↔ (h.1.2.2 a = (0, 9) ∧ tm_cs st) ∧ tm_R d 86 [.ref a, .int v1] h (fun r h' => tm_A (d + 1) 175 149 ls (r.toList ++ st) h' K) := tm_callV (as := [.int v1]) o175_146 rfl rfl rfl rfl
set_option maxRecDepth 20000 in
theorem o175_149 : tm_op 175 149 = some (.aload_n 2, (0, 0, 0, 0)) := rfl
theorem r175_149 (d : Nat) (v : Nat) (l0 l1 l3 : Option Value) (st : List Value) (h : tm_H) (K : Option Value → tm_H → Prop) : tm_A d 175 149 [l0, l1, some (.ref v), l3] st h K ↔ tm_A d 175 150 [l0, l1, some (.ref v), l3] (.ref v :: st) h K := tm_s o175_149 rfl rfl rfl
theorem r175_149n (d : Nat)  (l0 l1 l3 : Option Value) (st : List Value) (h : tm_H) (K : Option Value → tm_H → Prop) : tm_A d 175 149 [l0, l1, some .null, l3] st h K ↔ tm_A d 175 150 [l0, l1, some .null, l3] (.null :: st) h K := tm_s o175_149 rfl rfl rfl
set_option maxRecDepth 20000 in
theorem o175_150 : tm_op 175 150 = some (.aload_n 0, (0, 0, 0, 0)) := rfl
theorem r175_150 (d : Nat) (v : Nat) (l1 l2 l3 : Option Value) (st : List Value) (h : tm_H) (K : Option Value → tm_H → Prop) : tm_A d 175 150 [some (.ref v), l1, l2, l3] st h K ↔ tm_A d 175 151 [some (.ref v), l1, l2, l3] (.ref v :: st) h K := tm_s o175_150 rfl rfl rfl
set_option maxRecDepth 20000 in
theorem o175_151 : tm_op 175 151 = some (.iload_n 3, (0, 0, 0, 0)) := rfl
theorem r175_151 (d : Nat) (v : Int32) (l0 l1 l2 : Option Value) (st : List Value) (h : tm_H) (K : Option Value → tm_H → Prop) : tm_A d 175 151 [l0, l1, l2, some (.int v)] st h K ↔ tm_A d 175 152 [l0, l1, l2, some (.int v)] (.int v :: st) h K := tm_s o175_151 rfl rfl rfl
set_option maxRecDepth 20000 in
theorem o175_152 : tm_op 175 152 = some (.iconst 1, (0, 0, 0, 0)) := rfl
theorem r175_152 (d : Nat) (ls : tm_Lo) (st : List Value) (h : tm_H) (K : Option Value → tm_H → Prop) : tm_A d 175 152 ls st h K ↔ tm_A d 175 153 ls (.int (1 : Int32) :: st) h K := tm_ic o175_152 (by decide)
set_option maxRecDepth 20000 in
theorem o175_153 : tm_op 175 153 = some (.iadd, (0, 0, 0, 0)) := rfl
theorem r175_153 (d : Nat) (u v : Int32) (ls : tm_Lo) (st : List Value) (h : tm_H) (K : Option Value → tm_H → Prop) : tm_A d 175 153 ls (.int u :: .int v :: st) h K ↔ tm_A d 175 154 ls (.int (v + u) :: st) h K := tm_s o175_153 rfl rfl rfl
set_option maxRecDepth 20000 in
theorem o175_154 : tm_op 175 154 = some (.iaload, (0, 0, 0, 0)) := rfl
theorem r175_154 (d : Nat) (v : Int32) (a : Nat) (ls : tm_Lo) (st : List Value) (G : tm_G) (I : Nat → Nat → Int32) (J : Nat → Nat → Int64) (R : Nat → Nat → Option Nat) (K : Option Value → tm_H → Prop) : tm_A d 175 154 ls (.int v :: .ref a :: st) (G, I, J, R) K ↔ ((G.2.2 a).1 = 1 ∧ tm_in v (G.2.2 a).2) ∧ tm_A d 175 155 ls (.int (I a (tm_ix v)) :: st) (G, I, J, R) K := tm_iald o175_154
set_option maxRecDepth 20000 in
theorem o175_155 : tm_op 175 155 = some (.invokevirtual 17, (2, 118, 2, 10)) := rfl
theorem r175_155 (d : Nat) (v1 : Int32) (a : Nat) (ls : tm_Lo) (st : List Value) (h : tm_H) (K : Option Value → tm_H → Prop) : tm_A (d + 1) 175 155 ls (.int v1 :: .ref a :: st) h K ↔ (h.1.2.2 a = (0, 10) ∧ tm_cs st) ∧ tm_R d 118 [.ref a, .int v1] h (fun r h' => tm_A (d + 1) 175 158 ls (r.toList ++ st) h' K) := tm_callV (as := [.int v1]) o175_155 rfl rfl rfl rfl
set_option maxRecDepth 20000 in
theorem o175_158 : tm_op 175 158 = some (.if_icmp .eq 701, (0, 0, 0, 0)) := rfl
theorem r175_158 (d : Nat) (y x : Int32) (ls : tm_Lo) (st : List Value) (h : tm_H) (K : Option Value → tm_H → Prop) : tm_A d 175 158 ls (.int y :: .int x :: st) h K ↔ if x = y then tm_A d 175 859 ls st h K else tm_A d 175 161 ls st h K := tm_b o175_158 rfl rfl rfl rfl
set_option maxRecDepth 20000 in
theorem o175_161 : tm_op 175 161 = some (.iconst 0, (0, 0, 0, 0)) := rfl
theorem r175_161 (d : Nat) (ls : tm_Lo) (st : List Value) (h : tm_H) (K : Option Value → tm_H → Prop) : tm_A d 175 161 ls st h K ↔ tm_A d 175 162 ls (.int (0 : Int32) :: st) h K := tm_ic o175_161 (by decide)
set_option maxRecDepth 20000 in
theorem o175_162 : tm_op 175 162 = some (.ireturn, (0, 0, 0, 0)) := rfl
theorem r175_162 (d : Nat) (v : Int32) (ls : tm_Lo) (h : tm_H) (K : Option Value → tm_H → Prop) : tm_A d 175 162 ls [.int v] h K ↔ (v = 0 ∨ v = 1) ∧ K (some (.int v)) h := tm_retz o175_162 rfl
set_option maxRecDepth 20000 in
theorem o175_163 : tm_op 175 163 = some (.aload_n 1, (0, 0, 0, 0)) := rfl
theorem r175_163 (d : Nat) (v : Nat) (l0 l2 l3 : Option Value) (st : List Value) (h : tm_H) (K : Option Value → tm_H → Prop) : tm_A d 175 163 [l0, some (.ref v), l2, l3] st h K ↔ tm_A d 175 164 [l0, some (.ref v), l2, l3] (.ref v :: st) h K := tm_s o175_163 rfl rfl rfl
theorem r175_163n (d : Nat)  (l0 l2 l3 : Option Value) (st : List Value) (h : tm_H) (K : Option Value → tm_H → Prop) : tm_A d 175 163 [l0, some .null, l2, l3] st h K ↔ tm_A d 175 164 [l0, some .null, l2, l3] (.null :: st) h K := tm_s o175_163 rfl rfl rfl
set_option maxRecDepth 20000 in
theorem o175_164 : tm_op 175 164 = some (.aload_n 0, (0, 0, 0, 0)) := rfl
theorem r175_164 (d : Nat) (v : Nat) (l1 l2 l3 : Option Value) (st : List Value) (h : tm_H) (K : Option Value → tm_H → Prop) : tm_A d 175 164 [some (.ref v), l1, l2, l3] st h K ↔ tm_A d 175 165 [some (.ref v), l1, l2, l3] (.ref v :: st) h K := tm_s o175_164 rfl rfl rfl
set_option maxRecDepth 20000 in
theorem o175_165 : tm_op 175 165 = some (.iload_n 3, (0, 0, 0, 0)) := rfl
theorem r175_165 (d : Nat) (v : Int32) (l0 l1 l2 : Option Value) (st : List Value) (h : tm_H) (K : Option Value → tm_H → Prop) : tm_A d 175 165 [l0, l1, l2, some (.int v)] st h K ↔ tm_A d 175 166 [l0, l1, l2, some (.int v)] (.int v :: st) h K := tm_s o175_165 rfl rfl rfl
set_option maxRecDepth 20000 in
theorem o175_166 : tm_op 175 166 = some (.iconst 1, (0, 0, 0, 0)) := rfl
theorem r175_166 (d : Nat) (ls : tm_Lo) (st : List Value) (h : tm_H) (K : Option Value → tm_H → Prop) : tm_A d 175 166 ls st h K ↔ tm_A d 175 167 ls (.int (1 : Int32) :: st) h K := tm_ic o175_166 (by decide)
set_option maxRecDepth 20000 in
theorem o175_167 : tm_op 175 167 = some (.iadd, (0, 0, 0, 0)) := rfl
theorem r175_167 (d : Nat) (u v : Int32) (ls : tm_Lo) (st : List Value) (h : tm_H) (K : Option Value → tm_H → Prop) : tm_A d 175 167 ls (.int u :: .int v :: st) h K ↔ tm_A d 175 168 ls (.int (v + u) :: st) h K := tm_s o175_167 rfl rfl rfl
set_option maxRecDepth 20000 in
theorem o175_168 : tm_op 175 168 = some (.iaload, (0, 0, 0, 0)) := rfl
theorem r175_168 (d : Nat) (v : Int32) (a : Nat) (ls : tm_Lo) (st : List Value) (G : tm_G) (I : Nat → Nat → Int32) (J : Nat → Nat → Int64) (R : Nat → Nat → Option Nat) (K : Option Value → tm_H → Prop) : tm_A d 175 168 ls (.int v :: .ref a :: st) (G, I, J, R) K ↔ ((G.2.2 a).1 = 1 ∧ tm_in v (G.2.2 a).2) ∧ tm_A d 175 169 ls (.int (I a (tm_ix v)) :: st) (G, I, J, R) K := tm_iald o175_168
set_option maxRecDepth 20000 in
theorem o175_169 : tm_op 175 169 = some (.aload_n 0, (0, 0, 0, 0)) := rfl
theorem r175_169 (d : Nat) (v : Nat) (l1 l2 l3 : Option Value) (st : List Value) (h : tm_H) (K : Option Value → tm_H → Prop) : tm_A d 175 169 [some (.ref v), l1, l2, l3] st h K ↔ tm_A d 175 170 [some (.ref v), l1, l2, l3] (.ref v :: st) h K := tm_s o175_169 rfl rfl rfl
set_option maxRecDepth 20000 in
theorem o175_170 : tm_op 175 170 = some (.iload_n 3, (0, 0, 0, 0)) := rfl
theorem r175_170 (d : Nat) (v : Int32) (l0 l1 l2 : Option Value) (st : List Value) (h : tm_H) (K : Option Value → tm_H → Prop) : tm_A d 175 170 [l0, l1, l2, some (.int v)] st h K ↔ tm_A d 175 171 [l0, l1, l2, some (.int v)] (.int v :: st) h K := tm_s o175_170 rfl rfl rfl
set_option maxRecDepth 20000 in
theorem o175_171 : tm_op 175 171 = some (.iconst 2, (0, 0, 0, 0)) := rfl
theorem r175_171 (d : Nat) (ls : tm_Lo) (st : List Value) (h : tm_H) (K : Option Value → tm_H → Prop) : tm_A d 175 171 ls st h K ↔ tm_A d 175 172 ls (.int (2 : Int32) :: st) h K := tm_ic o175_171 (by decide)
set_option maxRecDepth 20000 in
theorem o175_172 : tm_op 175 172 = some (.iadd, (0, 0, 0, 0)) := rfl
theorem r175_172 (d : Nat) (u v : Int32) (ls : tm_Lo) (st : List Value) (h : tm_H) (K : Option Value → tm_H → Prop) : tm_A d 175 172 ls (.int u :: .int v :: st) h K ↔ tm_A d 175 173 ls (.int (v + u) :: st) h K := tm_s o175_172 rfl rfl rfl
set_option maxRecDepth 20000 in
theorem o175_173 : tm_op 175 173 = some (.iaload, (0, 0, 0, 0)) := rfl
theorem r175_173 (d : Nat) (v : Int32) (a : Nat) (ls : tm_Lo) (st : List Value) (G : tm_G) (I : Nat → Nat → Int32) (J : Nat → Nat → Int64) (R : Nat → Nat → Option Nat) (K : Option Value → tm_H → Prop) : tm_A d 175 173 ls (.int v :: .ref a :: st) (G, I, J, R) K ↔ ((G.2.2 a).1 = 1 ∧ tm_in v (G.2.2 a).2) ∧ tm_A d 175 174 ls (.int (I a (tm_ix v)) :: st) (G, I, J, R) K := tm_iald o175_173
set_option maxRecDepth 20000 in
theorem o175_174 : tm_op 175 174 = some (.aload_n 0, (0, 0, 0, 0)) := rfl
theorem r175_174 (d : Nat) (v : Nat) (l1 l2 l3 : Option Value) (st : List Value) (h : tm_H) (K : Option Value → tm_H → Prop) : tm_A d 175 174 [some (.ref v), l1, l2, l3] st h K ↔ tm_A d 175 175 [some (.ref v), l1, l2, l3] (.ref v :: st) h K := tm_s o175_174 rfl rfl rfl
set_option maxRecDepth 20000 in
theorem o175_175 : tm_op 175 175 = some (.iload_n 3, (0, 0, 0, 0)) := rfl
theorem r175_175 (d : Nat) (v : Int32) (l0 l1 l2 : Option Value) (st : List Value) (h : tm_H) (K : Option Value → tm_H → Prop) : tm_A d 175 175 [l0, l1, l2, some (.int v)] st h K ↔ tm_A d 175 176 [l0, l1, l2, some (.int v)] (.int v :: st) h K := tm_s o175_175 rfl rfl rfl
set_option maxRecDepth 20000 in
theorem o175_176 : tm_op 175 176 = some (.iconst 3, (0, 0, 0, 0)) := rfl
theorem r175_176 (d : Nat) (ls : tm_Lo) (st : List Value) (h : tm_H) (K : Option Value → tm_H → Prop) : tm_A d 175 176 ls st h K ↔ tm_A d 175 177 ls (.int (3 : Int32) :: st) h K := tm_ic o175_176 (by decide)
set_option maxRecDepth 20000 in
theorem o175_177 : tm_op 175 177 = some (.iadd, (0, 0, 0, 0)) := rfl
theorem r175_177 (d : Nat) (u v : Int32) (ls : tm_Lo) (st : List Value) (h : tm_H) (K : Option Value → tm_H → Prop) : tm_A d 175 177 ls (.int u :: .int v :: st) h K ↔ tm_A d 175 178 ls (.int (v + u) :: st) h K := tm_s o175_177 rfl rfl rfl
set_option maxRecDepth 20000 in
theorem o175_178 : tm_op 175 178 = some (.iaload, (0, 0, 0, 0)) := rfl
theorem r175_178 (d : Nat) (v : Int32) (a : Nat) (ls : tm_Lo) (st : List Value) (G : tm_G) (I : Nat → Nat → Int32) (J : Nat → Nat → Int64) (R : Nat → Nat → Option Nat) (K : Option Value → tm_H → Prop) : tm_A d 175 178 ls (.int v :: .ref a :: st) (G, I, J, R) K ↔ ((G.2.2 a).1 = 1 ∧ tm_in v (G.2.2 a).2) ∧ tm_A d 175 179 ls (.int (I a (tm_ix v)) :: st) (G, I, J, R) K := tm_iald o175_178
set_option maxRecDepth 20000 in
theorem o175_179 : tm_op 175 179 = some (.aload_n 0, (0, 0, 0, 0)) := rfl
theorem r175_179 (d : Nat) (v : Nat) (l1 l2 l3 : Option Value) (st : List Value) (h : tm_H) (K : Option Value → tm_H → Prop) : tm_A d 175 179 [some (.ref v), l1, l2, l3] st h K ↔ tm_A d 175 180 [some (.ref v), l1, l2, l3] (.ref v :: st) h K := tm_s o175_179 rfl rfl rfl
set_option maxRecDepth 20000 in
theorem o175_180 : tm_op 175 180 = some (.iload_n 3, (0, 0, 0, 0)) := rfl
theorem r175_180 (d : Nat) (v : Int32) (l0 l1 l2 : Option Value) (st : List Value) (h : tm_H) (K : Option Value → tm_H → Prop) : tm_A d 175 180 [l0, l1, l2, some (.int v)] st h K ↔ tm_A d 175 181 [l0, l1, l2, some (.int v)] (.int v :: st) h K := tm_s o175_180 rfl rfl rfl
set_option maxRecDepth 20000 in
theorem o175_181 : tm_op 175 181 = some (.iconst 4, (0, 0, 0, 0)) := rfl
theorem r175_181 (d : Nat) (ls : tm_Lo) (st : List Value) (h : tm_H) (K : Option Value → tm_H → Prop) : tm_A d 175 181 ls st h K ↔ tm_A d 175 182 ls (.int (4 : Int32) :: st) h K := tm_ic o175_181 (by decide)
set_option maxRecDepth 20000 in
theorem o175_182 : tm_op 175 182 = some (.iadd, (0, 0, 0, 0)) := rfl
theorem r175_182 (d : Nat) (u v : Int32) (ls : tm_Lo) (st : List Value) (h : tm_H) (K : Option Value → tm_H → Prop) : tm_A d 175 182 ls (.int u :: .int v :: st) h K ↔ tm_A d 175 183 ls (.int (v + u) :: st) h K := tm_s o175_182 rfl rfl rfl
set_option maxRecDepth 20000 in
theorem o175_183 : tm_op 175 183 = some (.iaload, (0, 0, 0, 0)) := rfl
theorem r175_183 (d : Nat) (v : Int32) (a : Nat) (ls : tm_Lo) (st : List Value) (G : tm_G) (I : Nat → Nat → Int32) (J : Nat → Nat → Int64) (R : Nat → Nat → Option Nat) (K : Option Value → tm_H → Prop) : tm_A d 175 183 ls (.int v :: .ref a :: st) (G, I, J, R) K ↔ ((G.2.2 a).1 = 1 ∧ tm_in v (G.2.2 a).2) ∧ tm_A d 175 184 ls (.int (I a (tm_ix v)) :: st) (G, I, J, R) K := tm_iald o175_183
set_option maxRecDepth 20000 in
theorem o175_184 : tm_op 175 184 = some (.aload_n 0, (0, 0, 0, 0)) := rfl
theorem r175_184 (d : Nat) (v : Nat) (l1 l2 l3 : Option Value) (st : List Value) (h : tm_H) (K : Option Value → tm_H → Prop) : tm_A d 175 184 [some (.ref v), l1, l2, l3] st h K ↔ tm_A d 175 185 [some (.ref v), l1, l2, l3] (.ref v :: st) h K := tm_s o175_184 rfl rfl rfl
set_option maxRecDepth 20000 in
theorem o175_185 : tm_op 175 185 = some (.iload_n 3, (0, 0, 0, 0)) := rfl
theorem r175_185 (d : Nat) (v : Int32) (l0 l1 l2 : Option Value) (st : List Value) (h : tm_H) (K : Option Value → tm_H → Prop) : tm_A d 175 185 [l0, l1, l2, some (.int v)] st h K ↔ tm_A d 175 186 [l0, l1, l2, some (.int v)] (.int v :: st) h K := tm_s o175_185 rfl rfl rfl
set_option maxRecDepth 20000 in
theorem o175_186 : tm_op 175 186 = some (.iconst 5, (0, 0, 0, 0)) := rfl
theorem r175_186 (d : Nat) (ls : tm_Lo) (st : List Value) (h : tm_H) (K : Option Value → tm_H → Prop) : tm_A d 175 186 ls st h K ↔ tm_A d 175 187 ls (.int (5 : Int32) :: st) h K := tm_ic o175_186 (by decide)
set_option maxRecDepth 20000 in
theorem o175_187 : tm_op 175 187 = some (.iadd, (0, 0, 0, 0)) := rfl
theorem r175_187 (d : Nat) (u v : Int32) (ls : tm_Lo) (st : List Value) (h : tm_H) (K : Option Value → tm_H → Prop) : tm_A d 175 187 ls (.int u :: .int v :: st) h K ↔ tm_A d 175 188 ls (.int (v + u) :: st) h K := tm_s o175_187 rfl rfl rfl
set_option maxRecDepth 20000 in
theorem o175_188 : tm_op 175 188 = some (.iaload, (0, 0, 0, 0)) := rfl
theorem r175_188 (d : Nat) (v : Int32) (a : Nat) (ls : tm_Lo) (st : List Value) (G : tm_G) (I : Nat → Nat → Int32) (J : Nat → Nat → Int64) (R : Nat → Nat → Option Nat) (K : Option Value → tm_H → Prop) : tm_A d 175 188 ls (.int v :: .ref a :: st) (G, I, J, R) K ↔ ((G.2.2 a).1 = 1 ∧ tm_in v (G.2.2 a).2) ∧ tm_A d 175 189 ls (.int (I a (tm_ix v)) :: st) (G, I, J, R) K := tm_iald o175_188
set_option maxRecDepth 20000 in
theorem o175_189 : tm_op 175 189 = some (.invokevirtual 18, (2, 87, 6, 9)) := rfl
theorem r175_189 (d : Nat) (v1 : Int32) (v2 : Int32) (v3 : Int32) (v4 : Int32) (v5 : Int32) (a : Nat) (ls : tm_Lo) (st : List Value) (h : tm_H) (K : Option Value → tm_H → Prop) : tm_A (d + 1) 175 189 ls (.int v5 :: .int v4 :: .int v3 :: .int v2 :: .int v1 :: .ref a :: st) h K ↔ (h.1.2.2 a = (0, 9) ∧ tm_cs st) ∧ tm_R d 87 [.ref a, .int v1, .int v2, .int v3, .int v4, .int v5] h (fun r h' => tm_A (d + 1) 175 192 ls (r.toList ++ st) h' K) := tm_callV (as := [.int v1, .int v2, .int v3, .int v4, .int v5]) o175_189 rfl rfl rfl rfl
set_option maxRecDepth 20000 in
theorem o175_192 : tm_op 175 192 = some (.aload_n 2, (0, 0, 0, 0)) := rfl
theorem r175_192 (d : Nat) (v : Nat) (l0 l1 l3 : Option Value) (st : List Value) (h : tm_H) (K : Option Value → tm_H → Prop) : tm_A d 175 192 [l0, l1, some (.ref v), l3] st h K ↔ tm_A d 175 193 [l0, l1, some (.ref v), l3] (.ref v :: st) h K := tm_s o175_192 rfl rfl rfl
theorem r175_192n (d : Nat)  (l0 l1 l3 : Option Value) (st : List Value) (h : tm_H) (K : Option Value → tm_H → Prop) : tm_A d 175 192 [l0, l1, some .null, l3] st h K ↔ tm_A d 175 193 [l0, l1, some .null, l3] (.null :: st) h K := tm_s o175_192 rfl rfl rfl
set_option maxRecDepth 20000 in
theorem o175_193 : tm_op 175 193 = some (.aload_n 0, (0, 0, 0, 0)) := rfl
theorem r175_193 (d : Nat) (v : Nat) (l1 l2 l3 : Option Value) (st : List Value) (h : tm_H) (K : Option Value → tm_H → Prop) : tm_A d 175 193 [some (.ref v), l1, l2, l3] st h K ↔ tm_A d 175 194 [some (.ref v), l1, l2, l3] (.ref v :: st) h K := tm_s o175_193 rfl rfl rfl
set_option maxRecDepth 20000 in
theorem o175_194 : tm_op 175 194 = some (.iload_n 3, (0, 0, 0, 0)) := rfl
theorem r175_194 (d : Nat) (v : Int32) (l0 l1 l2 : Option Value) (st : List Value) (h : tm_H) (K : Option Value → tm_H → Prop) : tm_A d 175 194 [l0, l1, l2, some (.int v)] st h K ↔ tm_A d 175 195 [l0, l1, l2, some (.int v)] (.int v :: st) h K := tm_s o175_194 rfl rfl rfl
set_option maxRecDepth 20000 in
theorem o175_195 : tm_op 175 195 = some (.iconst 1, (0, 0, 0, 0)) := rfl
theorem r175_195 (d : Nat) (ls : tm_Lo) (st : List Value) (h : tm_H) (K : Option Value → tm_H → Prop) : tm_A d 175 195 ls st h K ↔ tm_A d 175 196 ls (.int (1 : Int32) :: st) h K := tm_ic o175_195 (by decide)
set_option maxRecDepth 20000 in
theorem o175_196 : tm_op 175 196 = some (.iadd, (0, 0, 0, 0)) := rfl
theorem r175_196 (d : Nat) (u v : Int32) (ls : tm_Lo) (st : List Value) (h : tm_H) (K : Option Value → tm_H → Prop) : tm_A d 175 196 ls (.int u :: .int v :: st) h K ↔ tm_A d 175 197 ls (.int (v + u) :: st) h K := tm_s o175_196 rfl rfl rfl
set_option maxRecDepth 20000 in
theorem o175_197 : tm_op 175 197 = some (.iaload, (0, 0, 0, 0)) := rfl
theorem r175_197 (d : Nat) (v : Int32) (a : Nat) (ls : tm_Lo) (st : List Value) (G : tm_G) (I : Nat → Nat → Int32) (J : Nat → Nat → Int64) (R : Nat → Nat → Option Nat) (K : Option Value → tm_H → Prop) : tm_A d 175 197 ls (.int v :: .ref a :: st) (G, I, J, R) K ↔ ((G.2.2 a).1 = 1 ∧ tm_in v (G.2.2 a).2) ∧ tm_A d 175 198 ls (.int (I a (tm_ix v)) :: st) (G, I, J, R) K := tm_iald o175_197
set_option maxRecDepth 20000 in
theorem o175_198 : tm_op 175 198 = some (.aload_n 0, (0, 0, 0, 0)) := rfl
theorem r175_198 (d : Nat) (v : Nat) (l1 l2 l3 : Option Value) (st : List Value) (h : tm_H) (K : Option Value → tm_H → Prop) : tm_A d 175 198 [some (.ref v), l1, l2, l3] st h K ↔ tm_A d 175 199 [some (.ref v), l1, l2, l3] (.ref v :: st) h K := tm_s o175_198 rfl rfl rfl
set_option maxRecDepth 20000 in
theorem o175_199 : tm_op 175 199 = some (.iload_n 3, (0, 0, 0, 0)) := rfl
theorem r175_199 (d : Nat) (v : Int32) (l0 l1 l2 : Option Value) (st : List Value) (h : tm_H) (K : Option Value → tm_H → Prop) : tm_A d 175 199 [l0, l1, l2, some (.int v)] st h K ↔ tm_A d 175 200 [l0, l1, l2, some (.int v)] (.int v :: st) h K := tm_s o175_199 rfl rfl rfl
set_option maxRecDepth 20000 in
theorem o175_200 : tm_op 175 200 = some (.iconst 2, (0, 0, 0, 0)) := rfl
theorem r175_200 (d : Nat) (ls : tm_Lo) (st : List Value) (h : tm_H) (K : Option Value → tm_H → Prop) : tm_A d 175 200 ls st h K ↔ tm_A d 175 201 ls (.int (2 : Int32) :: st) h K := tm_ic o175_200 (by decide)
set_option maxRecDepth 20000 in
theorem o175_201 : tm_op 175 201 = some (.iadd, (0, 0, 0, 0)) := rfl
theorem r175_201 (d : Nat) (u v : Int32) (ls : tm_Lo) (st : List Value) (h : tm_H) (K : Option Value → tm_H → Prop) : tm_A d 175 201 ls (.int u :: .int v :: st) h K ↔ tm_A d 175 202 ls (.int (v + u) :: st) h K := tm_s o175_201 rfl rfl rfl
set_option maxRecDepth 20000 in
theorem o175_202 : tm_op 175 202 = some (.iaload, (0, 0, 0, 0)) := rfl
theorem r175_202 (d : Nat) (v : Int32) (a : Nat) (ls : tm_Lo) (st : List Value) (G : tm_G) (I : Nat → Nat → Int32) (J : Nat → Nat → Int64) (R : Nat → Nat → Option Nat) (K : Option Value → tm_H → Prop) : tm_A d 175 202 ls (.int v :: .ref a :: st) (G, I, J, R) K ↔ ((G.2.2 a).1 = 1 ∧ tm_in v (G.2.2 a).2) ∧ tm_A d 175 203 ls (.int (I a (tm_ix v)) :: st) (G, I, J, R) K := tm_iald o175_202
set_option maxRecDepth 20000 in
theorem o175_203 : tm_op 175 203 = some (.aload_n 0, (0, 0, 0, 0)) := rfl
theorem r175_203 (d : Nat) (v : Nat) (l1 l2 l3 : Option Value) (st : List Value) (h : tm_H) (K : Option Value → tm_H → Prop) : tm_A d 175 203 [some (.ref v), l1, l2, l3] st h K ↔ tm_A d 175 204 [some (.ref v), l1, l2, l3] (.ref v :: st) h K := tm_s o175_203 rfl rfl rfl
set_option maxRecDepth 20000 in
theorem o175_204 : tm_op 175 204 = some (.iload_n 3, (0, 0, 0, 0)) := rfl
theorem r175_204 (d : Nat) (v : Int32) (l0 l1 l2 : Option Value) (st : List Value) (h : tm_H) (K : Option Value → tm_H → Prop) : tm_A d 175 204 [l0, l1, l2, some (.int v)] st h K ↔ tm_A d 175 205 [l0, l1, l2, some (.int v)] (.int v :: st) h K := tm_s o175_204 rfl rfl rfl
set_option maxRecDepth 20000 in
theorem o175_205 : tm_op 175 205 = some (.iconst 3, (0, 0, 0, 0)) := rfl
theorem r175_205 (d : Nat) (ls : tm_Lo) (st : List Value) (h : tm_H) (K : Option Value → tm_H → Prop) : tm_A d 175 205 ls st h K ↔ tm_A d 175 206 ls (.int (3 : Int32) :: st) h K := tm_ic o175_205 (by decide)
set_option maxRecDepth 20000 in
theorem o175_206 : tm_op 175 206 = some (.iadd, (0, 0, 0, 0)) := rfl
theorem r175_206 (d : Nat) (u v : Int32) (ls : tm_Lo) (st : List Value) (h : tm_H) (K : Option Value → tm_H → Prop) : tm_A d 175 206 ls (.int u :: .int v :: st) h K ↔ tm_A d 175 207 ls (.int (v + u) :: st) h K := tm_s o175_206 rfl rfl rfl
set_option maxRecDepth 20000 in
theorem o175_207 : tm_op 175 207 = some (.iaload, (0, 0, 0, 0)) := rfl
theorem r175_207 (d : Nat) (v : Int32) (a : Nat) (ls : tm_Lo) (st : List Value) (G : tm_G) (I : Nat → Nat → Int32) (J : Nat → Nat → Int64) (R : Nat → Nat → Option Nat) (K : Option Value → tm_H → Prop) : tm_A d 175 207 ls (.int v :: .ref a :: st) (G, I, J, R) K ↔ ((G.2.2 a).1 = 1 ∧ tm_in v (G.2.2 a).2) ∧ tm_A d 175 208 ls (.int (I a (tm_ix v)) :: st) (G, I, J, R) K := tm_iald o175_207
set_option maxRecDepth 20000 in
theorem o175_208 : tm_op 175 208 = some (.aload_n 0, (0, 0, 0, 0)) := rfl
theorem r175_208 (d : Nat) (v : Nat) (l1 l2 l3 : Option Value) (st : List Value) (h : tm_H) (K : Option Value → tm_H → Prop) : tm_A d 175 208 [some (.ref v), l1, l2, l3] st h K ↔ tm_A d 175 209 [some (.ref v), l1, l2, l3] (.ref v :: st) h K := tm_s o175_208 rfl rfl rfl
set_option maxRecDepth 20000 in
theorem o175_209 : tm_op 175 209 = some (.iload_n 3, (0, 0, 0, 0)) := rfl
theorem r175_209 (d : Nat) (v : Int32) (l0 l1 l2 : Option Value) (st : List Value) (h : tm_H) (K : Option Value → tm_H → Prop) : tm_A d 175 209 [l0, l1, l2, some (.int v)] st h K ↔ tm_A d 175 210 [l0, l1, l2, some (.int v)] (.int v :: st) h K := tm_s o175_209 rfl rfl rfl
set_option maxRecDepth 20000 in
theorem o175_210 : tm_op 175 210 = some (.iconst 4, (0, 0, 0, 0)) := rfl
theorem r175_210 (d : Nat) (ls : tm_Lo) (st : List Value) (h : tm_H) (K : Option Value → tm_H → Prop) : tm_A d 175 210 ls st h K ↔ tm_A d 175 211 ls (.int (4 : Int32) :: st) h K := tm_ic o175_210 (by decide)
set_option maxRecDepth 20000 in
theorem o175_211 : tm_op 175 211 = some (.iadd, (0, 0, 0, 0)) := rfl
theorem r175_211 (d : Nat) (u v : Int32) (ls : tm_Lo) (st : List Value) (h : tm_H) (K : Option Value → tm_H → Prop) : tm_A d 175 211 ls (.int u :: .int v :: st) h K ↔ tm_A d 175 212 ls (.int (v + u) :: st) h K := tm_s o175_211 rfl rfl rfl
set_option maxRecDepth 20000 in
theorem o175_212 : tm_op 175 212 = some (.iaload, (0, 0, 0, 0)) := rfl
theorem r175_212 (d : Nat) (v : Int32) (a : Nat) (ls : tm_Lo) (st : List Value) (G : tm_G) (I : Nat → Nat → Int32) (J : Nat → Nat → Int64) (R : Nat → Nat → Option Nat) (K : Option Value → tm_H → Prop) : tm_A d 175 212 ls (.int v :: .ref a :: st) (G, I, J, R) K ↔ ((G.2.2 a).1 = 1 ∧ tm_in v (G.2.2 a).2) ∧ tm_A d 175 213 ls (.int (I a (tm_ix v)) :: st) (G, I, J, R) K := tm_iald o175_212
set_option maxRecDepth 20000 in
theorem o175_213 : tm_op 175 213 = some (.aload_n 0, (0, 0, 0, 0)) := rfl
theorem r175_213 (d : Nat) (v : Nat) (l1 l2 l3 : Option Value) (st : List Value) (h : tm_H) (K : Option Value → tm_H → Prop) : tm_A d 175 213 [some (.ref v), l1, l2, l3] st h K ↔ tm_A d 175 214 [some (.ref v), l1, l2, l3] (.ref v :: st) h K := tm_s o175_213 rfl rfl rfl
set_option maxRecDepth 20000 in
theorem o175_214 : tm_op 175 214 = some (.iload_n 3, (0, 0, 0, 0)) := rfl
theorem r175_214 (d : Nat) (v : Int32) (l0 l1 l2 : Option Value) (st : List Value) (h : tm_H) (K : Option Value → tm_H → Prop) : tm_A d 175 214 [l0, l1, l2, some (.int v)] st h K ↔ tm_A d 175 215 [l0, l1, l2, some (.int v)] (.int v :: st) h K := tm_s o175_214 rfl rfl rfl
set_option maxRecDepth 20000 in
theorem o175_215 : tm_op 175 215 = some (.iconst 5, (0, 0, 0, 0)) := rfl
theorem r175_215 (d : Nat) (ls : tm_Lo) (st : List Value) (h : tm_H) (K : Option Value → tm_H → Prop) : tm_A d 175 215 ls st h K ↔ tm_A d 175 216 ls (.int (5 : Int32) :: st) h K := tm_ic o175_215 (by decide)
set_option maxRecDepth 20000 in
theorem o175_216 : tm_op 175 216 = some (.iadd, (0, 0, 0, 0)) := rfl
theorem r175_216 (d : Nat) (u v : Int32) (ls : tm_Lo) (st : List Value) (h : tm_H) (K : Option Value → tm_H → Prop) : tm_A d 175 216 ls (.int u :: .int v :: st) h K ↔ tm_A d 175 217 ls (.int (v + u) :: st) h K := tm_s o175_216 rfl rfl rfl
set_option maxRecDepth 20000 in
theorem o175_217 : tm_op 175 217 = some (.iaload, (0, 0, 0, 0)) := rfl
theorem r175_217 (d : Nat) (v : Int32) (a : Nat) (ls : tm_Lo) (st : List Value) (G : tm_G) (I : Nat → Nat → Int32) (J : Nat → Nat → Int64) (R : Nat → Nat → Option Nat) (K : Option Value → tm_H → Prop) : tm_A d 175 217 ls (.int v :: .ref a :: st) (G, I, J, R) K ↔ ((G.2.2 a).1 = 1 ∧ tm_in v (G.2.2 a).2) ∧ tm_A d 175 218 ls (.int (I a (tm_ix v)) :: st) (G, I, J, R) K := tm_iald o175_217
set_option maxRecDepth 20000 in
theorem o175_218 : tm_op 175 218 = some (.invokevirtual 22, (2, 120, 6, 10)) := rfl
theorem r175_218 (d : Nat) (v1 : Int32) (v2 : Int32) (v3 : Int32) (v4 : Int32) (v5 : Int32) (a : Nat) (ls : tm_Lo) (st : List Value) (h : tm_H) (K : Option Value → tm_H → Prop) : tm_A (d + 1) 175 218 ls (.int v5 :: .int v4 :: .int v3 :: .int v2 :: .int v1 :: .ref a :: st) h K ↔ (h.1.2.2 a = (0, 10) ∧ tm_cs st) ∧ tm_R d 120 [.ref a, .int v1, .int v2, .int v3, .int v4, .int v5] h (fun r h' => tm_A (d + 1) 175 221 ls (r.toList ++ st) h' K) := tm_callV (as := [.int v1, .int v2, .int v3, .int v4, .int v5]) o175_218 rfl rfl rfl rfl
set_option maxRecDepth 20000 in
theorem o175_221 : tm_op 175 221 = some (.if_icmp .eq 638, (0, 0, 0, 0)) := rfl
theorem r175_221 (d : Nat) (y x : Int32) (ls : tm_Lo) (st : List Value) (h : tm_H) (K : Option Value → tm_H → Prop) : tm_A d 175 221 ls (.int y :: .int x :: st) h K ↔ if x = y then tm_A d 175 859 ls st h K else tm_A d 175 224 ls st h K := tm_b o175_221 rfl rfl rfl rfl
set_option maxRecDepth 20000 in
theorem o175_224 : tm_op 175 224 = some (.iconst 0, (0, 0, 0, 0)) := rfl
theorem r175_224 (d : Nat) (ls : tm_Lo) (st : List Value) (h : tm_H) (K : Option Value → tm_H → Prop) : tm_A d 175 224 ls st h K ↔ tm_A d 175 225 ls (.int (0 : Int32) :: st) h K := tm_ic o175_224 (by decide)
set_option maxRecDepth 20000 in
theorem o175_225 : tm_op 175 225 = some (.ireturn, (0, 0, 0, 0)) := rfl
theorem r175_225 (d : Nat) (v : Int32) (ls : tm_Lo) (h : tm_H) (K : Option Value → tm_H → Prop) : tm_A d 175 225 ls [.int v] h K ↔ (v = 0 ∨ v = 1) ∧ K (some (.int v)) h := tm_retz o175_225 rfl
set_option maxRecDepth 20000 in
theorem o175_226 : tm_op 175 226 = some (.aload_n 1, (0, 0, 0, 0)) := rfl
theorem r175_226 (d : Nat) (v : Nat) (l0 l2 l3 : Option Value) (st : List Value) (h : tm_H) (K : Option Value → tm_H → Prop) : tm_A d 175 226 [l0, some (.ref v), l2, l3] st h K ↔ tm_A d 175 227 [l0, some (.ref v), l2, l3] (.ref v :: st) h K := tm_s o175_226 rfl rfl rfl
theorem r175_226n (d : Nat)  (l0 l2 l3 : Option Value) (st : List Value) (h : tm_H) (K : Option Value → tm_H → Prop) : tm_A d 175 226 [l0, some .null, l2, l3] st h K ↔ tm_A d 175 227 [l0, some .null, l2, l3] (.null :: st) h K := tm_s o175_226 rfl rfl rfl
set_option maxRecDepth 20000 in
theorem o175_227 : tm_op 175 227 = some (.aload_n 0, (0, 0, 0, 0)) := rfl
theorem r175_227 (d : Nat) (v : Nat) (l1 l2 l3 : Option Value) (st : List Value) (h : tm_H) (K : Option Value → tm_H → Prop) : tm_A d 175 227 [some (.ref v), l1, l2, l3] st h K ↔ tm_A d 175 228 [some (.ref v), l1, l2, l3] (.ref v :: st) h K := tm_s o175_227 rfl rfl rfl
set_option maxRecDepth 20000 in
theorem o175_228 : tm_op 175 228 = some (.iload_n 3, (0, 0, 0, 0)) := rfl
theorem r175_228 (d : Nat) (v : Int32) (l0 l1 l2 : Option Value) (st : List Value) (h : tm_H) (K : Option Value → tm_H → Prop) : tm_A d 175 228 [l0, l1, l2, some (.int v)] st h K ↔ tm_A d 175 229 [l0, l1, l2, some (.int v)] (.int v :: st) h K := tm_s o175_228 rfl rfl rfl
set_option maxRecDepth 20000 in
theorem o175_229 : tm_op 175 229 = some (.iconst 1, (0, 0, 0, 0)) := rfl
theorem r175_229 (d : Nat) (ls : tm_Lo) (st : List Value) (h : tm_H) (K : Option Value → tm_H → Prop) : tm_A d 175 229 ls st h K ↔ tm_A d 175 230 ls (.int (1 : Int32) :: st) h K := tm_ic o175_229 (by decide)
set_option maxRecDepth 20000 in
theorem o175_230 : tm_op 175 230 = some (.iadd, (0, 0, 0, 0)) := rfl
theorem r175_230 (d : Nat) (u v : Int32) (ls : tm_Lo) (st : List Value) (h : tm_H) (K : Option Value → tm_H → Prop) : tm_A d 175 230 ls (.int u :: .int v :: st) h K ↔ tm_A d 175 231 ls (.int (v + u) :: st) h K := tm_s o175_230 rfl rfl rfl
set_option maxRecDepth 20000 in
theorem o175_231 : tm_op 175 231 = some (.iaload, (0, 0, 0, 0)) := rfl
theorem r175_231 (d : Nat) (v : Int32) (a : Nat) (ls : tm_Lo) (st : List Value) (G : tm_G) (I : Nat → Nat → Int32) (J : Nat → Nat → Int64) (R : Nat → Nat → Option Nat) (K : Option Value → tm_H → Prop) : tm_A d 175 231 ls (.int v :: .ref a :: st) (G, I, J, R) K ↔ ((G.2.2 a).1 = 1 ∧ tm_in v (G.2.2 a).2) ∧ tm_A d 175 232 ls (.int (I a (tm_ix v)) :: st) (G, I, J, R) K := tm_iald o175_231
set_option maxRecDepth 20000 in
theorem o175_232 : tm_op 175 232 = some (.invokevirtual 23, (2, 88, 2, 9)) := rfl
theorem r175_232 (d : Nat) (v1 : Int32) (a : Nat) (ls : tm_Lo) (st : List Value) (h : tm_H) (K : Option Value → tm_H → Prop) : tm_A (d + 1) 175 232 ls (.int v1 :: .ref a :: st) h K ↔ (h.1.2.2 a = (0, 9) ∧ tm_cs st) ∧ tm_R d 88 [.ref a, .int v1] h (fun r h' => tm_A (d + 1) 175 235 ls (r.toList ++ st) h' K) := tm_callV (as := [.int v1]) o175_232 rfl rfl rfl rfl
set_option maxRecDepth 20000 in
theorem o175_235 : tm_op 175 235 = some (.aload_n 2, (0, 0, 0, 0)) := rfl
theorem r175_235 (d : Nat) (v : Nat) (l0 l1 l3 : Option Value) (st : List Value) (h : tm_H) (K : Option Value → tm_H → Prop) : tm_A d 175 235 [l0, l1, some (.ref v), l3] st h K ↔ tm_A d 175 236 [l0, l1, some (.ref v), l3] (.ref v :: st) h K := tm_s o175_235 rfl rfl rfl
theorem r175_235n (d : Nat)  (l0 l1 l3 : Option Value) (st : List Value) (h : tm_H) (K : Option Value → tm_H → Prop) : tm_A d 175 235 [l0, l1, some .null, l3] st h K ↔ tm_A d 175 236 [l0, l1, some .null, l3] (.null :: st) h K := tm_s o175_235 rfl rfl rfl
set_option maxRecDepth 20000 in
theorem o175_236 : tm_op 175 236 = some (.aload_n 0, (0, 0, 0, 0)) := rfl
theorem r175_236 (d : Nat) (v : Nat) (l1 l2 l3 : Option Value) (st : List Value) (h : tm_H) (K : Option Value → tm_H → Prop) : tm_A d 175 236 [some (.ref v), l1, l2, l3] st h K ↔ tm_A d 175 237 [some (.ref v), l1, l2, l3] (.ref v :: st) h K := tm_s o175_236 rfl rfl rfl
set_option maxRecDepth 20000 in
theorem o175_237 : tm_op 175 237 = some (.iload_n 3, (0, 0, 0, 0)) := rfl
theorem r175_237 (d : Nat) (v : Int32) (l0 l1 l2 : Option Value) (st : List Value) (h : tm_H) (K : Option Value → tm_H → Prop) : tm_A d 175 237 [l0, l1, l2, some (.int v)] st h K ↔ tm_A d 175 238 [l0, l1, l2, some (.int v)] (.int v :: st) h K := tm_s o175_237 rfl rfl rfl
set_option maxRecDepth 20000 in
theorem o175_238 : tm_op 175 238 = some (.iconst 1, (0, 0, 0, 0)) := rfl
theorem r175_238 (d : Nat) (ls : tm_Lo) (st : List Value) (h : tm_H) (K : Option Value → tm_H → Prop) : tm_A d 175 238 ls st h K ↔ tm_A d 175 239 ls (.int (1 : Int32) :: st) h K := tm_ic o175_238 (by decide)
set_option maxRecDepth 20000 in
theorem o175_239 : tm_op 175 239 = some (.iadd, (0, 0, 0, 0)) := rfl
theorem r175_239 (d : Nat) (u v : Int32) (ls : tm_Lo) (st : List Value) (h : tm_H) (K : Option Value → tm_H → Prop) : tm_A d 175 239 ls (.int u :: .int v :: st) h K ↔ tm_A d 175 240 ls (.int (v + u) :: st) h K := tm_s o175_239 rfl rfl rfl
set_option maxRecDepth 20000 in
theorem o175_240 : tm_op 175 240 = some (.iaload, (0, 0, 0, 0)) := rfl
theorem r175_240 (d : Nat) (v : Int32) (a : Nat) (ls : tm_Lo) (st : List Value) (G : tm_G) (I : Nat → Nat → Int32) (J : Nat → Nat → Int64) (R : Nat → Nat → Option Nat) (K : Option Value → tm_H → Prop) : tm_A d 175 240 ls (.int v :: .ref a :: st) (G, I, J, R) K ↔ ((G.2.2 a).1 = 1 ∧ tm_in v (G.2.2 a).2) ∧ tm_A d 175 241 ls (.int (I a (tm_ix v)) :: st) (G, I, J, R) K := tm_iald o175_240
set_option maxRecDepth 20000 in
theorem o175_241 : tm_op 175 241 = some (.invokevirtual 27, (2, 121, 2, 10)) := rfl
theorem r175_241 (d : Nat) (v1 : Int32) (a : Nat) (ls : tm_Lo) (st : List Value) (h : tm_H) (K : Option Value → tm_H → Prop) : tm_A (d + 1) 175 241 ls (.int v1 :: .ref a :: st) h K ↔ (h.1.2.2 a = (0, 10) ∧ tm_cs st) ∧ tm_R d 121 [.ref a, .int v1] h (fun r h' => tm_A (d + 1) 175 244 ls (r.toList ++ st) h' K) := tm_callV (as := [.int v1]) o175_241 rfl rfl rfl rfl
set_option maxRecDepth 20000 in
theorem o175_244 : tm_op 175 244 = some (.if_icmp .eq 615, (0, 0, 0, 0)) := rfl
theorem r175_244 (d : Nat) (y x : Int32) (ls : tm_Lo) (st : List Value) (h : tm_H) (K : Option Value → tm_H → Prop) : tm_A d 175 244 ls (.int y :: .int x :: st) h K ↔ if x = y then tm_A d 175 859 ls st h K else tm_A d 175 247 ls st h K := tm_b o175_244 rfl rfl rfl rfl
set_option maxRecDepth 20000 in
theorem o175_247 : tm_op 175 247 = some (.iconst 0, (0, 0, 0, 0)) := rfl
theorem r175_247 (d : Nat) (ls : tm_Lo) (st : List Value) (h : tm_H) (K : Option Value → tm_H → Prop) : tm_A d 175 247 ls st h K ↔ tm_A d 175 248 ls (.int (0 : Int32) :: st) h K := tm_ic o175_247 (by decide)
set_option maxRecDepth 20000 in
theorem o175_248 : tm_op 175 248 = some (.ireturn, (0, 0, 0, 0)) := rfl
theorem r175_248 (d : Nat) (v : Int32) (ls : tm_Lo) (h : tm_H) (K : Option Value → tm_H → Prop) : tm_A d 175 248 ls [.int v] h K ↔ (v = 0 ∨ v = 1) ∧ K (some (.int v)) h := tm_retz o175_248 rfl
set_option maxRecDepth 20000 in
theorem o175_249 : tm_op 175 249 = some (.aload_n 1, (0, 0, 0, 0)) := rfl
theorem r175_249 (d : Nat) (v : Nat) (l0 l2 l3 : Option Value) (st : List Value) (h : tm_H) (K : Option Value → tm_H → Prop) : tm_A d 175 249 [l0, some (.ref v), l2, l3] st h K ↔ tm_A d 175 250 [l0, some (.ref v), l2, l3] (.ref v :: st) h K := tm_s o175_249 rfl rfl rfl
theorem r175_249n (d : Nat)  (l0 l2 l3 : Option Value) (st : List Value) (h : tm_H) (K : Option Value → tm_H → Prop) : tm_A d 175 249 [l0, some .null, l2, l3] st h K ↔ tm_A d 175 250 [l0, some .null, l2, l3] (.null :: st) h K := tm_s o175_249 rfl rfl rfl
set_option maxRecDepth 20000 in
theorem o175_250 : tm_op 175 250 = some (.invokevirtual 28, (2, 89, 1, 9)) := rfl
theorem r175_250 (d : Nat) (a : Nat) (ls : tm_Lo) (st : List Value) (h : tm_H) (K : Option Value → tm_H → Prop) : tm_A (d + 1) 175 250 ls (.ref a :: st) h K ↔ (h.1.2.2 a = (0, 9) ∧ tm_cs st) ∧ tm_R d 89 [.ref a] h (fun r h' => tm_A (d + 1) 175 253 ls (r.toList ++ st) h' K) := tm_callV (as := []) o175_250 rfl rfl rfl rfl
set_option maxRecDepth 20000 in
theorem o175_253 : tm_op 175 253 = some (.aload_n 2, (0, 0, 0, 0)) := rfl
theorem r175_253 (d : Nat) (v : Nat) (l0 l1 l3 : Option Value) (st : List Value) (h : tm_H) (K : Option Value → tm_H → Prop) : tm_A d 175 253 [l0, l1, some (.ref v), l3] st h K ↔ tm_A d 175 254 [l0, l1, some (.ref v), l3] (.ref v :: st) h K := tm_s o175_253 rfl rfl rfl
theorem r175_253n (d : Nat)  (l0 l1 l3 : Option Value) (st : List Value) (h : tm_H) (K : Option Value → tm_H → Prop) : tm_A d 175 253 [l0, l1, some .null, l3] st h K ↔ tm_A d 175 254 [l0, l1, some .null, l3] (.null :: st) h K := tm_s o175_253 rfl rfl rfl
set_option maxRecDepth 20000 in
theorem o175_254 : tm_op 175 254 = some (.invokevirtual 32, (2, 131, 1, 10)) := rfl
theorem r175_254 (d : Nat) (a : Nat) (ls : tm_Lo) (st : List Value) (h : tm_H) (K : Option Value → tm_H → Prop) : tm_A (d + 1) 175 254 ls (.ref a :: st) h K ↔ (h.1.2.2 a = (0, 10) ∧ tm_cs st) ∧ tm_R d 131 [.ref a] h (fun r h' => tm_A (d + 1) 175 257 ls (r.toList ++ st) h' K) := tm_callV (as := []) o175_254 rfl rfl rfl rfl
set_option maxRecDepth 20000 in
theorem o175_257 : tm_op 175 257 = some (.if_icmp .eq 602, (0, 0, 0, 0)) := rfl
theorem r175_257 (d : Nat) (y x : Int32) (ls : tm_Lo) (st : List Value) (h : tm_H) (K : Option Value → tm_H → Prop) : tm_A d 175 257 ls (.int y :: .int x :: st) h K ↔ if x = y then tm_A d 175 859 ls st h K else tm_A d 175 260 ls st h K := tm_b o175_257 rfl rfl rfl rfl
set_option maxRecDepth 20000 in
theorem o175_260 : tm_op 175 260 = some (.iconst 0, (0, 0, 0, 0)) := rfl
theorem r175_260 (d : Nat) (ls : tm_Lo) (st : List Value) (h : tm_H) (K : Option Value → tm_H → Prop) : tm_A d 175 260 ls st h K ↔ tm_A d 175 261 ls (.int (0 : Int32) :: st) h K := tm_ic o175_260 (by decide)
set_option maxRecDepth 20000 in
theorem o175_261 : tm_op 175 261 = some (.ireturn, (0, 0, 0, 0)) := rfl
theorem r175_261 (d : Nat) (v : Int32) (ls : tm_Lo) (h : tm_H) (K : Option Value → tm_H → Prop) : tm_A d 175 261 ls [.int v] h K ↔ (v = 0 ∨ v = 1) ∧ K (some (.int v)) h := tm_retz o175_261 rfl
set_option maxRecDepth 20000 in
theorem o175_262 : tm_op 175 262 = some (.aload_n 1, (0, 0, 0, 0)) := rfl
theorem r175_262 (d : Nat) (v : Nat) (l0 l2 l3 : Option Value) (st : List Value) (h : tm_H) (K : Option Value → tm_H → Prop) : tm_A d 175 262 [l0, some (.ref v), l2, l3] st h K ↔ tm_A d 175 263 [l0, some (.ref v), l2, l3] (.ref v :: st) h K := tm_s o175_262 rfl rfl rfl
theorem r175_262n (d : Nat)  (l0 l2 l3 : Option Value) (st : List Value) (h : tm_H) (K : Option Value → tm_H → Prop) : tm_A d 175 262 [l0, some .null, l2, l3] st h K ↔ tm_A d 175 263 [l0, some .null, l2, l3] (.null :: st) h K := tm_s o175_262 rfl rfl rfl
set_option maxRecDepth 20000 in
theorem o175_263 : tm_op 175 263 = some (.invokevirtual 33, (2, 90, 1, 9)) := rfl
theorem r175_263 (d : Nat) (a : Nat) (ls : tm_Lo) (st : List Value) (h : tm_H) (K : Option Value → tm_H → Prop) : tm_A (d + 1) 175 263 ls (.ref a :: st) h K ↔ (h.1.2.2 a = (0, 9) ∧ tm_cs st) ∧ tm_R d 90 [.ref a] h (fun r h' => tm_A (d + 1) 175 266 ls (r.toList ++ st) h' K) := tm_callV (as := []) o175_263 rfl rfl rfl rfl
set_option maxRecDepth 20000 in
theorem o175_266 : tm_op 175 266 = some (.aload_n 2, (0, 0, 0, 0)) := rfl
theorem r175_266 (d : Nat) (v : Nat) (l0 l1 l3 : Option Value) (st : List Value) (h : tm_H) (K : Option Value → tm_H → Prop) : tm_A d 175 266 [l0, l1, some (.ref v), l3] st h K ↔ tm_A d 175 267 [l0, l1, some (.ref v), l3] (.ref v :: st) h K := tm_s o175_266 rfl rfl rfl
theorem r175_266n (d : Nat)  (l0 l1 l3 : Option Value) (st : List Value) (h : tm_H) (K : Option Value → tm_H → Prop) : tm_A d 175 266 [l0, l1, some .null, l3] st h K ↔ tm_A d 175 267 [l0, l1, some .null, l3] (.null :: st) h K := tm_s o175_266 rfl rfl rfl
set_option maxRecDepth 20000 in
theorem o175_267 : tm_op 175 267 = some (.invokevirtual 36, (2, 133, 1, 10)) := rfl
theorem r175_267 (d : Nat) (a : Nat) (ls : tm_Lo) (st : List Value) (h : tm_H) (K : Option Value → tm_H → Prop) : tm_A (d + 1) 175 267 ls (.ref a :: st) h K ↔ (h.1.2.2 a = (0, 10) ∧ tm_cs st) ∧ tm_R d 133 [.ref a] h (fun r h' => tm_A (d + 1) 175 270 ls (r.toList ++ st) h' K) := tm_callV (as := []) o175_267 rfl rfl rfl rfl
set_option maxRecDepth 20000 in
theorem o175_270 : tm_op 175 270 = some (.if_icmp .eq 589, (0, 0, 0, 0)) := rfl
theorem r175_270 (d : Nat) (y x : Int32) (ls : tm_Lo) (st : List Value) (h : tm_H) (K : Option Value → tm_H → Prop) : tm_A d 175 270 ls (.int y :: .int x :: st) h K ↔ if x = y then tm_A d 175 859 ls st h K else tm_A d 175 273 ls st h K := tm_b o175_270 rfl rfl rfl rfl
set_option maxRecDepth 20000 in
theorem o175_273 : tm_op 175 273 = some (.iconst 0, (0, 0, 0, 0)) := rfl
theorem r175_273 (d : Nat) (ls : tm_Lo) (st : List Value) (h : tm_H) (K : Option Value → tm_H → Prop) : tm_A d 175 273 ls st h K ↔ tm_A d 175 274 ls (.int (0 : Int32) :: st) h K := tm_ic o175_273 (by decide)
set_option maxRecDepth 20000 in
theorem o175_274 : tm_op 175 274 = some (.ireturn, (0, 0, 0, 0)) := rfl
theorem r175_274 (d : Nat) (v : Int32) (ls : tm_Lo) (h : tm_H) (K : Option Value → tm_H → Prop) : tm_A d 175 274 ls [.int v] h K ↔ (v = 0 ∨ v = 1) ∧ K (some (.int v)) h := tm_retz o175_274 rfl
set_option maxRecDepth 20000 in
theorem o175_275 : tm_op 175 275 = some (.aload_n 1, (0, 0, 0, 0)) := rfl
theorem r175_275 (d : Nat) (v : Nat) (l0 l2 l3 : Option Value) (st : List Value) (h : tm_H) (K : Option Value → tm_H → Prop) : tm_A d 175 275 [l0, some (.ref v), l2, l3] st h K ↔ tm_A d 175 276 [l0, some (.ref v), l2, l3] (.ref v :: st) h K := tm_s o175_275 rfl rfl rfl
theorem r175_275n (d : Nat)  (l0 l2 l3 : Option Value) (st : List Value) (h : tm_H) (K : Option Value → tm_H → Prop) : tm_A d 175 275 [l0, some .null, l2, l3] st h K ↔ tm_A d 175 276 [l0, some .null, l2, l3] (.null :: st) h K := tm_s o175_275 rfl rfl rfl
set_option maxRecDepth 20000 in
theorem o175_276 : tm_op 175 276 = some (.aload_n 0, (0, 0, 0, 0)) := rfl
theorem r175_276 (d : Nat) (v : Nat) (l1 l2 l3 : Option Value) (st : List Value) (h : tm_H) (K : Option Value → tm_H → Prop) : tm_A d 175 276 [some (.ref v), l1, l2, l3] st h K ↔ tm_A d 175 277 [some (.ref v), l1, l2, l3] (.ref v :: st) h K := tm_s o175_276 rfl rfl rfl
set_option maxRecDepth 20000 in
theorem o175_277 : tm_op 175 277 = some (.iload_n 3, (0, 0, 0, 0)) := rfl
theorem r175_277 (d : Nat) (v : Int32) (l0 l1 l2 : Option Value) (st : List Value) (h : tm_H) (K : Option Value → tm_H → Prop) : tm_A d 175 277 [l0, l1, l2, some (.int v)] st h K ↔ tm_A d 175 278 [l0, l1, l2, some (.int v)] (.int v :: st) h K := tm_s o175_277 rfl rfl rfl
set_option maxRecDepth 20000 in
theorem o175_278 : tm_op 175 278 = some (.iconst 1, (0, 0, 0, 0)) := rfl
theorem r175_278 (d : Nat) (ls : tm_Lo) (st : List Value) (h : tm_H) (K : Option Value → tm_H → Prop) : tm_A d 175 278 ls st h K ↔ tm_A d 175 279 ls (.int (1 : Int32) :: st) h K := tm_ic o175_278 (by decide)
set_option maxRecDepth 20000 in
theorem o175_279 : tm_op 175 279 = some (.iadd, (0, 0, 0, 0)) := rfl
theorem r175_279 (d : Nat) (u v : Int32) (ls : tm_Lo) (st : List Value) (h : tm_H) (K : Option Value → tm_H → Prop) : tm_A d 175 279 ls (.int u :: .int v :: st) h K ↔ tm_A d 175 280 ls (.int (v + u) :: st) h K := tm_s o175_279 rfl rfl rfl
set_option maxRecDepth 20000 in
theorem o175_280 : tm_op 175 280 = some (.iaload, (0, 0, 0, 0)) := rfl
theorem r175_280 (d : Nat) (v : Int32) (a : Nat) (ls : tm_Lo) (st : List Value) (G : tm_G) (I : Nat → Nat → Int32) (J : Nat → Nat → Int64) (R : Nat → Nat → Option Nat) (K : Option Value → tm_H → Prop) : tm_A d 175 280 ls (.int v :: .ref a :: st) (G, I, J, R) K ↔ ((G.2.2 a).1 = 1 ∧ tm_in v (G.2.2 a).2) ∧ tm_A d 175 281 ls (.int (I a (tm_ix v)) :: st) (G, I, J, R) K := tm_iald o175_280
set_option maxRecDepth 20000 in
theorem o175_281 : tm_op 175 281 = some (.invokevirtual 37, (2, 91, 2, 9)) := rfl
theorem r175_281 (d : Nat) (v1 : Int32) (a : Nat) (ls : tm_Lo) (st : List Value) (h : tm_H) (K : Option Value → tm_H → Prop) : tm_A (d + 1) 175 281 ls (.int v1 :: .ref a :: st) h K ↔ (h.1.2.2 a = (0, 9) ∧ tm_cs st) ∧ tm_R d 91 [.ref a, .int v1] h (fun r h' => tm_A (d + 1) 175 284 ls (r.toList ++ st) h' K) := tm_callV (as := [.int v1]) o175_281 rfl rfl rfl rfl
set_option maxRecDepth 20000 in
theorem o175_284 : tm_op 175 284 = some (.aload_n 2, (0, 0, 0, 0)) := rfl
theorem r175_284 (d : Nat) (v : Nat) (l0 l1 l3 : Option Value) (st : List Value) (h : tm_H) (K : Option Value → tm_H → Prop) : tm_A d 175 284 [l0, l1, some (.ref v), l3] st h K ↔ tm_A d 175 285 [l0, l1, some (.ref v), l3] (.ref v :: st) h K := tm_s o175_284 rfl rfl rfl
theorem r175_284n (d : Nat)  (l0 l1 l3 : Option Value) (st : List Value) (h : tm_H) (K : Option Value → tm_H → Prop) : tm_A d 175 284 [l0, l1, some .null, l3] st h K ↔ tm_A d 175 285 [l0, l1, some .null, l3] (.null :: st) h K := tm_s o175_284 rfl rfl rfl
set_option maxRecDepth 20000 in
theorem o175_285 : tm_op 175 285 = some (.aload_n 0, (0, 0, 0, 0)) := rfl
theorem r175_285 (d : Nat) (v : Nat) (l1 l2 l3 : Option Value) (st : List Value) (h : tm_H) (K : Option Value → tm_H → Prop) : tm_A d 175 285 [some (.ref v), l1, l2, l3] st h K ↔ tm_A d 175 286 [some (.ref v), l1, l2, l3] (.ref v :: st) h K := tm_s o175_285 rfl rfl rfl
set_option maxRecDepth 20000 in
theorem o175_286 : tm_op 175 286 = some (.iload_n 3, (0, 0, 0, 0)) := rfl
theorem r175_286 (d : Nat) (v : Int32) (l0 l1 l2 : Option Value) (st : List Value) (h : tm_H) (K : Option Value → tm_H → Prop) : tm_A d 175 286 [l0, l1, l2, some (.int v)] st h K ↔ tm_A d 175 287 [l0, l1, l2, some (.int v)] (.int v :: st) h K := tm_s o175_286 rfl rfl rfl
set_option maxRecDepth 20000 in
theorem o175_287 : tm_op 175 287 = some (.iconst 1, (0, 0, 0, 0)) := rfl
theorem r175_287 (d : Nat) (ls : tm_Lo) (st : List Value) (h : tm_H) (K : Option Value → tm_H → Prop) : tm_A d 175 287 ls st h K ↔ tm_A d 175 288 ls (.int (1 : Int32) :: st) h K := tm_ic o175_287 (by decide)
set_option maxRecDepth 20000 in
theorem o175_288 : tm_op 175 288 = some (.iadd, (0, 0, 0, 0)) := rfl
theorem r175_288 (d : Nat) (u v : Int32) (ls : tm_Lo) (st : List Value) (h : tm_H) (K : Option Value → tm_H → Prop) : tm_A d 175 288 ls (.int u :: .int v :: st) h K ↔ tm_A d 175 289 ls (.int (v + u) :: st) h K := tm_s o175_288 rfl rfl rfl
set_option maxRecDepth 20000 in
theorem o175_289 : tm_op 175 289 = some (.iaload, (0, 0, 0, 0)) := rfl
theorem r175_289 (d : Nat) (v : Int32) (a : Nat) (ls : tm_Lo) (st : List Value) (G : tm_G) (I : Nat → Nat → Int32) (J : Nat → Nat → Int64) (R : Nat → Nat → Option Nat) (K : Option Value → tm_H → Prop) : tm_A d 175 289 ls (.int v :: .ref a :: st) (G, I, J, R) K ↔ ((G.2.2 a).1 = 1 ∧ tm_in v (G.2.2 a).2) ∧ tm_A d 175 290 ls (.int (I a (tm_ix v)) :: st) (G, I, J, R) K := tm_iald o175_289
set_option maxRecDepth 20000 in
theorem o175_290 : tm_op 175 290 = some (.invokevirtual 40, (2, 135, 2, 10)) := rfl
theorem r175_290 (d : Nat) (v1 : Int32) (a : Nat) (ls : tm_Lo) (st : List Value) (h : tm_H) (K : Option Value → tm_H → Prop) : tm_A (d + 1) 175 290 ls (.int v1 :: .ref a :: st) h K ↔ (h.1.2.2 a = (0, 10) ∧ tm_cs st) ∧ tm_R d 135 [.ref a, .int v1] h (fun r h' => tm_A (d + 1) 175 293 ls (r.toList ++ st) h' K) := tm_callV (as := [.int v1]) o175_290 rfl rfl rfl rfl
set_option maxRecDepth 20000 in
theorem o175_293 : tm_op 175 293 = some (.if_icmp .eq 566, (0, 0, 0, 0)) := rfl
theorem r175_293 (d : Nat) (y x : Int32) (ls : tm_Lo) (st : List Value) (h : tm_H) (K : Option Value → tm_H → Prop) : tm_A d 175 293 ls (.int y :: .int x :: st) h K ↔ if x = y then tm_A d 175 859 ls st h K else tm_A d 175 296 ls st h K := tm_b o175_293 rfl rfl rfl rfl
set_option maxRecDepth 20000 in
theorem o175_296 : tm_op 175 296 = some (.iconst 0, (0, 0, 0, 0)) := rfl
theorem r175_296 (d : Nat) (ls : tm_Lo) (st : List Value) (h : tm_H) (K : Option Value → tm_H → Prop) : tm_A d 175 296 ls st h K ↔ tm_A d 175 297 ls (.int (0 : Int32) :: st) h K := tm_ic o175_296 (by decide)
set_option maxRecDepth 20000 in
theorem o175_297 : tm_op 175 297 = some (.ireturn, (0, 0, 0, 0)) := rfl
theorem r175_297 (d : Nat) (v : Int32) (ls : tm_Lo) (h : tm_H) (K : Option Value → tm_H → Prop) : tm_A d 175 297 ls [.int v] h K ↔ (v = 0 ∨ v = 1) ∧ K (some (.int v)) h := tm_retz o175_297 rfl
set_option maxRecDepth 20000 in
theorem o175_298 : tm_op 175 298 = some (.aload_n 1, (0, 0, 0, 0)) := rfl
theorem r175_298 (d : Nat) (v : Nat) (l0 l2 l3 : Option Value) (st : List Value) (h : tm_H) (K : Option Value → tm_H → Prop) : tm_A d 175 298 [l0, some (.ref v), l2, l3] st h K ↔ tm_A d 175 299 [l0, some (.ref v), l2, l3] (.ref v :: st) h K := tm_s o175_298 rfl rfl rfl
theorem r175_298n (d : Nat)  (l0 l2 l3 : Option Value) (st : List Value) (h : tm_H) (K : Option Value → tm_H → Prop) : tm_A d 175 298 [l0, some .null, l2, l3] st h K ↔ tm_A d 175 299 [l0, some .null, l2, l3] (.null :: st) h K := tm_s o175_298 rfl rfl rfl
set_option maxRecDepth 20000 in
theorem o175_299 : tm_op 175 299 = some (.aload_n 0, (0, 0, 0, 0)) := rfl
theorem r175_299 (d : Nat) (v : Nat) (l1 l2 l3 : Option Value) (st : List Value) (h : tm_H) (K : Option Value → tm_H → Prop) : tm_A d 175 299 [some (.ref v), l1, l2, l3] st h K ↔ tm_A d 175 300 [some (.ref v), l1, l2, l3] (.ref v :: st) h K := tm_s o175_299 rfl rfl rfl
set_option maxRecDepth 20000 in
theorem o175_300 : tm_op 175 300 = some (.iload_n 3, (0, 0, 0, 0)) := rfl
theorem r175_300 (d : Nat) (v : Int32) (l0 l1 l2 : Option Value) (st : List Value) (h : tm_H) (K : Option Value → tm_H → Prop) : tm_A d 175 300 [l0, l1, l2, some (.int v)] st h K ↔ tm_A d 175 301 [l0, l1, l2, some (.int v)] (.int v :: st) h K := tm_s o175_300 rfl rfl rfl
set_option maxRecDepth 20000 in
theorem o175_301 : tm_op 175 301 = some (.iconst 1, (0, 0, 0, 0)) := rfl
theorem r175_301 (d : Nat) (ls : tm_Lo) (st : List Value) (h : tm_H) (K : Option Value → tm_H → Prop) : tm_A d 175 301 ls st h K ↔ tm_A d 175 302 ls (.int (1 : Int32) :: st) h K := tm_ic o175_301 (by decide)
set_option maxRecDepth 20000 in
theorem o175_302 : tm_op 175 302 = some (.iadd, (0, 0, 0, 0)) := rfl
theorem r175_302 (d : Nat) (u v : Int32) (ls : tm_Lo) (st : List Value) (h : tm_H) (K : Option Value → tm_H → Prop) : tm_A d 175 302 ls (.int u :: .int v :: st) h K ↔ tm_A d 175 303 ls (.int (v + u) :: st) h K := tm_s o175_302 rfl rfl rfl
set_option maxRecDepth 20000 in
theorem o175_303 : tm_op 175 303 = some (.iaload, (0, 0, 0, 0)) := rfl
theorem r175_303 (d : Nat) (v : Int32) (a : Nat) (ls : tm_Lo) (st : List Value) (G : tm_G) (I : Nat → Nat → Int32) (J : Nat → Nat → Int64) (R : Nat → Nat → Option Nat) (K : Option Value → tm_H → Prop) : tm_A d 175 303 ls (.int v :: .ref a :: st) (G, I, J, R) K ↔ ((G.2.2 a).1 = 1 ∧ tm_in v (G.2.2 a).2) ∧ tm_A d 175 304 ls (.int (I a (tm_ix v)) :: st) (G, I, J, R) K := tm_iald o175_303
set_option maxRecDepth 20000 in
theorem o175_304 : tm_op 175 304 = some (.aload_n 0, (0, 0, 0, 0)) := rfl
theorem r175_304 (d : Nat) (v : Nat) (l1 l2 l3 : Option Value) (st : List Value) (h : tm_H) (K : Option Value → tm_H → Prop) : tm_A d 175 304 [some (.ref v), l1, l2, l3] st h K ↔ tm_A d 175 305 [some (.ref v), l1, l2, l3] (.ref v :: st) h K := tm_s o175_304 rfl rfl rfl
set_option maxRecDepth 20000 in
theorem o175_305 : tm_op 175 305 = some (.iload_n 3, (0, 0, 0, 0)) := rfl
theorem r175_305 (d : Nat) (v : Int32) (l0 l1 l2 : Option Value) (st : List Value) (h : tm_H) (K : Option Value → tm_H → Prop) : tm_A d 175 305 [l0, l1, l2, some (.int v)] st h K ↔ tm_A d 175 306 [l0, l1, l2, some (.int v)] (.int v :: st) h K := tm_s o175_305 rfl rfl rfl
set_option maxRecDepth 20000 in
theorem o175_306 : tm_op 175 306 = some (.iconst 2, (0, 0, 0, 0)) := rfl
theorem r175_306 (d : Nat) (ls : tm_Lo) (st : List Value) (h : tm_H) (K : Option Value → tm_H → Prop) : tm_A d 175 306 ls st h K ↔ tm_A d 175 307 ls (.int (2 : Int32) :: st) h K := tm_ic o175_306 (by decide)
set_option maxRecDepth 20000 in
theorem o175_307 : tm_op 175 307 = some (.iadd, (0, 0, 0, 0)) := rfl
theorem r175_307 (d : Nat) (u v : Int32) (ls : tm_Lo) (st : List Value) (h : tm_H) (K : Option Value → tm_H → Prop) : tm_A d 175 307 ls (.int u :: .int v :: st) h K ↔ tm_A d 175 308 ls (.int (v + u) :: st) h K := tm_s o175_307 rfl rfl rfl
set_option maxRecDepth 20000 in
theorem o175_308 : tm_op 175 308 = some (.iaload, (0, 0, 0, 0)) := rfl
theorem r175_308 (d : Nat) (v : Int32) (a : Nat) (ls : tm_Lo) (st : List Value) (G : tm_G) (I : Nat → Nat → Int32) (J : Nat → Nat → Int64) (R : Nat → Nat → Option Nat) (K : Option Value → tm_H → Prop) : tm_A d 175 308 ls (.int v :: .ref a :: st) (G, I, J, R) K ↔ ((G.2.2 a).1 = 1 ∧ tm_in v (G.2.2 a).2) ∧ tm_A d 175 309 ls (.int (I a (tm_ix v)) :: st) (G, I, J, R) K := tm_iald o175_308
set_option maxRecDepth 20000 in
theorem o175_309 : tm_op 175 309 = some (.invokevirtual 41, (2, 92, 3, 9)) := rfl
theorem r175_309 (d : Nat) (v1 : Int32) (v2 : Int32) (a : Nat) (ls : tm_Lo) (st : List Value) (h : tm_H) (K : Option Value → tm_H → Prop) : tm_A (d + 1) 175 309 ls (.int v2 :: .int v1 :: .ref a :: st) h K ↔ (h.1.2.2 a = (0, 9) ∧ tm_cs st) ∧ tm_R d 92 [.ref a, .int v1, .int v2] h (fun r h' => tm_A (d + 1) 175 312 ls (r.toList ++ st) h' K) := tm_callV (as := [.int v1, .int v2]) o175_309 rfl rfl rfl rfl
set_option maxRecDepth 20000 in
theorem o175_312 : tm_op 175 312 = some (.aload_n 2, (0, 0, 0, 0)) := rfl
theorem r175_312 (d : Nat) (v : Nat) (l0 l1 l3 : Option Value) (st : List Value) (h : tm_H) (K : Option Value → tm_H → Prop) : tm_A d 175 312 [l0, l1, some (.ref v), l3] st h K ↔ tm_A d 175 313 [l0, l1, some (.ref v), l3] (.ref v :: st) h K := tm_s o175_312 rfl rfl rfl
theorem r175_312n (d : Nat)  (l0 l1 l3 : Option Value) (st : List Value) (h : tm_H) (K : Option Value → tm_H → Prop) : tm_A d 175 312 [l0, l1, some .null, l3] st h K ↔ tm_A d 175 313 [l0, l1, some .null, l3] (.null :: st) h K := tm_s o175_312 rfl rfl rfl
set_option maxRecDepth 20000 in
theorem o175_313 : tm_op 175 313 = some (.aload_n 0, (0, 0, 0, 0)) := rfl
theorem r175_313 (d : Nat) (v : Nat) (l1 l2 l3 : Option Value) (st : List Value) (h : tm_H) (K : Option Value → tm_H → Prop) : tm_A d 175 313 [some (.ref v), l1, l2, l3] st h K ↔ tm_A d 175 314 [some (.ref v), l1, l2, l3] (.ref v :: st) h K := tm_s o175_313 rfl rfl rfl
set_option maxRecDepth 20000 in
theorem o175_314 : tm_op 175 314 = some (.iload_n 3, (0, 0, 0, 0)) := rfl
theorem r175_314 (d : Nat) (v : Int32) (l0 l1 l2 : Option Value) (st : List Value) (h : tm_H) (K : Option Value → tm_H → Prop) : tm_A d 175 314 [l0, l1, l2, some (.int v)] st h K ↔ tm_A d 175 315 [l0, l1, l2, some (.int v)] (.int v :: st) h K := tm_s o175_314 rfl rfl rfl
set_option maxRecDepth 20000 in
theorem o175_315 : tm_op 175 315 = some (.iconst 1, (0, 0, 0, 0)) := rfl
theorem r175_315 (d : Nat) (ls : tm_Lo) (st : List Value) (h : tm_H) (K : Option Value → tm_H → Prop) : tm_A d 175 315 ls st h K ↔ tm_A d 175 316 ls (.int (1 : Int32) :: st) h K := tm_ic o175_315 (by decide)
set_option maxRecDepth 20000 in
theorem o175_316 : tm_op 175 316 = some (.iadd, (0, 0, 0, 0)) := rfl
theorem r175_316 (d : Nat) (u v : Int32) (ls : tm_Lo) (st : List Value) (h : tm_H) (K : Option Value → tm_H → Prop) : tm_A d 175 316 ls (.int u :: .int v :: st) h K ↔ tm_A d 175 317 ls (.int (v + u) :: st) h K := tm_s o175_316 rfl rfl rfl
set_option maxRecDepth 20000 in
theorem o175_317 : tm_op 175 317 = some (.iaload, (0, 0, 0, 0)) := rfl
theorem r175_317 (d : Nat) (v : Int32) (a : Nat) (ls : tm_Lo) (st : List Value) (G : tm_G) (I : Nat → Nat → Int32) (J : Nat → Nat → Int64) (R : Nat → Nat → Option Nat) (K : Option Value → tm_H → Prop) : tm_A d 175 317 ls (.int v :: .ref a :: st) (G, I, J, R) K ↔ ((G.2.2 a).1 = 1 ∧ tm_in v (G.2.2 a).2) ∧ tm_A d 175 318 ls (.int (I a (tm_ix v)) :: st) (G, I, J, R) K := tm_iald o175_317
set_option maxRecDepth 20000 in
theorem o175_318 : tm_op 175 318 = some (.aload_n 0, (0, 0, 0, 0)) := rfl
theorem r175_318 (d : Nat) (v : Nat) (l1 l2 l3 : Option Value) (st : List Value) (h : tm_H) (K : Option Value → tm_H → Prop) : tm_A d 175 318 [some (.ref v), l1, l2, l3] st h K ↔ tm_A d 175 319 [some (.ref v), l1, l2, l3] (.ref v :: st) h K := tm_s o175_318 rfl rfl rfl
set_option maxRecDepth 20000 in
theorem o175_319 : tm_op 175 319 = some (.iload_n 3, (0, 0, 0, 0)) := rfl
theorem r175_319 (d : Nat) (v : Int32) (l0 l1 l2 : Option Value) (st : List Value) (h : tm_H) (K : Option Value → tm_H → Prop) : tm_A d 175 319 [l0, l1, l2, some (.int v)] st h K ↔ tm_A d 175 320 [l0, l1, l2, some (.int v)] (.int v :: st) h K := tm_s o175_319 rfl rfl rfl
set_option maxRecDepth 20000 in
theorem o175_320 : tm_op 175 320 = some (.iconst 2, (0, 0, 0, 0)) := rfl
theorem r175_320 (d : Nat) (ls : tm_Lo) (st : List Value) (h : tm_H) (K : Option Value → tm_H → Prop) : tm_A d 175 320 ls st h K ↔ tm_A d 175 321 ls (.int (2 : Int32) :: st) h K := tm_ic o175_320 (by decide)
set_option maxRecDepth 20000 in
theorem o175_321 : tm_op 175 321 = some (.iadd, (0, 0, 0, 0)) := rfl
theorem r175_321 (d : Nat) (u v : Int32) (ls : tm_Lo) (st : List Value) (h : tm_H) (K : Option Value → tm_H → Prop) : tm_A d 175 321 ls (.int u :: .int v :: st) h K ↔ tm_A d 175 322 ls (.int (v + u) :: st) h K := tm_s o175_321 rfl rfl rfl
set_option maxRecDepth 20000 in
theorem o175_322 : tm_op 175 322 = some (.iaload, (0, 0, 0, 0)) := rfl
theorem r175_322 (d : Nat) (v : Int32) (a : Nat) (ls : tm_Lo) (st : List Value) (G : tm_G) (I : Nat → Nat → Int32) (J : Nat → Nat → Int64) (R : Nat → Nat → Option Nat) (K : Option Value → tm_H → Prop) : tm_A d 175 322 ls (.int v :: .ref a :: st) (G, I, J, R) K ↔ ((G.2.2 a).1 = 1 ∧ tm_in v (G.2.2 a).2) ∧ tm_A d 175 323 ls (.int (I a (tm_ix v)) :: st) (G, I, J, R) K := tm_iald o175_322
set_option maxRecDepth 20000 in
theorem o175_323 : tm_op 175 323 = some (.invokevirtual 45, (2, 136, 3, 10)) := rfl
theorem r175_323 (d : Nat) (v1 : Int32) (v2 : Int32) (a : Nat) (ls : tm_Lo) (st : List Value) (h : tm_H) (K : Option Value → tm_H → Prop) : tm_A (d + 1) 175 323 ls (.int v2 :: .int v1 :: .ref a :: st) h K ↔ (h.1.2.2 a = (0, 10) ∧ tm_cs st) ∧ tm_R d 136 [.ref a, .int v1, .int v2] h (fun r h' => tm_A (d + 1) 175 326 ls (r.toList ++ st) h' K) := tm_callV (as := [.int v1, .int v2]) o175_323 rfl rfl rfl rfl
set_option maxRecDepth 20000 in
theorem o175_326 : tm_op 175 326 = some (.if_icmp .eq 533, (0, 0, 0, 0)) := rfl
theorem r175_326 (d : Nat) (y x : Int32) (ls : tm_Lo) (st : List Value) (h : tm_H) (K : Option Value → tm_H → Prop) : tm_A d 175 326 ls (.int y :: .int x :: st) h K ↔ if x = y then tm_A d 175 859 ls st h K else tm_A d 175 329 ls st h K := tm_b o175_326 rfl rfl rfl rfl
set_option maxRecDepth 20000 in
theorem o175_329 : tm_op 175 329 = some (.iconst 0, (0, 0, 0, 0)) := rfl
theorem r175_329 (d : Nat) (ls : tm_Lo) (st : List Value) (h : tm_H) (K : Option Value → tm_H → Prop) : tm_A d 175 329 ls st h K ↔ tm_A d 175 330 ls (.int (0 : Int32) :: st) h K := tm_ic o175_329 (by decide)
set_option maxRecDepth 20000 in
theorem o175_330 : tm_op 175 330 = some (.ireturn, (0, 0, 0, 0)) := rfl
theorem r175_330 (d : Nat) (v : Int32) (ls : tm_Lo) (h : tm_H) (K : Option Value → tm_H → Prop) : tm_A d 175 330 ls [.int v] h K ↔ (v = 0 ∨ v = 1) ∧ K (some (.int v)) h := tm_retz o175_330 rfl
set_option maxRecDepth 20000 in
theorem o175_331 : tm_op 175 331 = some (.aload_n 1, (0, 0, 0, 0)) := rfl
theorem r175_331 (d : Nat) (v : Nat) (l0 l2 l3 : Option Value) (st : List Value) (h : tm_H) (K : Option Value → tm_H → Prop) : tm_A d 175 331 [l0, some (.ref v), l2, l3] st h K ↔ tm_A d 175 332 [l0, some (.ref v), l2, l3] (.ref v :: st) h K := tm_s o175_331 rfl rfl rfl
theorem r175_331n (d : Nat)  (l0 l2 l3 : Option Value) (st : List Value) (h : tm_H) (K : Option Value → tm_H → Prop) : tm_A d 175 331 [l0, some .null, l2, l3] st h K ↔ tm_A d 175 332 [l0, some .null, l2, l3] (.null :: st) h K := tm_s o175_331 rfl rfl rfl
set_option maxRecDepth 20000 in
theorem o175_332 : tm_op 175 332 = some (.aload_n 0, (0, 0, 0, 0)) := rfl
theorem r175_332 (d : Nat) (v : Nat) (l1 l2 l3 : Option Value) (st : List Value) (h : tm_H) (K : Option Value → tm_H → Prop) : tm_A d 175 332 [some (.ref v), l1, l2, l3] st h K ↔ tm_A d 175 333 [some (.ref v), l1, l2, l3] (.ref v :: st) h K := tm_s o175_332 rfl rfl rfl
set_option maxRecDepth 20000 in
theorem o175_333 : tm_op 175 333 = some (.iload_n 3, (0, 0, 0, 0)) := rfl
theorem r175_333 (d : Nat) (v : Int32) (l0 l1 l2 : Option Value) (st : List Value) (h : tm_H) (K : Option Value → tm_H → Prop) : tm_A d 175 333 [l0, l1, l2, some (.int v)] st h K ↔ tm_A d 175 334 [l0, l1, l2, some (.int v)] (.int v :: st) h K := tm_s o175_333 rfl rfl rfl
set_option maxRecDepth 20000 in
theorem o175_334 : tm_op 175 334 = some (.iconst 1, (0, 0, 0, 0)) := rfl
theorem r175_334 (d : Nat) (ls : tm_Lo) (st : List Value) (h : tm_H) (K : Option Value → tm_H → Prop) : tm_A d 175 334 ls st h K ↔ tm_A d 175 335 ls (.int (1 : Int32) :: st) h K := tm_ic o175_334 (by decide)
set_option maxRecDepth 20000 in
theorem o175_335 : tm_op 175 335 = some (.iadd, (0, 0, 0, 0)) := rfl
theorem r175_335 (d : Nat) (u v : Int32) (ls : tm_Lo) (st : List Value) (h : tm_H) (K : Option Value → tm_H → Prop) : tm_A d 175 335 ls (.int u :: .int v :: st) h K ↔ tm_A d 175 336 ls (.int (v + u) :: st) h K := tm_s o175_335 rfl rfl rfl
set_option maxRecDepth 20000 in
theorem o175_336 : tm_op 175 336 = some (.iaload, (0, 0, 0, 0)) := rfl
theorem r175_336 (d : Nat) (v : Int32) (a : Nat) (ls : tm_Lo) (st : List Value) (G : tm_G) (I : Nat → Nat → Int32) (J : Nat → Nat → Int64) (R : Nat → Nat → Option Nat) (K : Option Value → tm_H → Prop) : tm_A d 175 336 ls (.int v :: .ref a :: st) (G, I, J, R) K ↔ ((G.2.2 a).1 = 1 ∧ tm_in v (G.2.2 a).2) ∧ tm_A d 175 337 ls (.int (I a (tm_ix v)) :: st) (G, I, J, R) K := tm_iald o175_336
set_option maxRecDepth 20000 in
theorem o175_337 : tm_op 175 337 = some (.aload_n 0, (0, 0, 0, 0)) := rfl
theorem r175_337 (d : Nat) (v : Nat) (l1 l2 l3 : Option Value) (st : List Value) (h : tm_H) (K : Option Value → tm_H → Prop) : tm_A d 175 337 [some (.ref v), l1, l2, l3] st h K ↔ tm_A d 175 338 [some (.ref v), l1, l2, l3] (.ref v :: st) h K := tm_s o175_337 rfl rfl rfl
set_option maxRecDepth 20000 in
theorem o175_338 : tm_op 175 338 = some (.iload_n 3, (0, 0, 0, 0)) := rfl
theorem r175_338 (d : Nat) (v : Int32) (l0 l1 l2 : Option Value) (st : List Value) (h : tm_H) (K : Option Value → tm_H → Prop) : tm_A d 175 338 [l0, l1, l2, some (.int v)] st h K ↔ tm_A d 175 339 [l0, l1, l2, some (.int v)] (.int v :: st) h K := tm_s o175_338 rfl rfl rfl
set_option maxRecDepth 20000 in
theorem o175_339 : tm_op 175 339 = some (.iconst 2, (0, 0, 0, 0)) := rfl
theorem r175_339 (d : Nat) (ls : tm_Lo) (st : List Value) (h : tm_H) (K : Option Value → tm_H → Prop) : tm_A d 175 339 ls st h K ↔ tm_A d 175 340 ls (.int (2 : Int32) :: st) h K := tm_ic o175_339 (by decide)
set_option maxRecDepth 20000 in
theorem o175_340 : tm_op 175 340 = some (.iadd, (0, 0, 0, 0)) := rfl
theorem r175_340 (d : Nat) (u v : Int32) (ls : tm_Lo) (st : List Value) (h : tm_H) (K : Option Value → tm_H → Prop) : tm_A d 175 340 ls (.int u :: .int v :: st) h K ↔ tm_A d 175 341 ls (.int (v + u) :: st) h K := tm_s o175_340 rfl rfl rfl
set_option maxRecDepth 20000 in
theorem o175_341 : tm_op 175 341 = some (.iaload, (0, 0, 0, 0)) := rfl
theorem r175_341 (d : Nat) (v : Int32) (a : Nat) (ls : tm_Lo) (st : List Value) (G : tm_G) (I : Nat → Nat → Int32) (J : Nat → Nat → Int64) (R : Nat → Nat → Option Nat) (K : Option Value → tm_H → Prop) : tm_A d 175 341 ls (.int v :: .ref a :: st) (G, I, J, R) K ↔ ((G.2.2 a).1 = 1 ∧ tm_in v (G.2.2 a).2) ∧ tm_A d 175 342 ls (.int (I a (tm_ix v)) :: st) (G, I, J, R) K := tm_iald o175_341
set_option maxRecDepth 20000 in
theorem o175_342 : tm_op 175 342 = some (.aload_n 0, (0, 0, 0, 0)) := rfl
theorem r175_342 (d : Nat) (v : Nat) (l1 l2 l3 : Option Value) (st : List Value) (h : tm_H) (K : Option Value → tm_H → Prop) : tm_A d 175 342 [some (.ref v), l1, l2, l3] st h K ↔ tm_A d 175 343 [some (.ref v), l1, l2, l3] (.ref v :: st) h K := tm_s o175_342 rfl rfl rfl
set_option maxRecDepth 20000 in
theorem o175_343 : tm_op 175 343 = some (.iload_n 3, (0, 0, 0, 0)) := rfl
theorem r175_343 (d : Nat) (v : Int32) (l0 l1 l2 : Option Value) (st : List Value) (h : tm_H) (K : Option Value → tm_H → Prop) : tm_A d 175 343 [l0, l1, l2, some (.int v)] st h K ↔ tm_A d 175 344 [l0, l1, l2, some (.int v)] (.int v :: st) h K := tm_s o175_343 rfl rfl rfl
set_option maxRecDepth 20000 in
theorem o175_344 : tm_op 175 344 = some (.iconst 3, (0, 0, 0, 0)) := rfl
theorem r175_344 (d : Nat) (ls : tm_Lo) (st : List Value) (h : tm_H) (K : Option Value → tm_H → Prop) : tm_A d 175 344 ls st h K ↔ tm_A d 175 345 ls (.int (3 : Int32) :: st) h K := tm_ic o175_344 (by decide)
set_option maxRecDepth 20000 in
theorem o175_345 : tm_op 175 345 = some (.iadd, (0, 0, 0, 0)) := rfl
theorem r175_345 (d : Nat) (u v : Int32) (ls : tm_Lo) (st : List Value) (h : tm_H) (K : Option Value → tm_H → Prop) : tm_A d 175 345 ls (.int u :: .int v :: st) h K ↔ tm_A d 175 346 ls (.int (v + u) :: st) h K := tm_s o175_345 rfl rfl rfl
set_option maxRecDepth 20000 in
theorem o175_346 : tm_op 175 346 = some (.iaload, (0, 0, 0, 0)) := rfl
theorem r175_346 (d : Nat) (v : Int32) (a : Nat) (ls : tm_Lo) (st : List Value) (G : tm_G) (I : Nat → Nat → Int32) (J : Nat → Nat → Int64) (R : Nat → Nat → Option Nat) (K : Option Value → tm_H → Prop) : tm_A d 175 346 ls (.int v :: .ref a :: st) (G, I, J, R) K ↔ ((G.2.2 a).1 = 1 ∧ tm_in v (G.2.2 a).2) ∧ tm_A d 175 347 ls (.int (I a (tm_ix v)) :: st) (G, I, J, R) K := tm_iald o175_346
set_option maxRecDepth 20000 in
theorem o175_347 : tm_op 175 347 = some (.invokevirtual 46, (2, 93, 4, 9)) := rfl
theorem r175_347 (d : Nat) (v1 : Int32) (v2 : Int32) (v3 : Int32) (a : Nat) (ls : tm_Lo) (st : List Value) (h : tm_H) (K : Option Value → tm_H → Prop) : tm_A (d + 1) 175 347 ls (.int v3 :: .int v2 :: .int v1 :: .ref a :: st) h K ↔ (h.1.2.2 a = (0, 9) ∧ tm_cs st) ∧ tm_R d 93 [.ref a, .int v1, .int v2, .int v3] h (fun r h' => tm_A (d + 1) 175 350 ls (r.toList ++ st) h' K) := tm_callV (as := [.int v1, .int v2, .int v3]) o175_347 rfl rfl rfl rfl
set_option maxRecDepth 20000 in
theorem o175_350 : tm_op 175 350 = some (.aload_n 2, (0, 0, 0, 0)) := rfl
theorem r175_350 (d : Nat) (v : Nat) (l0 l1 l3 : Option Value) (st : List Value) (h : tm_H) (K : Option Value → tm_H → Prop) : tm_A d 175 350 [l0, l1, some (.ref v), l3] st h K ↔ tm_A d 175 351 [l0, l1, some (.ref v), l3] (.ref v :: st) h K := tm_s o175_350 rfl rfl rfl
theorem r175_350n (d : Nat)  (l0 l1 l3 : Option Value) (st : List Value) (h : tm_H) (K : Option Value → tm_H → Prop) : tm_A d 175 350 [l0, l1, some .null, l3] st h K ↔ tm_A d 175 351 [l0, l1, some .null, l3] (.null :: st) h K := tm_s o175_350 rfl rfl rfl
set_option maxRecDepth 20000 in
theorem o175_351 : tm_op 175 351 = some (.aload_n 0, (0, 0, 0, 0)) := rfl
theorem r175_351 (d : Nat) (v : Nat) (l1 l2 l3 : Option Value) (st : List Value) (h : tm_H) (K : Option Value → tm_H → Prop) : tm_A d 175 351 [some (.ref v), l1, l2, l3] st h K ↔ tm_A d 175 352 [some (.ref v), l1, l2, l3] (.ref v :: st) h K := tm_s o175_351 rfl rfl rfl
set_option maxRecDepth 20000 in
theorem o175_352 : tm_op 175 352 = some (.iload_n 3, (0, 0, 0, 0)) := rfl
theorem r175_352 (d : Nat) (v : Int32) (l0 l1 l2 : Option Value) (st : List Value) (h : tm_H) (K : Option Value → tm_H → Prop) : tm_A d 175 352 [l0, l1, l2, some (.int v)] st h K ↔ tm_A d 175 353 [l0, l1, l2, some (.int v)] (.int v :: st) h K := tm_s o175_352 rfl rfl rfl
set_option maxRecDepth 20000 in
theorem o175_353 : tm_op 175 353 = some (.iconst 1, (0, 0, 0, 0)) := rfl
theorem r175_353 (d : Nat) (ls : tm_Lo) (st : List Value) (h : tm_H) (K : Option Value → tm_H → Prop) : tm_A d 175 353 ls st h K ↔ tm_A d 175 354 ls (.int (1 : Int32) :: st) h K := tm_ic o175_353 (by decide)
set_option maxRecDepth 20000 in
theorem o175_354 : tm_op 175 354 = some (.iadd, (0, 0, 0, 0)) := rfl
theorem r175_354 (d : Nat) (u v : Int32) (ls : tm_Lo) (st : List Value) (h : tm_H) (K : Option Value → tm_H → Prop) : tm_A d 175 354 ls (.int u :: .int v :: st) h K ↔ tm_A d 175 355 ls (.int (v + u) :: st) h K := tm_s o175_354 rfl rfl rfl
set_option maxRecDepth 20000 in
theorem o175_355 : tm_op 175 355 = some (.iaload, (0, 0, 0, 0)) := rfl
theorem r175_355 (d : Nat) (v : Int32) (a : Nat) (ls : tm_Lo) (st : List Value) (G : tm_G) (I : Nat → Nat → Int32) (J : Nat → Nat → Int64) (R : Nat → Nat → Option Nat) (K : Option Value → tm_H → Prop) : tm_A d 175 355 ls (.int v :: .ref a :: st) (G, I, J, R) K ↔ ((G.2.2 a).1 = 1 ∧ tm_in v (G.2.2 a).2) ∧ tm_A d 175 356 ls (.int (I a (tm_ix v)) :: st) (G, I, J, R) K := tm_iald o175_355
set_option maxRecDepth 20000 in
theorem o175_356 : tm_op 175 356 = some (.aload_n 0, (0, 0, 0, 0)) := rfl
theorem r175_356 (d : Nat) (v : Nat) (l1 l2 l3 : Option Value) (st : List Value) (h : tm_H) (K : Option Value → tm_H → Prop) : tm_A d 175 356 [some (.ref v), l1, l2, l3] st h K ↔ tm_A d 175 357 [some (.ref v), l1, l2, l3] (.ref v :: st) h K := tm_s o175_356 rfl rfl rfl
set_option maxRecDepth 20000 in
theorem o175_357 : tm_op 175 357 = some (.iload_n 3, (0, 0, 0, 0)) := rfl
theorem r175_357 (d : Nat) (v : Int32) (l0 l1 l2 : Option Value) (st : List Value) (h : tm_H) (K : Option Value → tm_H → Prop) : tm_A d 175 357 [l0, l1, l2, some (.int v)] st h K ↔ tm_A d 175 358 [l0, l1, l2, some (.int v)] (.int v :: st) h K := tm_s o175_357 rfl rfl rfl
set_option maxRecDepth 20000 in
theorem o175_358 : tm_op 175 358 = some (.iconst 2, (0, 0, 0, 0)) := rfl
theorem r175_358 (d : Nat) (ls : tm_Lo) (st : List Value) (h : tm_H) (K : Option Value → tm_H → Prop) : tm_A d 175 358 ls st h K ↔ tm_A d 175 359 ls (.int (2 : Int32) :: st) h K := tm_ic o175_358 (by decide)
set_option maxRecDepth 20000 in
theorem o175_359 : tm_op 175 359 = some (.iadd, (0, 0, 0, 0)) := rfl
theorem r175_359 (d : Nat) (u v : Int32) (ls : tm_Lo) (st : List Value) (h : tm_H) (K : Option Value → tm_H → Prop) : tm_A d 175 359 ls (.int u :: .int v :: st) h K ↔ tm_A d 175 360 ls (.int (v + u) :: st) h K := tm_s o175_359 rfl rfl rfl
set_option maxRecDepth 20000 in
theorem o175_360 : tm_op 175 360 = some (.iaload, (0, 0, 0, 0)) := rfl
theorem r175_360 (d : Nat) (v : Int32) (a : Nat) (ls : tm_Lo) (st : List Value) (G : tm_G) (I : Nat → Nat → Int32) (J : Nat → Nat → Int64) (R : Nat → Nat → Option Nat) (K : Option Value → tm_H → Prop) : tm_A d 175 360 ls (.int v :: .ref a :: st) (G, I, J, R) K ↔ ((G.2.2 a).1 = 1 ∧ tm_in v (G.2.2 a).2) ∧ tm_A d 175 361 ls (.int (I a (tm_ix v)) :: st) (G, I, J, R) K := tm_iald o175_360
set_option maxRecDepth 20000 in
theorem o175_361 : tm_op 175 361 = some (.aload_n 0, (0, 0, 0, 0)) := rfl
theorem r175_361 (d : Nat) (v : Nat) (l1 l2 l3 : Option Value) (st : List Value) (h : tm_H) (K : Option Value → tm_H → Prop) : tm_A d 175 361 [some (.ref v), l1, l2, l3] st h K ↔ tm_A d 175 362 [some (.ref v), l1, l2, l3] (.ref v :: st) h K := tm_s o175_361 rfl rfl rfl
set_option maxRecDepth 20000 in
theorem o175_362 : tm_op 175 362 = some (.iload_n 3, (0, 0, 0, 0)) := rfl
theorem r175_362 (d : Nat) (v : Int32) (l0 l1 l2 : Option Value) (st : List Value) (h : tm_H) (K : Option Value → tm_H → Prop) : tm_A d 175 362 [l0, l1, l2, some (.int v)] st h K ↔ tm_A d 175 363 [l0, l1, l2, some (.int v)] (.int v :: st) h K := tm_s o175_362 rfl rfl rfl
set_option maxRecDepth 20000 in
theorem o175_363 : tm_op 175 363 = some (.iconst 3, (0, 0, 0, 0)) := rfl
theorem r175_363 (d : Nat) (ls : tm_Lo) (st : List Value) (h : tm_H) (K : Option Value → tm_H → Prop) : tm_A d 175 363 ls st h K ↔ tm_A d 175 364 ls (.int (3 : Int32) :: st) h K := tm_ic o175_363 (by decide)
set_option maxRecDepth 20000 in
theorem o175_364 : tm_op 175 364 = some (.iadd, (0, 0, 0, 0)) := rfl
theorem r175_364 (d : Nat) (u v : Int32) (ls : tm_Lo) (st : List Value) (h : tm_H) (K : Option Value → tm_H → Prop) : tm_A d 175 364 ls (.int u :: .int v :: st) h K ↔ tm_A d 175 365 ls (.int (v + u) :: st) h K := tm_s o175_364 rfl rfl rfl
set_option maxRecDepth 20000 in
theorem o175_365 : tm_op 175 365 = some (.iaload, (0, 0, 0, 0)) := rfl
theorem r175_365 (d : Nat) (v : Int32) (a : Nat) (ls : tm_Lo) (st : List Value) (G : tm_G) (I : Nat → Nat → Int32) (J : Nat → Nat → Int64) (R : Nat → Nat → Option Nat) (K : Option Value → tm_H → Prop) : tm_A d 175 365 ls (.int v :: .ref a :: st) (G, I, J, R) K ↔ ((G.2.2 a).1 = 1 ∧ tm_in v (G.2.2 a).2) ∧ tm_A d 175 366 ls (.int (I a (tm_ix v)) :: st) (G, I, J, R) K := tm_iald o175_365
set_option maxRecDepth 20000 in
theorem o175_366 : tm_op 175 366 = some (.invokevirtual 50, (2, 146, 4, 10)) := rfl
theorem r175_366 (d : Nat) (v1 : Int32) (v2 : Int32) (v3 : Int32) (a : Nat) (ls : tm_Lo) (st : List Value) (h : tm_H) (K : Option Value → tm_H → Prop) : tm_A (d + 1) 175 366 ls (.int v3 :: .int v2 :: .int v1 :: .ref a :: st) h K ↔ (h.1.2.2 a = (0, 10) ∧ tm_cs st) ∧ tm_R d 146 [.ref a, .int v1, .int v2, .int v3] h (fun r h' => tm_A (d + 1) 175 369 ls (r.toList ++ st) h' K) := tm_callV (as := [.int v1, .int v2, .int v3]) o175_366 rfl rfl rfl rfl
set_option maxRecDepth 20000 in
theorem o175_369 : tm_op 175 369 = some (.if_icmp .eq 490, (0, 0, 0, 0)) := rfl
theorem r175_369 (d : Nat) (y x : Int32) (ls : tm_Lo) (st : List Value) (h : tm_H) (K : Option Value → tm_H → Prop) : tm_A d 175 369 ls (.int y :: .int x :: st) h K ↔ if x = y then tm_A d 175 859 ls st h K else tm_A d 175 372 ls st h K := tm_b o175_369 rfl rfl rfl rfl
set_option maxRecDepth 20000 in
theorem o175_372 : tm_op 175 372 = some (.iconst 0, (0, 0, 0, 0)) := rfl
theorem r175_372 (d : Nat) (ls : tm_Lo) (st : List Value) (h : tm_H) (K : Option Value → tm_H → Prop) : tm_A d 175 372 ls st h K ↔ tm_A d 175 373 ls (.int (0 : Int32) :: st) h K := tm_ic o175_372 (by decide)
set_option maxRecDepth 20000 in
theorem o175_373 : tm_op 175 373 = some (.ireturn, (0, 0, 0, 0)) := rfl
theorem r175_373 (d : Nat) (v : Int32) (ls : tm_Lo) (h : tm_H) (K : Option Value → tm_H → Prop) : tm_A d 175 373 ls [.int v] h K ↔ (v = 0 ∨ v = 1) ∧ K (some (.int v)) h := tm_retz o175_373 rfl
set_option maxRecDepth 20000 in
theorem o175_374 : tm_op 175 374 = some (.aload_n 1, (0, 0, 0, 0)) := rfl
theorem r175_374 (d : Nat) (v : Nat) (l0 l2 l3 : Option Value) (st : List Value) (h : tm_H) (K : Option Value → tm_H → Prop) : tm_A d 175 374 [l0, some (.ref v), l2, l3] st h K ↔ tm_A d 175 375 [l0, some (.ref v), l2, l3] (.ref v :: st) h K := tm_s o175_374 rfl rfl rfl
theorem r175_374n (d : Nat)  (l0 l2 l3 : Option Value) (st : List Value) (h : tm_H) (K : Option Value → tm_H → Prop) : tm_A d 175 374 [l0, some .null, l2, l3] st h K ↔ tm_A d 175 375 [l0, some .null, l2, l3] (.null :: st) h K := tm_s o175_374 rfl rfl rfl
set_option maxRecDepth 20000 in
theorem o175_375 : tm_op 175 375 = some (.aload_n 0, (0, 0, 0, 0)) := rfl
theorem r175_375 (d : Nat) (v : Nat) (l1 l2 l3 : Option Value) (st : List Value) (h : tm_H) (K : Option Value → tm_H → Prop) : tm_A d 175 375 [some (.ref v), l1, l2, l3] st h K ↔ tm_A d 175 376 [some (.ref v), l1, l2, l3] (.ref v :: st) h K := tm_s o175_375 rfl rfl rfl
set_option maxRecDepth 20000 in
theorem o175_376 : tm_op 175 376 = some (.iload_n 3, (0, 0, 0, 0)) := rfl
theorem r175_376 (d : Nat) (v : Int32) (l0 l1 l2 : Option Value) (st : List Value) (h : tm_H) (K : Option Value → tm_H → Prop) : tm_A d 175 376 [l0, l1, l2, some (.int v)] st h K ↔ tm_A d 175 377 [l0, l1, l2, some (.int v)] (.int v :: st) h K := tm_s o175_376 rfl rfl rfl
set_option maxRecDepth 20000 in
theorem o175_377 : tm_op 175 377 = some (.iconst 1, (0, 0, 0, 0)) := rfl
theorem r175_377 (d : Nat) (ls : tm_Lo) (st : List Value) (h : tm_H) (K : Option Value → tm_H → Prop) : tm_A d 175 377 ls st h K ↔ tm_A d 175 378 ls (.int (1 : Int32) :: st) h K := tm_ic o175_377 (by decide)
set_option maxRecDepth 20000 in
theorem o175_378 : tm_op 175 378 = some (.iadd, (0, 0, 0, 0)) := rfl
theorem r175_378 (d : Nat) (u v : Int32) (ls : tm_Lo) (st : List Value) (h : tm_H) (K : Option Value → tm_H → Prop) : tm_A d 175 378 ls (.int u :: .int v :: st) h K ↔ tm_A d 175 379 ls (.int (v + u) :: st) h K := tm_s o175_378 rfl rfl rfl
set_option maxRecDepth 20000 in
theorem o175_379 : tm_op 175 379 = some (.iaload, (0, 0, 0, 0)) := rfl
theorem r175_379 (d : Nat) (v : Int32) (a : Nat) (ls : tm_Lo) (st : List Value) (G : tm_G) (I : Nat → Nat → Int32) (J : Nat → Nat → Int64) (R : Nat → Nat → Option Nat) (K : Option Value → tm_H → Prop) : tm_A d 175 379 ls (.int v :: .ref a :: st) (G, I, J, R) K ↔ ((G.2.2 a).1 = 1 ∧ tm_in v (G.2.2 a).2) ∧ tm_A d 175 380 ls (.int (I a (tm_ix v)) :: st) (G, I, J, R) K := tm_iald o175_379
set_option maxRecDepth 20000 in
theorem o175_380 : tm_op 175 380 = some (.invokevirtual 51, (2, 94, 2, 9)) := rfl
theorem r175_380 (d : Nat) (v1 : Int32) (a : Nat) (ls : tm_Lo) (st : List Value) (h : tm_H) (K : Option Value → tm_H → Prop) : tm_A (d + 1) 175 380 ls (.int v1 :: .ref a :: st) h K ↔ (h.1.2.2 a = (0, 9) ∧ tm_cs st) ∧ tm_R d 94 [.ref a, .int v1] h (fun r h' => tm_A (d + 1) 175 383 ls (r.toList ++ st) h' K) := tm_callV (as := [.int v1]) o175_380 rfl rfl rfl rfl
set_option maxRecDepth 20000 in
theorem o175_383 : tm_op 175 383 = some (.aload_n 2, (0, 0, 0, 0)) := rfl
theorem r175_383 (d : Nat) (v : Nat) (l0 l1 l3 : Option Value) (st : List Value) (h : tm_H) (K : Option Value → tm_H → Prop) : tm_A d 175 383 [l0, l1, some (.ref v), l3] st h K ↔ tm_A d 175 384 [l0, l1, some (.ref v), l3] (.ref v :: st) h K := tm_s o175_383 rfl rfl rfl
theorem r175_383n (d : Nat)  (l0 l1 l3 : Option Value) (st : List Value) (h : tm_H) (K : Option Value → tm_H → Prop) : tm_A d 175 383 [l0, l1, some .null, l3] st h K ↔ tm_A d 175 384 [l0, l1, some .null, l3] (.null :: st) h K := tm_s o175_383 rfl rfl rfl
set_option maxRecDepth 20000 in
theorem o175_384 : tm_op 175 384 = some (.aload_n 0, (0, 0, 0, 0)) := rfl
theorem r175_384 (d : Nat) (v : Nat) (l1 l2 l3 : Option Value) (st : List Value) (h : tm_H) (K : Option Value → tm_H → Prop) : tm_A d 175 384 [some (.ref v), l1, l2, l3] st h K ↔ tm_A d 175 385 [some (.ref v), l1, l2, l3] (.ref v :: st) h K := tm_s o175_384 rfl rfl rfl
set_option maxRecDepth 20000 in
theorem o175_385 : tm_op 175 385 = some (.iload_n 3, (0, 0, 0, 0)) := rfl
theorem r175_385 (d : Nat) (v : Int32) (l0 l1 l2 : Option Value) (st : List Value) (h : tm_H) (K : Option Value → tm_H → Prop) : tm_A d 175 385 [l0, l1, l2, some (.int v)] st h K ↔ tm_A d 175 386 [l0, l1, l2, some (.int v)] (.int v :: st) h K := tm_s o175_385 rfl rfl rfl
set_option maxRecDepth 20000 in
theorem o175_386 : tm_op 175 386 = some (.iconst 1, (0, 0, 0, 0)) := rfl
theorem r175_386 (d : Nat) (ls : tm_Lo) (st : List Value) (h : tm_H) (K : Option Value → tm_H → Prop) : tm_A d 175 386 ls st h K ↔ tm_A d 175 387 ls (.int (1 : Int32) :: st) h K := tm_ic o175_386 (by decide)
set_option maxRecDepth 20000 in
theorem o175_387 : tm_op 175 387 = some (.iadd, (0, 0, 0, 0)) := rfl
theorem r175_387 (d : Nat) (u v : Int32) (ls : tm_Lo) (st : List Value) (h : tm_H) (K : Option Value → tm_H → Prop) : tm_A d 175 387 ls (.int u :: .int v :: st) h K ↔ tm_A d 175 388 ls (.int (v + u) :: st) h K := tm_s o175_387 rfl rfl rfl
set_option maxRecDepth 20000 in
theorem o175_388 : tm_op 175 388 = some (.iaload, (0, 0, 0, 0)) := rfl
theorem r175_388 (d : Nat) (v : Int32) (a : Nat) (ls : tm_Lo) (st : List Value) (G : tm_G) (I : Nat → Nat → Int32) (J : Nat → Nat → Int64) (R : Nat → Nat → Option Nat) (K : Option Value → tm_H → Prop) : tm_A d 175 388 ls (.int v :: .ref a :: st) (G, I, J, R) K ↔ ((G.2.2 a).1 = 1 ∧ tm_in v (G.2.2 a).2) ∧ tm_A d 175 389 ls (.int (I a (tm_ix v)) :: st) (G, I, J, R) K := tm_iald o175_388
set_option maxRecDepth 20000 in
theorem o175_389 : tm_op 175 389 = some (.invokevirtual 54, (2, 147, 2, 10)) := rfl
theorem r175_389 (d : Nat) (v1 : Int32) (a : Nat) (ls : tm_Lo) (st : List Value) (h : tm_H) (K : Option Value → tm_H → Prop) : tm_A (d + 1) 175 389 ls (.int v1 :: .ref a :: st) h K ↔ (h.1.2.2 a = (0, 10) ∧ tm_cs st) ∧ tm_R d 147 [.ref a, .int v1] h (fun r h' => tm_A (d + 1) 175 392 ls (r.toList ++ st) h' K) := tm_callV (as := [.int v1]) o175_389 rfl rfl rfl rfl
set_option maxRecDepth 20000 in
theorem o175_392 : tm_op 175 392 = some (.if_icmp .eq 467, (0, 0, 0, 0)) := rfl
theorem r175_392 (d : Nat) (y x : Int32) (ls : tm_Lo) (st : List Value) (h : tm_H) (K : Option Value → tm_H → Prop) : tm_A d 175 392 ls (.int y :: .int x :: st) h K ↔ if x = y then tm_A d 175 859 ls st h K else tm_A d 175 395 ls st h K := tm_b o175_392 rfl rfl rfl rfl
set_option maxRecDepth 20000 in
theorem o175_395 : tm_op 175 395 = some (.iconst 0, (0, 0, 0, 0)) := rfl
theorem r175_395 (d : Nat) (ls : tm_Lo) (st : List Value) (h : tm_H) (K : Option Value → tm_H → Prop) : tm_A d 175 395 ls st h K ↔ tm_A d 175 396 ls (.int (0 : Int32) :: st) h K := tm_ic o175_395 (by decide)
set_option maxRecDepth 20000 in
theorem o175_396 : tm_op 175 396 = some (.ireturn, (0, 0, 0, 0)) := rfl
theorem r175_396 (d : Nat) (v : Int32) (ls : tm_Lo) (h : tm_H) (K : Option Value → tm_H → Prop) : tm_A d 175 396 ls [.int v] h K ↔ (v = 0 ∨ v = 1) ∧ K (some (.int v)) h := tm_retz o175_396 rfl
set_option maxRecDepth 20000 in
theorem o175_397 : tm_op 175 397 = some (.aload_n 1, (0, 0, 0, 0)) := rfl
theorem r175_397 (d : Nat) (v : Nat) (l0 l2 l3 : Option Value) (st : List Value) (h : tm_H) (K : Option Value → tm_H → Prop) : tm_A d 175 397 [l0, some (.ref v), l2, l3] st h K ↔ tm_A d 175 398 [l0, some (.ref v), l2, l3] (.ref v :: st) h K := tm_s o175_397 rfl rfl rfl
theorem r175_397n (d : Nat)  (l0 l2 l3 : Option Value) (st : List Value) (h : tm_H) (K : Option Value → tm_H → Prop) : tm_A d 175 397 [l0, some .null, l2, l3] st h K ↔ tm_A d 175 398 [l0, some .null, l2, l3] (.null :: st) h K := tm_s o175_397 rfl rfl rfl
set_option maxRecDepth 20000 in
theorem o175_398 : tm_op 175 398 = some (.aload_n 0, (0, 0, 0, 0)) := rfl
theorem r175_398 (d : Nat) (v : Nat) (l1 l2 l3 : Option Value) (st : List Value) (h : tm_H) (K : Option Value → tm_H → Prop) : tm_A d 175 398 [some (.ref v), l1, l2, l3] st h K ↔ tm_A d 175 399 [some (.ref v), l1, l2, l3] (.ref v :: st) h K := tm_s o175_398 rfl rfl rfl
set_option maxRecDepth 20000 in
theorem o175_399 : tm_op 175 399 = some (.iload_n 3, (0, 0, 0, 0)) := rfl
theorem r175_399 (d : Nat) (v : Int32) (l0 l1 l2 : Option Value) (st : List Value) (h : tm_H) (K : Option Value → tm_H → Prop) : tm_A d 175 399 [l0, l1, l2, some (.int v)] st h K ↔ tm_A d 175 400 [l0, l1, l2, some (.int v)] (.int v :: st) h K := tm_s o175_399 rfl rfl rfl
set_option maxRecDepth 20000 in
theorem o175_400 : tm_op 175 400 = some (.iconst 1, (0, 0, 0, 0)) := rfl
theorem r175_400 (d : Nat) (ls : tm_Lo) (st : List Value) (h : tm_H) (K : Option Value → tm_H → Prop) : tm_A d 175 400 ls st h K ↔ tm_A d 175 401 ls (.int (1 : Int32) :: st) h K := tm_ic o175_400 (by decide)
set_option maxRecDepth 20000 in
theorem o175_401 : tm_op 175 401 = some (.iadd, (0, 0, 0, 0)) := rfl
theorem r175_401 (d : Nat) (u v : Int32) (ls : tm_Lo) (st : List Value) (h : tm_H) (K : Option Value → tm_H → Prop) : tm_A d 175 401 ls (.int u :: .int v :: st) h K ↔ tm_A d 175 402 ls (.int (v + u) :: st) h K := tm_s o175_401 rfl rfl rfl
set_option maxRecDepth 20000 in
theorem o175_402 : tm_op 175 402 = some (.iaload, (0, 0, 0, 0)) := rfl
theorem r175_402 (d : Nat) (v : Int32) (a : Nat) (ls : tm_Lo) (st : List Value) (G : tm_G) (I : Nat → Nat → Int32) (J : Nat → Nat → Int64) (R : Nat → Nat → Option Nat) (K : Option Value → tm_H → Prop) : tm_A d 175 402 ls (.int v :: .ref a :: st) (G, I, J, R) K ↔ ((G.2.2 a).1 = 1 ∧ tm_in v (G.2.2 a).2) ∧ tm_A d 175 403 ls (.int (I a (tm_ix v)) :: st) (G, I, J, R) K := tm_iald o175_402
set_option maxRecDepth 20000 in
theorem o175_403 : tm_op 175 403 = some (.invokevirtual 55, (2, 95, 2, 9)) := rfl
theorem r175_403 (d : Nat) (v1 : Int32) (a : Nat) (ls : tm_Lo) (st : List Value) (h : tm_H) (K : Option Value → tm_H → Prop) : tm_A (d + 1) 175 403 ls (.int v1 :: .ref a :: st) h K ↔ (h.1.2.2 a = (0, 9) ∧ tm_cs st) ∧ tm_R d 95 [.ref a, .int v1] h (fun r h' => tm_A (d + 1) 175 406 ls (r.toList ++ st) h' K) := tm_callV (as := [.int v1]) o175_403 rfl rfl rfl rfl
set_option maxRecDepth 20000 in
theorem o175_406 : tm_op 175 406 = some (.aload_n 2, (0, 0, 0, 0)) := rfl
theorem r175_406 (d : Nat) (v : Nat) (l0 l1 l3 : Option Value) (st : List Value) (h : tm_H) (K : Option Value → tm_H → Prop) : tm_A d 175 406 [l0, l1, some (.ref v), l3] st h K ↔ tm_A d 175 407 [l0, l1, some (.ref v), l3] (.ref v :: st) h K := tm_s o175_406 rfl rfl rfl
theorem r175_406n (d : Nat)  (l0 l1 l3 : Option Value) (st : List Value) (h : tm_H) (K : Option Value → tm_H → Prop) : tm_A d 175 406 [l0, l1, some .null, l3] st h K ↔ tm_A d 175 407 [l0, l1, some .null, l3] (.null :: st) h K := tm_s o175_406 rfl rfl rfl
set_option maxRecDepth 20000 in
theorem o175_407 : tm_op 175 407 = some (.aload_n 0, (0, 0, 0, 0)) := rfl
theorem r175_407 (d : Nat) (v : Nat) (l1 l2 l3 : Option Value) (st : List Value) (h : tm_H) (K : Option Value → tm_H → Prop) : tm_A d 175 407 [some (.ref v), l1, l2, l3] st h K ↔ tm_A d 175 408 [some (.ref v), l1, l2, l3] (.ref v :: st) h K := tm_s o175_407 rfl rfl rfl
set_option maxRecDepth 20000 in
theorem o175_408 : tm_op 175 408 = some (.iload_n 3, (0, 0, 0, 0)) := rfl
theorem r175_408 (d : Nat) (v : Int32) (l0 l1 l2 : Option Value) (st : List Value) (h : tm_H) (K : Option Value → tm_H → Prop) : tm_A d 175 408 [l0, l1, l2, some (.int v)] st h K ↔ tm_A d 175 409 [l0, l1, l2, some (.int v)] (.int v :: st) h K := tm_s o175_408 rfl rfl rfl
set_option maxRecDepth 20000 in
theorem o175_409 : tm_op 175 409 = some (.iconst 1, (0, 0, 0, 0)) := rfl
theorem r175_409 (d : Nat) (ls : tm_Lo) (st : List Value) (h : tm_H) (K : Option Value → tm_H → Prop) : tm_A d 175 409 ls st h K ↔ tm_A d 175 410 ls (.int (1 : Int32) :: st) h K := tm_ic o175_409 (by decide)
set_option maxRecDepth 20000 in
theorem o175_410 : tm_op 175 410 = some (.iadd, (0, 0, 0, 0)) := rfl
theorem r175_410 (d : Nat) (u v : Int32) (ls : tm_Lo) (st : List Value) (h : tm_H) (K : Option Value → tm_H → Prop) : tm_A d 175 410 ls (.int u :: .int v :: st) h K ↔ tm_A d 175 411 ls (.int (v + u) :: st) h K := tm_s o175_410 rfl rfl rfl
set_option maxRecDepth 20000 in
theorem o175_411 : tm_op 175 411 = some (.iaload, (0, 0, 0, 0)) := rfl
theorem r175_411 (d : Nat) (v : Int32) (a : Nat) (ls : tm_Lo) (st : List Value) (G : tm_G) (I : Nat → Nat → Int32) (J : Nat → Nat → Int64) (R : Nat → Nat → Option Nat) (K : Option Value → tm_H → Prop) : tm_A d 175 411 ls (.int v :: .ref a :: st) (G, I, J, R) K ↔ ((G.2.2 a).1 = 1 ∧ tm_in v (G.2.2 a).2) ∧ tm_A d 175 412 ls (.int (I a (tm_ix v)) :: st) (G, I, J, R) K := tm_iald o175_411
set_option maxRecDepth 20000 in
theorem o175_412 : tm_op 175 412 = some (.invokevirtual 58, (2, 148, 2, 10)) := rfl
theorem r175_412 (d : Nat) (v1 : Int32) (a : Nat) (ls : tm_Lo) (st : List Value) (h : tm_H) (K : Option Value → tm_H → Prop) : tm_A (d + 1) 175 412 ls (.int v1 :: .ref a :: st) h K ↔ (h.1.2.2 a = (0, 10) ∧ tm_cs st) ∧ tm_R d 148 [.ref a, .int v1] h (fun r h' => tm_A (d + 1) 175 415 ls (r.toList ++ st) h' K) := tm_callV (as := [.int v1]) o175_412 rfl rfl rfl rfl
set_option maxRecDepth 20000 in
theorem o175_415 : tm_op 175 415 = some (.if_icmp .eq 444, (0, 0, 0, 0)) := rfl
theorem r175_415 (d : Nat) (y x : Int32) (ls : tm_Lo) (st : List Value) (h : tm_H) (K : Option Value → tm_H → Prop) : tm_A d 175 415 ls (.int y :: .int x :: st) h K ↔ if x = y then tm_A d 175 859 ls st h K else tm_A d 175 418 ls st h K := tm_b o175_415 rfl rfl rfl rfl
set_option maxRecDepth 20000 in
theorem o175_418 : tm_op 175 418 = some (.iconst 0, (0, 0, 0, 0)) := rfl
theorem r175_418 (d : Nat) (ls : tm_Lo) (st : List Value) (h : tm_H) (K : Option Value → tm_H → Prop) : tm_A d 175 418 ls st h K ↔ tm_A d 175 419 ls (.int (0 : Int32) :: st) h K := tm_ic o175_418 (by decide)
set_option maxRecDepth 20000 in
theorem o175_419 : tm_op 175 419 = some (.ireturn, (0, 0, 0, 0)) := rfl
theorem r175_419 (d : Nat) (v : Int32) (ls : tm_Lo) (h : tm_H) (K : Option Value → tm_H → Prop) : tm_A d 175 419 ls [.int v] h K ↔ (v = 0 ∨ v = 1) ∧ K (some (.int v)) h := tm_retz o175_419 rfl
set_option maxRecDepth 20000 in
theorem o175_420 : tm_op 175 420 = some (.aload_n 1, (0, 0, 0, 0)) := rfl
theorem r175_420 (d : Nat) (v : Nat) (l0 l2 l3 : Option Value) (st : List Value) (h : tm_H) (K : Option Value → tm_H → Prop) : tm_A d 175 420 [l0, some (.ref v), l2, l3] st h K ↔ tm_A d 175 421 [l0, some (.ref v), l2, l3] (.ref v :: st) h K := tm_s o175_420 rfl rfl rfl
theorem r175_420n (d : Nat)  (l0 l2 l3 : Option Value) (st : List Value) (h : tm_H) (K : Option Value → tm_H → Prop) : tm_A d 175 420 [l0, some .null, l2, l3] st h K ↔ tm_A d 175 421 [l0, some .null, l2, l3] (.null :: st) h K := tm_s o175_420 rfl rfl rfl
set_option maxRecDepth 20000 in
theorem o175_421 : tm_op 175 421 = some (.aload_n 0, (0, 0, 0, 0)) := rfl
theorem r175_421 (d : Nat) (v : Nat) (l1 l2 l3 : Option Value) (st : List Value) (h : tm_H) (K : Option Value → tm_H → Prop) : tm_A d 175 421 [some (.ref v), l1, l2, l3] st h K ↔ tm_A d 175 422 [some (.ref v), l1, l2, l3] (.ref v :: st) h K := tm_s o175_421 rfl rfl rfl
set_option maxRecDepth 20000 in
theorem o175_422 : tm_op 175 422 = some (.iload_n 3, (0, 0, 0, 0)) := rfl
theorem r175_422 (d : Nat) (v : Int32) (l0 l1 l2 : Option Value) (st : List Value) (h : tm_H) (K : Option Value → tm_H → Prop) : tm_A d 175 422 [l0, l1, l2, some (.int v)] st h K ↔ tm_A d 175 423 [l0, l1, l2, some (.int v)] (.int v :: st) h K := tm_s o175_422 rfl rfl rfl
set_option maxRecDepth 20000 in
theorem o175_423 : tm_op 175 423 = some (.iconst 1, (0, 0, 0, 0)) := rfl
theorem r175_423 (d : Nat) (ls : tm_Lo) (st : List Value) (h : tm_H) (K : Option Value → tm_H → Prop) : tm_A d 175 423 ls st h K ↔ tm_A d 175 424 ls (.int (1 : Int32) :: st) h K := tm_ic o175_423 (by decide)
set_option maxRecDepth 20000 in
theorem o175_424 : tm_op 175 424 = some (.iadd, (0, 0, 0, 0)) := rfl
theorem r175_424 (d : Nat) (u v : Int32) (ls : tm_Lo) (st : List Value) (h : tm_H) (K : Option Value → tm_H → Prop) : tm_A d 175 424 ls (.int u :: .int v :: st) h K ↔ tm_A d 175 425 ls (.int (v + u) :: st) h K := tm_s o175_424 rfl rfl rfl
set_option maxRecDepth 20000 in
theorem o175_425 : tm_op 175 425 = some (.iaload, (0, 0, 0, 0)) := rfl
theorem r175_425 (d : Nat) (v : Int32) (a : Nat) (ls : tm_Lo) (st : List Value) (G : tm_G) (I : Nat → Nat → Int32) (J : Nat → Nat → Int64) (R : Nat → Nat → Option Nat) (K : Option Value → tm_H → Prop) : tm_A d 175 425 ls (.int v :: .ref a :: st) (G, I, J, R) K ↔ ((G.2.2 a).1 = 1 ∧ tm_in v (G.2.2 a).2) ∧ tm_A d 175 426 ls (.int (I a (tm_ix v)) :: st) (G, I, J, R) K := tm_iald o175_425
set_option maxRecDepth 20000 in
theorem o175_426 : tm_op 175 426 = some (.aload_n 0, (0, 0, 0, 0)) := rfl
theorem r175_426 (d : Nat) (v : Nat) (l1 l2 l3 : Option Value) (st : List Value) (h : tm_H) (K : Option Value → tm_H → Prop) : tm_A d 175 426 [some (.ref v), l1, l2, l3] st h K ↔ tm_A d 175 427 [some (.ref v), l1, l2, l3] (.ref v :: st) h K := tm_s o175_426 rfl rfl rfl
set_option maxRecDepth 20000 in
theorem o175_427 : tm_op 175 427 = some (.iload_n 3, (0, 0, 0, 0)) := rfl
theorem r175_427 (d : Nat) (v : Int32) (l0 l1 l2 : Option Value) (st : List Value) (h : tm_H) (K : Option Value → tm_H → Prop) : tm_A d 175 427 [l0, l1, l2, some (.int v)] st h K ↔ tm_A d 175 428 [l0, l1, l2, some (.int v)] (.int v :: st) h K := tm_s o175_427 rfl rfl rfl
set_option maxRecDepth 20000 in
theorem o175_428 : tm_op 175 428 = some (.iconst 2, (0, 0, 0, 0)) := rfl
theorem r175_428 (d : Nat) (ls : tm_Lo) (st : List Value) (h : tm_H) (K : Option Value → tm_H → Prop) : tm_A d 175 428 ls st h K ↔ tm_A d 175 429 ls (.int (2 : Int32) :: st) h K := tm_ic o175_428 (by decide)
set_option maxRecDepth 20000 in
theorem o175_429 : tm_op 175 429 = some (.iadd, (0, 0, 0, 0)) := rfl
theorem r175_429 (d : Nat) (u v : Int32) (ls : tm_Lo) (st : List Value) (h : tm_H) (K : Option Value → tm_H → Prop) : tm_A d 175 429 ls (.int u :: .int v :: st) h K ↔ tm_A d 175 430 ls (.int (v + u) :: st) h K := tm_s o175_429 rfl rfl rfl
set_option maxRecDepth 20000 in
theorem o175_430 : tm_op 175 430 = some (.iaload, (0, 0, 0, 0)) := rfl
theorem r175_430 (d : Nat) (v : Int32) (a : Nat) (ls : tm_Lo) (st : List Value) (G : tm_G) (I : Nat → Nat → Int32) (J : Nat → Nat → Int64) (R : Nat → Nat → Option Nat) (K : Option Value → tm_H → Prop) : tm_A d 175 430 ls (.int v :: .ref a :: st) (G, I, J, R) K ↔ ((G.2.2 a).1 = 1 ∧ tm_in v (G.2.2 a).2) ∧ tm_A d 175 431 ls (.int (I a (tm_ix v)) :: st) (G, I, J, R) K := tm_iald o175_430
set_option maxRecDepth 20000 in
theorem o175_431 : tm_op 175 431 = some (.aload_n 0, (0, 0, 0, 0)) := rfl
theorem r175_431 (d : Nat) (v : Nat) (l1 l2 l3 : Option Value) (st : List Value) (h : tm_H) (K : Option Value → tm_H → Prop) : tm_A d 175 431 [some (.ref v), l1, l2, l3] st h K ↔ tm_A d 175 432 [some (.ref v), l1, l2, l3] (.ref v :: st) h K := tm_s o175_431 rfl rfl rfl
set_option maxRecDepth 20000 in
theorem o175_432 : tm_op 175 432 = some (.iload_n 3, (0, 0, 0, 0)) := rfl
theorem r175_432 (d : Nat) (v : Int32) (l0 l1 l2 : Option Value) (st : List Value) (h : tm_H) (K : Option Value → tm_H → Prop) : tm_A d 175 432 [l0, l1, l2, some (.int v)] st h K ↔ tm_A d 175 433 [l0, l1, l2, some (.int v)] (.int v :: st) h K := tm_s o175_432 rfl rfl rfl
set_option maxRecDepth 20000 in
theorem o175_433 : tm_op 175 433 = some (.iconst 3, (0, 0, 0, 0)) := rfl
theorem r175_433 (d : Nat) (ls : tm_Lo) (st : List Value) (h : tm_H) (K : Option Value → tm_H → Prop) : tm_A d 175 433 ls st h K ↔ tm_A d 175 434 ls (.int (3 : Int32) :: st) h K := tm_ic o175_433 (by decide)
set_option maxRecDepth 20000 in
theorem o175_434 : tm_op 175 434 = some (.iadd, (0, 0, 0, 0)) := rfl
theorem r175_434 (d : Nat) (u v : Int32) (ls : tm_Lo) (st : List Value) (h : tm_H) (K : Option Value → tm_H → Prop) : tm_A d 175 434 ls (.int u :: .int v :: st) h K ↔ tm_A d 175 435 ls (.int (v + u) :: st) h K := tm_s o175_434 rfl rfl rfl
set_option maxRecDepth 20000 in
theorem o175_435 : tm_op 175 435 = some (.iaload, (0, 0, 0, 0)) := rfl
theorem r175_435 (d : Nat) (v : Int32) (a : Nat) (ls : tm_Lo) (st : List Value) (G : tm_G) (I : Nat → Nat → Int32) (J : Nat → Nat → Int64) (R : Nat → Nat → Option Nat) (K : Option Value → tm_H → Prop) : tm_A d 175 435 ls (.int v :: .ref a :: st) (G, I, J, R) K ↔ ((G.2.2 a).1 = 1 ∧ tm_in v (G.2.2 a).2) ∧ tm_A d 175 436 ls (.int (I a (tm_ix v)) :: st) (G, I, J, R) K := tm_iald o175_435
set_option maxRecDepth 20000 in
theorem o175_436 : tm_op 175 436 = some (.invokevirtual 59, (2, 96, 4, 9)) := rfl
theorem r175_436 (d : Nat) (v1 : Int32) (v2 : Int32) (v3 : Int32) (a : Nat) (ls : tm_Lo) (st : List Value) (h : tm_H) (K : Option Value → tm_H → Prop) : tm_A (d + 1) 175 436 ls (.int v3 :: .int v2 :: .int v1 :: .ref a :: st) h K ↔ (h.1.2.2 a = (0, 9) ∧ tm_cs st) ∧ tm_R d 96 [.ref a, .int v1, .int v2, .int v3] h (fun r h' => tm_A (d + 1) 175 439 ls (r.toList ++ st) h' K) := tm_callV (as := [.int v1, .int v2, .int v3]) o175_436 rfl rfl rfl rfl
set_option maxRecDepth 20000 in
theorem o175_439 : tm_op 175 439 = some (.aload_n 2, (0, 0, 0, 0)) := rfl
theorem r175_439 (d : Nat) (v : Nat) (l0 l1 l3 : Option Value) (st : List Value) (h : tm_H) (K : Option Value → tm_H → Prop) : tm_A d 175 439 [l0, l1, some (.ref v), l3] st h K ↔ tm_A d 175 440 [l0, l1, some (.ref v), l3] (.ref v :: st) h K := tm_s o175_439 rfl rfl rfl
theorem r175_439n (d : Nat)  (l0 l1 l3 : Option Value) (st : List Value) (h : tm_H) (K : Option Value → tm_H → Prop) : tm_A d 175 439 [l0, l1, some .null, l3] st h K ↔ tm_A d 175 440 [l0, l1, some .null, l3] (.null :: st) h K := tm_s o175_439 rfl rfl rfl
set_option maxRecDepth 20000 in
theorem o175_440 : tm_op 175 440 = some (.aload_n 0, (0, 0, 0, 0)) := rfl
theorem r175_440 (d : Nat) (v : Nat) (l1 l2 l3 : Option Value) (st : List Value) (h : tm_H) (K : Option Value → tm_H → Prop) : tm_A d 175 440 [some (.ref v), l1, l2, l3] st h K ↔ tm_A d 175 441 [some (.ref v), l1, l2, l3] (.ref v :: st) h K := tm_s o175_440 rfl rfl rfl
set_option maxRecDepth 20000 in
theorem o175_441 : tm_op 175 441 = some (.iload_n 3, (0, 0, 0, 0)) := rfl
theorem r175_441 (d : Nat) (v : Int32) (l0 l1 l2 : Option Value) (st : List Value) (h : tm_H) (K : Option Value → tm_H → Prop) : tm_A d 175 441 [l0, l1, l2, some (.int v)] st h K ↔ tm_A d 175 442 [l0, l1, l2, some (.int v)] (.int v :: st) h K := tm_s o175_441 rfl rfl rfl
set_option maxRecDepth 20000 in
theorem o175_442 : tm_op 175 442 = some (.iconst 1, (0, 0, 0, 0)) := rfl
theorem r175_442 (d : Nat) (ls : tm_Lo) (st : List Value) (h : tm_H) (K : Option Value → tm_H → Prop) : tm_A d 175 442 ls st h K ↔ tm_A d 175 443 ls (.int (1 : Int32) :: st) h K := tm_ic o175_442 (by decide)
set_option maxRecDepth 20000 in
theorem o175_443 : tm_op 175 443 = some (.iadd, (0, 0, 0, 0)) := rfl
theorem r175_443 (d : Nat) (u v : Int32) (ls : tm_Lo) (st : List Value) (h : tm_H) (K : Option Value → tm_H → Prop) : tm_A d 175 443 ls (.int u :: .int v :: st) h K ↔ tm_A d 175 444 ls (.int (v + u) :: st) h K := tm_s o175_443 rfl rfl rfl
set_option maxRecDepth 20000 in
theorem o175_444 : tm_op 175 444 = some (.iaload, (0, 0, 0, 0)) := rfl
theorem r175_444 (d : Nat) (v : Int32) (a : Nat) (ls : tm_Lo) (st : List Value) (G : tm_G) (I : Nat → Nat → Int32) (J : Nat → Nat → Int64) (R : Nat → Nat → Option Nat) (K : Option Value → tm_H → Prop) : tm_A d 175 444 ls (.int v :: .ref a :: st) (G, I, J, R) K ↔ ((G.2.2 a).1 = 1 ∧ tm_in v (G.2.2 a).2) ∧ tm_A d 175 445 ls (.int (I a (tm_ix v)) :: st) (G, I, J, R) K := tm_iald o175_444
set_option maxRecDepth 20000 in
theorem o175_445 : tm_op 175 445 = some (.aload_n 0, (0, 0, 0, 0)) := rfl
theorem r175_445 (d : Nat) (v : Nat) (l1 l2 l3 : Option Value) (st : List Value) (h : tm_H) (K : Option Value → tm_H → Prop) : tm_A d 175 445 [some (.ref v), l1, l2, l3] st h K ↔ tm_A d 175 446 [some (.ref v), l1, l2, l3] (.ref v :: st) h K := tm_s o175_445 rfl rfl rfl
set_option maxRecDepth 20000 in
theorem o175_446 : tm_op 175 446 = some (.iload_n 3, (0, 0, 0, 0)) := rfl
theorem r175_446 (d : Nat) (v : Int32) (l0 l1 l2 : Option Value) (st : List Value) (h : tm_H) (K : Option Value → tm_H → Prop) : tm_A d 175 446 [l0, l1, l2, some (.int v)] st h K ↔ tm_A d 175 447 [l0, l1, l2, some (.int v)] (.int v :: st) h K := tm_s o175_446 rfl rfl rfl
set_option maxRecDepth 20000 in
theorem o175_447 : tm_op 175 447 = some (.iconst 2, (0, 0, 0, 0)) := rfl
theorem r175_447 (d : Nat) (ls : tm_Lo) (st : List Value) (h : tm_H) (K : Option Value → tm_H → Prop) : tm_A d 175 447 ls st h K ↔ tm_A d 175 448 ls (.int (2 : Int32) :: st) h K := tm_ic o175_447 (by decide)
set_option maxRecDepth 20000 in
theorem o175_448 : tm_op 175 448 = some (.iadd, (0, 0, 0, 0)) := rfl
theorem r175_448 (d : Nat) (u v : Int32) (ls : tm_Lo) (st : List Value) (h : tm_H) (K : Option Value → tm_H → Prop) : tm_A d 175 448 ls (.int u :: .int v :: st) h K ↔ tm_A d 175 449 ls (.int (v + u) :: st) h K := tm_s o175_448 rfl rfl rfl
set_option maxRecDepth 20000 in
theorem o175_449 : tm_op 175 449 = some (.iaload, (0, 0, 0, 0)) := rfl
theorem r175_449 (d : Nat) (v : Int32) (a : Nat) (ls : tm_Lo) (st : List Value) (G : tm_G) (I : Nat → Nat → Int32) (J : Nat → Nat → Int64) (R : Nat → Nat → Option Nat) (K : Option Value → tm_H → Prop) : tm_A d 175 449 ls (.int v :: .ref a :: st) (G, I, J, R) K ↔ ((G.2.2 a).1 = 1 ∧ tm_in v (G.2.2 a).2) ∧ tm_A d 175 450 ls (.int (I a (tm_ix v)) :: st) (G, I, J, R) K := tm_iald o175_449
set_option maxRecDepth 20000 in
theorem o175_450 : tm_op 175 450 = some (.aload_n 0, (0, 0, 0, 0)) := rfl
theorem r175_450 (d : Nat) (v : Nat) (l1 l2 l3 : Option Value) (st : List Value) (h : tm_H) (K : Option Value → tm_H → Prop) : tm_A d 175 450 [some (.ref v), l1, l2, l3] st h K ↔ tm_A d 175 451 [some (.ref v), l1, l2, l3] (.ref v :: st) h K := tm_s o175_450 rfl rfl rfl
set_option maxRecDepth 20000 in
theorem o175_451 : tm_op 175 451 = some (.iload_n 3, (0, 0, 0, 0)) := rfl
theorem r175_451 (d : Nat) (v : Int32) (l0 l1 l2 : Option Value) (st : List Value) (h : tm_H) (K : Option Value → tm_H → Prop) : tm_A d 175 451 [l0, l1, l2, some (.int v)] st h K ↔ tm_A d 175 452 [l0, l1, l2, some (.int v)] (.int v :: st) h K := tm_s o175_451 rfl rfl rfl
set_option maxRecDepth 20000 in
theorem o175_452 : tm_op 175 452 = some (.iconst 3, (0, 0, 0, 0)) := rfl
theorem r175_452 (d : Nat) (ls : tm_Lo) (st : List Value) (h : tm_H) (K : Option Value → tm_H → Prop) : tm_A d 175 452 ls st h K ↔ tm_A d 175 453 ls (.int (3 : Int32) :: st) h K := tm_ic o175_452 (by decide)
set_option maxRecDepth 20000 in
theorem o175_453 : tm_op 175 453 = some (.iadd, (0, 0, 0, 0)) := rfl
theorem r175_453 (d : Nat) (u v : Int32) (ls : tm_Lo) (st : List Value) (h : tm_H) (K : Option Value → tm_H → Prop) : tm_A d 175 453 ls (.int u :: .int v :: st) h K ↔ tm_A d 175 454 ls (.int (v + u) :: st) h K := tm_s o175_453 rfl rfl rfl
set_option maxRecDepth 20000 in
theorem o175_454 : tm_op 175 454 = some (.iaload, (0, 0, 0, 0)) := rfl
theorem r175_454 (d : Nat) (v : Int32) (a : Nat) (ls : tm_Lo) (st : List Value) (G : tm_G) (I : Nat → Nat → Int32) (J : Nat → Nat → Int64) (R : Nat → Nat → Option Nat) (K : Option Value → tm_H → Prop) : tm_A d 175 454 ls (.int v :: .ref a :: st) (G, I, J, R) K ↔ ((G.2.2 a).1 = 1 ∧ tm_in v (G.2.2 a).2) ∧ tm_A d 175 455 ls (.int (I a (tm_ix v)) :: st) (G, I, J, R) K := tm_iald o175_454
set_option maxRecDepth 20000 in
theorem o175_455 : tm_op 175 455 = some (.invokevirtual 63, (2, 143, 4, 10)) := rfl
theorem r175_455 (d : Nat) (v1 : Int32) (v2 : Int32) (v3 : Int32) (a : Nat) (ls : tm_Lo) (st : List Value) (h : tm_H) (K : Option Value → tm_H → Prop) : tm_A (d + 1) 175 455 ls (.int v3 :: .int v2 :: .int v1 :: .ref a :: st) h K ↔ (h.1.2.2 a = (0, 10) ∧ tm_cs st) ∧ tm_R d 143 [.ref a, .int v1, .int v2, .int v3] h (fun r h' => tm_A (d + 1) 175 458 ls (r.toList ++ st) h' K) := tm_callV (as := [.int v1, .int v2, .int v3]) o175_455 rfl rfl rfl rfl
set_option maxRecDepth 20000 in
theorem o175_458 : tm_op 175 458 = some (.if_icmp .eq 401, (0, 0, 0, 0)) := rfl
theorem r175_458 (d : Nat) (y x : Int32) (ls : tm_Lo) (st : List Value) (h : tm_H) (K : Option Value → tm_H → Prop) : tm_A d 175 458 ls (.int y :: .int x :: st) h K ↔ if x = y then tm_A d 175 859 ls st h K else tm_A d 175 461 ls st h K := tm_b o175_458 rfl rfl rfl rfl
set_option maxRecDepth 20000 in
theorem o175_461 : tm_op 175 461 = some (.iconst 0, (0, 0, 0, 0)) := rfl
theorem r175_461 (d : Nat) (ls : tm_Lo) (st : List Value) (h : tm_H) (K : Option Value → tm_H → Prop) : tm_A d 175 461 ls st h K ↔ tm_A d 175 462 ls (.int (0 : Int32) :: st) h K := tm_ic o175_461 (by decide)
set_option maxRecDepth 20000 in
theorem o175_462 : tm_op 175 462 = some (.ireturn, (0, 0, 0, 0)) := rfl
theorem r175_462 (d : Nat) (v : Int32) (ls : tm_Lo) (h : tm_H) (K : Option Value → tm_H → Prop) : tm_A d 175 462 ls [.int v] h K ↔ (v = 0 ∨ v = 1) ∧ K (some (.int v)) h := tm_retz o175_462 rfl
set_option maxRecDepth 20000 in
theorem o175_463 : tm_op 175 463 = some (.aload_n 1, (0, 0, 0, 0)) := rfl
theorem r175_463 (d : Nat) (v : Nat) (l0 l2 l3 : Option Value) (st : List Value) (h : tm_H) (K : Option Value → tm_H → Prop) : tm_A d 175 463 [l0, some (.ref v), l2, l3] st h K ↔ tm_A d 175 464 [l0, some (.ref v), l2, l3] (.ref v :: st) h K := tm_s o175_463 rfl rfl rfl
theorem r175_463n (d : Nat)  (l0 l2 l3 : Option Value) (st : List Value) (h : tm_H) (K : Option Value → tm_H → Prop) : tm_A d 175 463 [l0, some .null, l2, l3] st h K ↔ tm_A d 175 464 [l0, some .null, l2, l3] (.null :: st) h K := tm_s o175_463 rfl rfl rfl
set_option maxRecDepth 20000 in
theorem o175_464 : tm_op 175 464 = some (.aload_n 0, (0, 0, 0, 0)) := rfl
theorem r175_464 (d : Nat) (v : Nat) (l1 l2 l3 : Option Value) (st : List Value) (h : tm_H) (K : Option Value → tm_H → Prop) : tm_A d 175 464 [some (.ref v), l1, l2, l3] st h K ↔ tm_A d 175 465 [some (.ref v), l1, l2, l3] (.ref v :: st) h K := tm_s o175_464 rfl rfl rfl
set_option maxRecDepth 20000 in
theorem o175_465 : tm_op 175 465 = some (.iload_n 3, (0, 0, 0, 0)) := rfl
theorem r175_465 (d : Nat) (v : Int32) (l0 l1 l2 : Option Value) (st : List Value) (h : tm_H) (K : Option Value → tm_H → Prop) : tm_A d 175 465 [l0, l1, l2, some (.int v)] st h K ↔ tm_A d 175 466 [l0, l1, l2, some (.int v)] (.int v :: st) h K := tm_s o175_465 rfl rfl rfl
set_option maxRecDepth 20000 in
theorem o175_466 : tm_op 175 466 = some (.iconst 1, (0, 0, 0, 0)) := rfl
theorem r175_466 (d : Nat) (ls : tm_Lo) (st : List Value) (h : tm_H) (K : Option Value → tm_H → Prop) : tm_A d 175 466 ls st h K ↔ tm_A d 175 467 ls (.int (1 : Int32) :: st) h K := tm_ic o175_466 (by decide)
set_option maxRecDepth 20000 in
theorem o175_467 : tm_op 175 467 = some (.iadd, (0, 0, 0, 0)) := rfl
theorem r175_467 (d : Nat) (u v : Int32) (ls : tm_Lo) (st : List Value) (h : tm_H) (K : Option Value → tm_H → Prop) : tm_A d 175 467 ls (.int u :: .int v :: st) h K ↔ tm_A d 175 468 ls (.int (v + u) :: st) h K := tm_s o175_467 rfl rfl rfl
set_option maxRecDepth 20000 in
theorem o175_468 : tm_op 175 468 = some (.iaload, (0, 0, 0, 0)) := rfl
theorem r175_468 (d : Nat) (v : Int32) (a : Nat) (ls : tm_Lo) (st : List Value) (G : tm_G) (I : Nat → Nat → Int32) (J : Nat → Nat → Int64) (R : Nat → Nat → Option Nat) (K : Option Value → tm_H → Prop) : tm_A d 175 468 ls (.int v :: .ref a :: st) (G, I, J, R) K ↔ ((G.2.2 a).1 = 1 ∧ tm_in v (G.2.2 a).2) ∧ tm_A d 175 469 ls (.int (I a (tm_ix v)) :: st) (G, I, J, R) K := tm_iald o175_468
set_option maxRecDepth 20000 in
theorem o175_469 : tm_op 175 469 = some (.aload_n 0, (0, 0, 0, 0)) := rfl
theorem r175_469 (d : Nat) (v : Nat) (l1 l2 l3 : Option Value) (st : List Value) (h : tm_H) (K : Option Value → tm_H → Prop) : tm_A d 175 469 [some (.ref v), l1, l2, l3] st h K ↔ tm_A d 175 470 [some (.ref v), l1, l2, l3] (.ref v :: st) h K := tm_s o175_469 rfl rfl rfl
set_option maxRecDepth 20000 in
theorem o175_470 : tm_op 175 470 = some (.iload_n 3, (0, 0, 0, 0)) := rfl
theorem r175_470 (d : Nat) (v : Int32) (l0 l1 l2 : Option Value) (st : List Value) (h : tm_H) (K : Option Value → tm_H → Prop) : tm_A d 175 470 [l0, l1, l2, some (.int v)] st h K ↔ tm_A d 175 471 [l0, l1, l2, some (.int v)] (.int v :: st) h K := tm_s o175_470 rfl rfl rfl
set_option maxRecDepth 20000 in
theorem o175_471 : tm_op 175 471 = some (.iconst 2, (0, 0, 0, 0)) := rfl
theorem r175_471 (d : Nat) (ls : tm_Lo) (st : List Value) (h : tm_H) (K : Option Value → tm_H → Prop) : tm_A d 175 471 ls st h K ↔ tm_A d 175 472 ls (.int (2 : Int32) :: st) h K := tm_ic o175_471 (by decide)
set_option maxRecDepth 20000 in
theorem o175_472 : tm_op 175 472 = some (.iadd, (0, 0, 0, 0)) := rfl
theorem r175_472 (d : Nat) (u v : Int32) (ls : tm_Lo) (st : List Value) (h : tm_H) (K : Option Value → tm_H → Prop) : tm_A d 175 472 ls (.int u :: .int v :: st) h K ↔ tm_A d 175 473 ls (.int (v + u) :: st) h K := tm_s o175_472 rfl rfl rfl
set_option maxRecDepth 20000 in
theorem o175_473 : tm_op 175 473 = some (.iaload, (0, 0, 0, 0)) := rfl
theorem r175_473 (d : Nat) (v : Int32) (a : Nat) (ls : tm_Lo) (st : List Value) (G : tm_G) (I : Nat → Nat → Int32) (J : Nat → Nat → Int64) (R : Nat → Nat → Option Nat) (K : Option Value → tm_H → Prop) : tm_A d 175 473 ls (.int v :: .ref a :: st) (G, I, J, R) K ↔ ((G.2.2 a).1 = 1 ∧ tm_in v (G.2.2 a).2) ∧ tm_A d 175 474 ls (.int (I a (tm_ix v)) :: st) (G, I, J, R) K := tm_iald o175_473
set_option maxRecDepth 20000 in
theorem o175_474 : tm_op 175 474 = some (.invokevirtual 64, (2, 97, 3, 9)) := rfl
theorem r175_474 (d : Nat) (v1 : Int32) (v2 : Int32) (a : Nat) (ls : tm_Lo) (st : List Value) (h : tm_H) (K : Option Value → tm_H → Prop) : tm_A (d + 1) 175 474 ls (.int v2 :: .int v1 :: .ref a :: st) h K ↔ (h.1.2.2 a = (0, 9) ∧ tm_cs st) ∧ tm_R d 97 [.ref a, .int v1, .int v2] h (fun r h' => tm_A (d + 1) 175 477 ls (r.toList ++ st) h' K) := tm_callV (as := [.int v1, .int v2]) o175_474 rfl rfl rfl rfl
set_option maxRecDepth 20000 in
theorem o175_477 : tm_op 175 477 = some (.aload_n 2, (0, 0, 0, 0)) := rfl
theorem r175_477 (d : Nat) (v : Nat) (l0 l1 l3 : Option Value) (st : List Value) (h : tm_H) (K : Option Value → tm_H → Prop) : tm_A d 175 477 [l0, l1, some (.ref v), l3] st h K ↔ tm_A d 175 478 [l0, l1, some (.ref v), l3] (.ref v :: st) h K := tm_s o175_477 rfl rfl rfl
theorem r175_477n (d : Nat)  (l0 l1 l3 : Option Value) (st : List Value) (h : tm_H) (K : Option Value → tm_H → Prop) : tm_A d 175 477 [l0, l1, some .null, l3] st h K ↔ tm_A d 175 478 [l0, l1, some .null, l3] (.null :: st) h K := tm_s o175_477 rfl rfl rfl
set_option maxRecDepth 20000 in
theorem o175_478 : tm_op 175 478 = some (.aload_n 0, (0, 0, 0, 0)) := rfl
theorem r175_478 (d : Nat) (v : Nat) (l1 l2 l3 : Option Value) (st : List Value) (h : tm_H) (K : Option Value → tm_H → Prop) : tm_A d 175 478 [some (.ref v), l1, l2, l3] st h K ↔ tm_A d 175 479 [some (.ref v), l1, l2, l3] (.ref v :: st) h K := tm_s o175_478 rfl rfl rfl
set_option maxRecDepth 20000 in
theorem o175_479 : tm_op 175 479 = some (.iload_n 3, (0, 0, 0, 0)) := rfl
theorem r175_479 (d : Nat) (v : Int32) (l0 l1 l2 : Option Value) (st : List Value) (h : tm_H) (K : Option Value → tm_H → Prop) : tm_A d 175 479 [l0, l1, l2, some (.int v)] st h K ↔ tm_A d 175 480 [l0, l1, l2, some (.int v)] (.int v :: st) h K := tm_s o175_479 rfl rfl rfl
set_option maxRecDepth 20000 in
theorem o175_480 : tm_op 175 480 = some (.iconst 1, (0, 0, 0, 0)) := rfl
theorem r175_480 (d : Nat) (ls : tm_Lo) (st : List Value) (h : tm_H) (K : Option Value → tm_H → Prop) : tm_A d 175 480 ls st h K ↔ tm_A d 175 481 ls (.int (1 : Int32) :: st) h K := tm_ic o175_480 (by decide)
set_option maxRecDepth 20000 in
theorem o175_481 : tm_op 175 481 = some (.iadd, (0, 0, 0, 0)) := rfl
theorem r175_481 (d : Nat) (u v : Int32) (ls : tm_Lo) (st : List Value) (h : tm_H) (K : Option Value → tm_H → Prop) : tm_A d 175 481 ls (.int u :: .int v :: st) h K ↔ tm_A d 175 482 ls (.int (v + u) :: st) h K := tm_s o175_481 rfl rfl rfl
set_option maxRecDepth 20000 in
theorem o175_482 : tm_op 175 482 = some (.iaload, (0, 0, 0, 0)) := rfl
theorem r175_482 (d : Nat) (v : Int32) (a : Nat) (ls : tm_Lo) (st : List Value) (G : tm_G) (I : Nat → Nat → Int32) (J : Nat → Nat → Int64) (R : Nat → Nat → Option Nat) (K : Option Value → tm_H → Prop) : tm_A d 175 482 ls (.int v :: .ref a :: st) (G, I, J, R) K ↔ ((G.2.2 a).1 = 1 ∧ tm_in v (G.2.2 a).2) ∧ tm_A d 175 483 ls (.int (I a (tm_ix v)) :: st) (G, I, J, R) K := tm_iald o175_482
set_option maxRecDepth 20000 in
theorem o175_483 : tm_op 175 483 = some (.aload_n 0, (0, 0, 0, 0)) := rfl
theorem r175_483 (d : Nat) (v : Nat) (l1 l2 l3 : Option Value) (st : List Value) (h : tm_H) (K : Option Value → tm_H → Prop) : tm_A d 175 483 [some (.ref v), l1, l2, l3] st h K ↔ tm_A d 175 484 [some (.ref v), l1, l2, l3] (.ref v :: st) h K := tm_s o175_483 rfl rfl rfl
set_option maxRecDepth 20000 in
theorem o175_484 : tm_op 175 484 = some (.iload_n 3, (0, 0, 0, 0)) := rfl
theorem r175_484 (d : Nat) (v : Int32) (l0 l1 l2 : Option Value) (st : List Value) (h : tm_H) (K : Option Value → tm_H → Prop) : tm_A d 175 484 [l0, l1, l2, some (.int v)] st h K ↔ tm_A d 175 485 [l0, l1, l2, some (.int v)] (.int v :: st) h K := tm_s o175_484 rfl rfl rfl
set_option maxRecDepth 20000 in
theorem o175_485 : tm_op 175 485 = some (.iconst 2, (0, 0, 0, 0)) := rfl
theorem r175_485 (d : Nat) (ls : tm_Lo) (st : List Value) (h : tm_H) (K : Option Value → tm_H → Prop) : tm_A d 175 485 ls st h K ↔ tm_A d 175 486 ls (.int (2 : Int32) :: st) h K := tm_ic o175_485 (by decide)
set_option maxRecDepth 20000 in
theorem o175_486 : tm_op 175 486 = some (.iadd, (0, 0, 0, 0)) := rfl
theorem r175_486 (d : Nat) (u v : Int32) (ls : tm_Lo) (st : List Value) (h : tm_H) (K : Option Value → tm_H → Prop) : tm_A d 175 486 ls (.int u :: .int v :: st) h K ↔ tm_A d 175 487 ls (.int (v + u) :: st) h K := tm_s o175_486 rfl rfl rfl
set_option maxRecDepth 20000 in
theorem o175_487 : tm_op 175 487 = some (.iaload, (0, 0, 0, 0)) := rfl
theorem r175_487 (d : Nat) (v : Int32) (a : Nat) (ls : tm_Lo) (st : List Value) (G : tm_G) (I : Nat → Nat → Int32) (J : Nat → Nat → Int64) (R : Nat → Nat → Option Nat) (K : Option Value → tm_H → Prop) : tm_A d 175 487 ls (.int v :: .ref a :: st) (G, I, J, R) K ↔ ((G.2.2 a).1 = 1 ∧ tm_in v (G.2.2 a).2) ∧ tm_A d 175 488 ls (.int (I a (tm_ix v)) :: st) (G, I, J, R) K := tm_iald o175_487
set_option maxRecDepth 20000 in
theorem o175_488 : tm_op 175 488 = some (.invokevirtual 68, (2, 144, 3, 10)) := rfl
theorem r175_488 (d : Nat) (v1 : Int32) (v2 : Int32) (a : Nat) (ls : tm_Lo) (st : List Value) (h : tm_H) (K : Option Value → tm_H → Prop) : tm_A (d + 1) 175 488 ls (.int v2 :: .int v1 :: .ref a :: st) h K ↔ (h.1.2.2 a = (0, 10) ∧ tm_cs st) ∧ tm_R d 144 [.ref a, .int v1, .int v2] h (fun r h' => tm_A (d + 1) 175 491 ls (r.toList ++ st) h' K) := tm_callV (as := [.int v1, .int v2]) o175_488 rfl rfl rfl rfl
set_option maxRecDepth 20000 in
theorem o175_491 : tm_op 175 491 = some (.if_icmp .eq 368, (0, 0, 0, 0)) := rfl
theorem r175_491 (d : Nat) (y x : Int32) (ls : tm_Lo) (st : List Value) (h : tm_H) (K : Option Value → tm_H → Prop) : tm_A d 175 491 ls (.int y :: .int x :: st) h K ↔ if x = y then tm_A d 175 859 ls st h K else tm_A d 175 494 ls st h K := tm_b o175_491 rfl rfl rfl rfl
set_option maxRecDepth 20000 in
theorem o175_494 : tm_op 175 494 = some (.iconst 0, (0, 0, 0, 0)) := rfl
theorem r175_494 (d : Nat) (ls : tm_Lo) (st : List Value) (h : tm_H) (K : Option Value → tm_H → Prop) : tm_A d 175 494 ls st h K ↔ tm_A d 175 495 ls (.int (0 : Int32) :: st) h K := tm_ic o175_494 (by decide)
set_option maxRecDepth 20000 in
theorem o175_495 : tm_op 175 495 = some (.ireturn, (0, 0, 0, 0)) := rfl
theorem r175_495 (d : Nat) (v : Int32) (ls : tm_Lo) (h : tm_H) (K : Option Value → tm_H → Prop) : tm_A d 175 495 ls [.int v] h K ↔ (v = 0 ∨ v = 1) ∧ K (some (.int v)) h := tm_retz o175_495 rfl
set_option maxRecDepth 20000 in
theorem o175_496 : tm_op 175 496 = some (.aload_n 1, (0, 0, 0, 0)) := rfl
theorem r175_496 (d : Nat) (v : Nat) (l0 l2 l3 : Option Value) (st : List Value) (h : tm_H) (K : Option Value → tm_H → Prop) : tm_A d 175 496 [l0, some (.ref v), l2, l3] st h K ↔ tm_A d 175 497 [l0, some (.ref v), l2, l3] (.ref v :: st) h K := tm_s o175_496 rfl rfl rfl
theorem r175_496n (d : Nat)  (l0 l2 l3 : Option Value) (st : List Value) (h : tm_H) (K : Option Value → tm_H → Prop) : tm_A d 175 496 [l0, some .null, l2, l3] st h K ↔ tm_A d 175 497 [l0, some .null, l2, l3] (.null :: st) h K := tm_s o175_496 rfl rfl rfl
set_option maxRecDepth 20000 in
theorem o175_497 : tm_op 175 497 = some (.aload_n 0, (0, 0, 0, 0)) := rfl
theorem r175_497 (d : Nat) (v : Nat) (l1 l2 l3 : Option Value) (st : List Value) (h : tm_H) (K : Option Value → tm_H → Prop) : tm_A d 175 497 [some (.ref v), l1, l2, l3] st h K ↔ tm_A d 175 498 [some (.ref v), l1, l2, l3] (.ref v :: st) h K := tm_s o175_497 rfl rfl rfl
set_option maxRecDepth 20000 in
theorem o175_498 : tm_op 175 498 = some (.iload_n 3, (0, 0, 0, 0)) := rfl
theorem r175_498 (d : Nat) (v : Int32) (l0 l1 l2 : Option Value) (st : List Value) (h : tm_H) (K : Option Value → tm_H → Prop) : tm_A d 175 498 [l0, l1, l2, some (.int v)] st h K ↔ tm_A d 175 499 [l0, l1, l2, some (.int v)] (.int v :: st) h K := tm_s o175_498 rfl rfl rfl
set_option maxRecDepth 20000 in
theorem o175_499 : tm_op 175 499 = some (.iconst 1, (0, 0, 0, 0)) := rfl
theorem r175_499 (d : Nat) (ls : tm_Lo) (st : List Value) (h : tm_H) (K : Option Value → tm_H → Prop) : tm_A d 175 499 ls st h K ↔ tm_A d 175 500 ls (.int (1 : Int32) :: st) h K := tm_ic o175_499 (by decide)
set_option maxRecDepth 20000 in
theorem o175_500 : tm_op 175 500 = some (.iadd, (0, 0, 0, 0)) := rfl
theorem r175_500 (d : Nat) (u v : Int32) (ls : tm_Lo) (st : List Value) (h : tm_H) (K : Option Value → tm_H → Prop) : tm_A d 175 500 ls (.int u :: .int v :: st) h K ↔ tm_A d 175 501 ls (.int (v + u) :: st) h K := tm_s o175_500 rfl rfl rfl
set_option maxRecDepth 20000 in
theorem o175_501 : tm_op 175 501 = some (.iaload, (0, 0, 0, 0)) := rfl
theorem r175_501 (d : Nat) (v : Int32) (a : Nat) (ls : tm_Lo) (st : List Value) (G : tm_G) (I : Nat → Nat → Int32) (J : Nat → Nat → Int64) (R : Nat → Nat → Option Nat) (K : Option Value → tm_H → Prop) : tm_A d 175 501 ls (.int v :: .ref a :: st) (G, I, J, R) K ↔ ((G.2.2 a).1 = 1 ∧ tm_in v (G.2.2 a).2) ∧ tm_A d 175 502 ls (.int (I a (tm_ix v)) :: st) (G, I, J, R) K := tm_iald o175_501
set_option maxRecDepth 20000 in
theorem o175_502 : tm_op 175 502 = some (.aload_n 0, (0, 0, 0, 0)) := rfl
theorem r175_502 (d : Nat) (v : Nat) (l1 l2 l3 : Option Value) (st : List Value) (h : tm_H) (K : Option Value → tm_H → Prop) : tm_A d 175 502 [some (.ref v), l1, l2, l3] st h K ↔ tm_A d 175 503 [some (.ref v), l1, l2, l3] (.ref v :: st) h K := tm_s o175_502 rfl rfl rfl
set_option maxRecDepth 20000 in
theorem o175_503 : tm_op 175 503 = some (.iload_n 3, (0, 0, 0, 0)) := rfl
theorem r175_503 (d : Nat) (v : Int32) (l0 l1 l2 : Option Value) (st : List Value) (h : tm_H) (K : Option Value → tm_H → Prop) : tm_A d 175 503 [l0, l1, l2, some (.int v)] st h K ↔ tm_A d 175 504 [l0, l1, l2, some (.int v)] (.int v :: st) h K := tm_s o175_503 rfl rfl rfl
set_option maxRecDepth 20000 in
theorem o175_504 : tm_op 175 504 = some (.iconst 2, (0, 0, 0, 0)) := rfl
theorem r175_504 (d : Nat) (ls : tm_Lo) (st : List Value) (h : tm_H) (K : Option Value → tm_H → Prop) : tm_A d 175 504 ls st h K ↔ tm_A d 175 505 ls (.int (2 : Int32) :: st) h K := tm_ic o175_504 (by decide)
set_option maxRecDepth 20000 in
theorem o175_505 : tm_op 175 505 = some (.iadd, (0, 0, 0, 0)) := rfl
theorem r175_505 (d : Nat) (u v : Int32) (ls : tm_Lo) (st : List Value) (h : tm_H) (K : Option Value → tm_H → Prop) : tm_A d 175 505 ls (.int u :: .int v :: st) h K ↔ tm_A d 175 506 ls (.int (v + u) :: st) h K := tm_s o175_505 rfl rfl rfl
set_option maxRecDepth 20000 in
theorem o175_506 : tm_op 175 506 = some (.iaload, (0, 0, 0, 0)) := rfl
theorem r175_506 (d : Nat) (v : Int32) (a : Nat) (ls : tm_Lo) (st : List Value) (G : tm_G) (I : Nat → Nat → Int32) (J : Nat → Nat → Int64) (R : Nat → Nat → Option Nat) (K : Option Value → tm_H → Prop) : tm_A d 175 506 ls (.int v :: .ref a :: st) (G, I, J, R) K ↔ ((G.2.2 a).1 = 1 ∧ tm_in v (G.2.2 a).2) ∧ tm_A d 175 507 ls (.int (I a (tm_ix v)) :: st) (G, I, J, R) K := tm_iald o175_506
set_option maxRecDepth 20000 in
theorem o175_507 : tm_op 175 507 = some (.aload_n 0, (0, 0, 0, 0)) := rfl
theorem r175_507 (d : Nat) (v : Nat) (l1 l2 l3 : Option Value) (st : List Value) (h : tm_H) (K : Option Value → tm_H → Prop) : tm_A d 175 507 [some (.ref v), l1, l2, l3] st h K ↔ tm_A d 175 508 [some (.ref v), l1, l2, l3] (.ref v :: st) h K := tm_s o175_507 rfl rfl rfl
set_option maxRecDepth 20000 in
theorem o175_508 : tm_op 175 508 = some (.iload_n 3, (0, 0, 0, 0)) := rfl
theorem r175_508 (d : Nat) (v : Int32) (l0 l1 l2 : Option Value) (st : List Value) (h : tm_H) (K : Option Value → tm_H → Prop) : tm_A d 175 508 [l0, l1, l2, some (.int v)] st h K ↔ tm_A d 175 509 [l0, l1, l2, some (.int v)] (.int v :: st) h K := tm_s o175_508 rfl rfl rfl
set_option maxRecDepth 20000 in
theorem o175_509 : tm_op 175 509 = some (.iconst 3, (0, 0, 0, 0)) := rfl
theorem r175_509 (d : Nat) (ls : tm_Lo) (st : List Value) (h : tm_H) (K : Option Value → tm_H → Prop) : tm_A d 175 509 ls st h K ↔ tm_A d 175 510 ls (.int (3 : Int32) :: st) h K := tm_ic o175_509 (by decide)
set_option maxRecDepth 20000 in
theorem o175_510 : tm_op 175 510 = some (.iadd, (0, 0, 0, 0)) := rfl
theorem r175_510 (d : Nat) (u v : Int32) (ls : tm_Lo) (st : List Value) (h : tm_H) (K : Option Value → tm_H → Prop) : tm_A d 175 510 ls (.int u :: .int v :: st) h K ↔ tm_A d 175 511 ls (.int (v + u) :: st) h K := tm_s o175_510 rfl rfl rfl
set_option maxRecDepth 20000 in
theorem o175_511 : tm_op 175 511 = some (.iaload, (0, 0, 0, 0)) := rfl
theorem r175_511 (d : Nat) (v : Int32) (a : Nat) (ls : tm_Lo) (st : List Value) (G : tm_G) (I : Nat → Nat → Int32) (J : Nat → Nat → Int64) (R : Nat → Nat → Option Nat) (K : Option Value → tm_H → Prop) : tm_A d 175 511 ls (.int v :: .ref a :: st) (G, I, J, R) K ↔ ((G.2.2 a).1 = 1 ∧ tm_in v (G.2.2 a).2) ∧ tm_A d 175 512 ls (.int (I a (tm_ix v)) :: st) (G, I, J, R) K := tm_iald o175_511
set_option maxRecDepth 20000 in
theorem o175_512 : tm_op 175 512 = some (.aload_n 0, (0, 0, 0, 0)) := rfl
theorem r175_512 (d : Nat) (v : Nat) (l1 l2 l3 : Option Value) (st : List Value) (h : tm_H) (K : Option Value → tm_H → Prop) : tm_A d 175 512 [some (.ref v), l1, l2, l3] st h K ↔ tm_A d 175 513 [some (.ref v), l1, l2, l3] (.ref v :: st) h K := tm_s o175_512 rfl rfl rfl
set_option maxRecDepth 20000 in
theorem o175_513 : tm_op 175 513 = some (.iload_n 3, (0, 0, 0, 0)) := rfl
theorem r175_513 (d : Nat) (v : Int32) (l0 l1 l2 : Option Value) (st : List Value) (h : tm_H) (K : Option Value → tm_H → Prop) : tm_A d 175 513 [l0, l1, l2, some (.int v)] st h K ↔ tm_A d 175 514 [l0, l1, l2, some (.int v)] (.int v :: st) h K := tm_s o175_513 rfl rfl rfl
set_option maxRecDepth 20000 in
theorem o175_514 : tm_op 175 514 = some (.iconst 4, (0, 0, 0, 0)) := rfl
theorem r175_514 (d : Nat) (ls : tm_Lo) (st : List Value) (h : tm_H) (K : Option Value → tm_H → Prop) : tm_A d 175 514 ls st h K ↔ tm_A d 175 515 ls (.int (4 : Int32) :: st) h K := tm_ic o175_514 (by decide)
set_option maxRecDepth 20000 in
theorem o175_515 : tm_op 175 515 = some (.iadd, (0, 0, 0, 0)) := rfl
theorem r175_515 (d : Nat) (u v : Int32) (ls : tm_Lo) (st : List Value) (h : tm_H) (K : Option Value → tm_H → Prop) : tm_A d 175 515 ls (.int u :: .int v :: st) h K ↔ tm_A d 175 516 ls (.int (v + u) :: st) h K := tm_s o175_515 rfl rfl rfl
set_option maxRecDepth 20000 in
theorem o175_516 : tm_op 175 516 = some (.iaload, (0, 0, 0, 0)) := rfl
theorem r175_516 (d : Nat) (v : Int32) (a : Nat) (ls : tm_Lo) (st : List Value) (G : tm_G) (I : Nat → Nat → Int32) (J : Nat → Nat → Int64) (R : Nat → Nat → Option Nat) (K : Option Value → tm_H → Prop) : tm_A d 175 516 ls (.int v :: .ref a :: st) (G, I, J, R) K ↔ ((G.2.2 a).1 = 1 ∧ tm_in v (G.2.2 a).2) ∧ tm_A d 175 517 ls (.int (I a (tm_ix v)) :: st) (G, I, J, R) K := tm_iald o175_516
set_option maxRecDepth 20000 in
theorem o175_517 : tm_op 175 517 = some (.invokevirtual 69, (2, 98, 5, 9)) := rfl
theorem r175_517 (d : Nat) (v1 : Int32) (v2 : Int32) (v3 : Int32) (v4 : Int32) (a : Nat) (ls : tm_Lo) (st : List Value) (h : tm_H) (K : Option Value → tm_H → Prop) : tm_A (d + 1) 175 517 ls (.int v4 :: .int v3 :: .int v2 :: .int v1 :: .ref a :: st) h K ↔ (h.1.2.2 a = (0, 9) ∧ tm_cs st) ∧ tm_R d 98 [.ref a, .int v1, .int v2, .int v3, .int v4] h (fun r h' => tm_A (d + 1) 175 520 ls (r.toList ++ st) h' K) := tm_callV (as := [.int v1, .int v2, .int v3, .int v4]) o175_517 rfl rfl rfl rfl
set_option maxRecDepth 20000 in
theorem o175_520 : tm_op 175 520 = some (.aload_n 2, (0, 0, 0, 0)) := rfl
theorem r175_520 (d : Nat) (v : Nat) (l0 l1 l3 : Option Value) (st : List Value) (h : tm_H) (K : Option Value → tm_H → Prop) : tm_A d 175 520 [l0, l1, some (.ref v), l3] st h K ↔ tm_A d 175 521 [l0, l1, some (.ref v), l3] (.ref v :: st) h K := tm_s o175_520 rfl rfl rfl
theorem r175_520n (d : Nat)  (l0 l1 l3 : Option Value) (st : List Value) (h : tm_H) (K : Option Value → tm_H → Prop) : tm_A d 175 520 [l0, l1, some .null, l3] st h K ↔ tm_A d 175 521 [l0, l1, some .null, l3] (.null :: st) h K := tm_s o175_520 rfl rfl rfl
set_option maxRecDepth 20000 in
theorem o175_521 : tm_op 175 521 = some (.aload_n 0, (0, 0, 0, 0)) := rfl
theorem r175_521 (d : Nat) (v : Nat) (l1 l2 l3 : Option Value) (st : List Value) (h : tm_H) (K : Option Value → tm_H → Prop) : tm_A d 175 521 [some (.ref v), l1, l2, l3] st h K ↔ tm_A d 175 522 [some (.ref v), l1, l2, l3] (.ref v :: st) h K := tm_s o175_521 rfl rfl rfl
set_option maxRecDepth 20000 in
theorem o175_522 : tm_op 175 522 = some (.iload_n 3, (0, 0, 0, 0)) := rfl
theorem r175_522 (d : Nat) (v : Int32) (l0 l1 l2 : Option Value) (st : List Value) (h : tm_H) (K : Option Value → tm_H → Prop) : tm_A d 175 522 [l0, l1, l2, some (.int v)] st h K ↔ tm_A d 175 523 [l0, l1, l2, some (.int v)] (.int v :: st) h K := tm_s o175_522 rfl rfl rfl
set_option maxRecDepth 20000 in
theorem o175_523 : tm_op 175 523 = some (.iconst 1, (0, 0, 0, 0)) := rfl
theorem r175_523 (d : Nat) (ls : tm_Lo) (st : List Value) (h : tm_H) (K : Option Value → tm_H → Prop) : tm_A d 175 523 ls st h K ↔ tm_A d 175 524 ls (.int (1 : Int32) :: st) h K := tm_ic o175_523 (by decide)
set_option maxRecDepth 20000 in
theorem o175_524 : tm_op 175 524 = some (.iadd, (0, 0, 0, 0)) := rfl
theorem r175_524 (d : Nat) (u v : Int32) (ls : tm_Lo) (st : List Value) (h : tm_H) (K : Option Value → tm_H → Prop) : tm_A d 175 524 ls (.int u :: .int v :: st) h K ↔ tm_A d 175 525 ls (.int (v + u) :: st) h K := tm_s o175_524 rfl rfl rfl
set_option maxRecDepth 20000 in
theorem o175_525 : tm_op 175 525 = some (.iaload, (0, 0, 0, 0)) := rfl
theorem r175_525 (d : Nat) (v : Int32) (a : Nat) (ls : tm_Lo) (st : List Value) (G : tm_G) (I : Nat → Nat → Int32) (J : Nat → Nat → Int64) (R : Nat → Nat → Option Nat) (K : Option Value → tm_H → Prop) : tm_A d 175 525 ls (.int v :: .ref a :: st) (G, I, J, R) K ↔ ((G.2.2 a).1 = 1 ∧ tm_in v (G.2.2 a).2) ∧ tm_A d 175 526 ls (.int (I a (tm_ix v)) :: st) (G, I, J, R) K := tm_iald o175_525
set_option maxRecDepth 20000 in
theorem o175_526 : tm_op 175 526 = some (.aload_n 0, (0, 0, 0, 0)) := rfl
theorem r175_526 (d : Nat) (v : Nat) (l1 l2 l3 : Option Value) (st : List Value) (h : tm_H) (K : Option Value → tm_H → Prop) : tm_A d 175 526 [some (.ref v), l1, l2, l3] st h K ↔ tm_A d 175 527 [some (.ref v), l1, l2, l3] (.ref v :: st) h K := tm_s o175_526 rfl rfl rfl
set_option maxRecDepth 20000 in
theorem o175_527 : tm_op 175 527 = some (.iload_n 3, (0, 0, 0, 0)) := rfl
theorem r175_527 (d : Nat) (v : Int32) (l0 l1 l2 : Option Value) (st : List Value) (h : tm_H) (K : Option Value → tm_H → Prop) : tm_A d 175 527 [l0, l1, l2, some (.int v)] st h K ↔ tm_A d 175 528 [l0, l1, l2, some (.int v)] (.int v :: st) h K := tm_s o175_527 rfl rfl rfl
set_option maxRecDepth 20000 in
theorem o175_528 : tm_op 175 528 = some (.iconst 2, (0, 0, 0, 0)) := rfl
theorem r175_528 (d : Nat) (ls : tm_Lo) (st : List Value) (h : tm_H) (K : Option Value → tm_H → Prop) : tm_A d 175 528 ls st h K ↔ tm_A d 175 529 ls (.int (2 : Int32) :: st) h K := tm_ic o175_528 (by decide)
set_option maxRecDepth 20000 in
theorem o175_529 : tm_op 175 529 = some (.iadd, (0, 0, 0, 0)) := rfl
theorem r175_529 (d : Nat) (u v : Int32) (ls : tm_Lo) (st : List Value) (h : tm_H) (K : Option Value → tm_H → Prop) : tm_A d 175 529 ls (.int u :: .int v :: st) h K ↔ tm_A d 175 530 ls (.int (v + u) :: st) h K := tm_s o175_529 rfl rfl rfl
set_option maxRecDepth 20000 in
theorem o175_530 : tm_op 175 530 = some (.iaload, (0, 0, 0, 0)) := rfl
theorem r175_530 (d : Nat) (v : Int32) (a : Nat) (ls : tm_Lo) (st : List Value) (G : tm_G) (I : Nat → Nat → Int32) (J : Nat → Nat → Int64) (R : Nat → Nat → Option Nat) (K : Option Value → tm_H → Prop) : tm_A d 175 530 ls (.int v :: .ref a :: st) (G, I, J, R) K ↔ ((G.2.2 a).1 = 1 ∧ tm_in v (G.2.2 a).2) ∧ tm_A d 175 531 ls (.int (I a (tm_ix v)) :: st) (G, I, J, R) K := tm_iald o175_530
set_option maxRecDepth 20000 in
theorem o175_531 : tm_op 175 531 = some (.aload_n 0, (0, 0, 0, 0)) := rfl
theorem r175_531 (d : Nat) (v : Nat) (l1 l2 l3 : Option Value) (st : List Value) (h : tm_H) (K : Option Value → tm_H → Prop) : tm_A d 175 531 [some (.ref v), l1, l2, l3] st h K ↔ tm_A d 175 532 [some (.ref v), l1, l2, l3] (.ref v :: st) h K := tm_s o175_531 rfl rfl rfl
set_option maxRecDepth 20000 in
theorem o175_532 : tm_op 175 532 = some (.iload_n 3, (0, 0, 0, 0)) := rfl
theorem r175_532 (d : Nat) (v : Int32) (l0 l1 l2 : Option Value) (st : List Value) (h : tm_H) (K : Option Value → tm_H → Prop) : tm_A d 175 532 [l0, l1, l2, some (.int v)] st h K ↔ tm_A d 175 533 [l0, l1, l2, some (.int v)] (.int v :: st) h K := tm_s o175_532 rfl rfl rfl
set_option maxRecDepth 20000 in
theorem o175_533 : tm_op 175 533 = some (.iconst 3, (0, 0, 0, 0)) := rfl
theorem r175_533 (d : Nat) (ls : tm_Lo) (st : List Value) (h : tm_H) (K : Option Value → tm_H → Prop) : tm_A d 175 533 ls st h K ↔ tm_A d 175 534 ls (.int (3 : Int32) :: st) h K := tm_ic o175_533 (by decide)
set_option maxRecDepth 20000 in
theorem o175_534 : tm_op 175 534 = some (.iadd, (0, 0, 0, 0)) := rfl
theorem r175_534 (d : Nat) (u v : Int32) (ls : tm_Lo) (st : List Value) (h : tm_H) (K : Option Value → tm_H → Prop) : tm_A d 175 534 ls (.int u :: .int v :: st) h K ↔ tm_A d 175 535 ls (.int (v + u) :: st) h K := tm_s o175_534 rfl rfl rfl
set_option maxRecDepth 20000 in
theorem o175_535 : tm_op 175 535 = some (.iaload, (0, 0, 0, 0)) := rfl
theorem r175_535 (d : Nat) (v : Int32) (a : Nat) (ls : tm_Lo) (st : List Value) (G : tm_G) (I : Nat → Nat → Int32) (J : Nat → Nat → Int64) (R : Nat → Nat → Option Nat) (K : Option Value → tm_H → Prop) : tm_A d 175 535 ls (.int v :: .ref a :: st) (G, I, J, R) K ↔ ((G.2.2 a).1 = 1 ∧ tm_in v (G.2.2 a).2) ∧ tm_A d 175 536 ls (.int (I a (tm_ix v)) :: st) (G, I, J, R) K := tm_iald o175_535
set_option maxRecDepth 20000 in
theorem o175_536 : tm_op 175 536 = some (.aload_n 0, (0, 0, 0, 0)) := rfl
theorem r175_536 (d : Nat) (v : Nat) (l1 l2 l3 : Option Value) (st : List Value) (h : tm_H) (K : Option Value → tm_H → Prop) : tm_A d 175 536 [some (.ref v), l1, l2, l3] st h K ↔ tm_A d 175 537 [some (.ref v), l1, l2, l3] (.ref v :: st) h K := tm_s o175_536 rfl rfl rfl
set_option maxRecDepth 20000 in
theorem o175_537 : tm_op 175 537 = some (.iload_n 3, (0, 0, 0, 0)) := rfl
theorem r175_537 (d : Nat) (v : Int32) (l0 l1 l2 : Option Value) (st : List Value) (h : tm_H) (K : Option Value → tm_H → Prop) : tm_A d 175 537 [l0, l1, l2, some (.int v)] st h K ↔ tm_A d 175 538 [l0, l1, l2, some (.int v)] (.int v :: st) h K := tm_s o175_537 rfl rfl rfl
set_option maxRecDepth 20000 in
theorem o175_538 : tm_op 175 538 = some (.iconst 4, (0, 0, 0, 0)) := rfl
theorem r175_538 (d : Nat) (ls : tm_Lo) (st : List Value) (h : tm_H) (K : Option Value → tm_H → Prop) : tm_A d 175 538 ls st h K ↔ tm_A d 175 539 ls (.int (4 : Int32) :: st) h K := tm_ic o175_538 (by decide)
set_option maxRecDepth 20000 in
theorem o175_539 : tm_op 175 539 = some (.iadd, (0, 0, 0, 0)) := rfl
theorem r175_539 (d : Nat) (u v : Int32) (ls : tm_Lo) (st : List Value) (h : tm_H) (K : Option Value → tm_H → Prop) : tm_A d 175 539 ls (.int u :: .int v :: st) h K ↔ tm_A d 175 540 ls (.int (v + u) :: st) h K := tm_s o175_539 rfl rfl rfl
set_option maxRecDepth 20000 in
theorem o175_540 : tm_op 175 540 = some (.iaload, (0, 0, 0, 0)) := rfl
theorem r175_540 (d : Nat) (v : Int32) (a : Nat) (ls : tm_Lo) (st : List Value) (G : tm_G) (I : Nat → Nat → Int32) (J : Nat → Nat → Int64) (R : Nat → Nat → Option Nat) (K : Option Value → tm_H → Prop) : tm_A d 175 540 ls (.int v :: .ref a :: st) (G, I, J, R) K ↔ ((G.2.2 a).1 = 1 ∧ tm_in v (G.2.2 a).2) ∧ tm_A d 175 541 ls (.int (I a (tm_ix v)) :: st) (G, I, J, R) K := tm_iald o175_540
set_option maxRecDepth 20000 in
theorem o175_541 : tm_op 175 541 = some (.invokevirtual 73, (2, 145, 5, 10)) := rfl
theorem r175_541 (d : Nat) (v1 : Int32) (v2 : Int32) (v3 : Int32) (v4 : Int32) (a : Nat) (ls : tm_Lo) (st : List Value) (h : tm_H) (K : Option Value → tm_H → Prop) : tm_A (d + 1) 175 541 ls (.int v4 :: .int v3 :: .int v2 :: .int v1 :: .ref a :: st) h K ↔ (h.1.2.2 a = (0, 10) ∧ tm_cs st) ∧ tm_R d 145 [.ref a, .int v1, .int v2, .int v3, .int v4] h (fun r h' => tm_A (d + 1) 175 544 ls (r.toList ++ st) h' K) := tm_callV (as := [.int v1, .int v2, .int v3, .int v4]) o175_541 rfl rfl rfl rfl
set_option maxRecDepth 20000 in
theorem o175_544 : tm_op 175 544 = some (.if_icmp .eq 315, (0, 0, 0, 0)) := rfl
theorem r175_544 (d : Nat) (y x : Int32) (ls : tm_Lo) (st : List Value) (h : tm_H) (K : Option Value → tm_H → Prop) : tm_A d 175 544 ls (.int y :: .int x :: st) h K ↔ if x = y then tm_A d 175 859 ls st h K else tm_A d 175 547 ls st h K := tm_b o175_544 rfl rfl rfl rfl
set_option maxRecDepth 20000 in
theorem o175_547 : tm_op 175 547 = some (.iconst 0, (0, 0, 0, 0)) := rfl
theorem r175_547 (d : Nat) (ls : tm_Lo) (st : List Value) (h : tm_H) (K : Option Value → tm_H → Prop) : tm_A d 175 547 ls st h K ↔ tm_A d 175 548 ls (.int (0 : Int32) :: st) h K := tm_ic o175_547 (by decide)
set_option maxRecDepth 20000 in
theorem o175_548 : tm_op 175 548 = some (.ireturn, (0, 0, 0, 0)) := rfl
theorem r175_548 (d : Nat) (v : Int32) (ls : tm_Lo) (h : tm_H) (K : Option Value → tm_H → Prop) : tm_A d 175 548 ls [.int v] h K ↔ (v = 0 ∨ v = 1) ∧ K (some (.int v)) h := tm_retz o175_548 rfl
set_option maxRecDepth 20000 in
theorem o175_549 : tm_op 175 549 = some (.aload_n 1, (0, 0, 0, 0)) := rfl
theorem r175_549 (d : Nat) (v : Nat) (l0 l2 l3 : Option Value) (st : List Value) (h : tm_H) (K : Option Value → tm_H → Prop) : tm_A d 175 549 [l0, some (.ref v), l2, l3] st h K ↔ tm_A d 175 550 [l0, some (.ref v), l2, l3] (.ref v :: st) h K := tm_s o175_549 rfl rfl rfl
theorem r175_549n (d : Nat)  (l0 l2 l3 : Option Value) (st : List Value) (h : tm_H) (K : Option Value → tm_H → Prop) : tm_A d 175 549 [l0, some .null, l2, l3] st h K ↔ tm_A d 175 550 [l0, some .null, l2, l3] (.null :: st) h K := tm_s o175_549 rfl rfl rfl
set_option maxRecDepth 20000 in
theorem o175_550 : tm_op 175 550 = some (.aload_n 0, (0, 0, 0, 0)) := rfl
theorem r175_550 (d : Nat) (v : Nat) (l1 l2 l3 : Option Value) (st : List Value) (h : tm_H) (K : Option Value → tm_H → Prop) : tm_A d 175 550 [some (.ref v), l1, l2, l3] st h K ↔ tm_A d 175 551 [some (.ref v), l1, l2, l3] (.ref v :: st) h K := tm_s o175_550 rfl rfl rfl
set_option maxRecDepth 20000 in
theorem o175_551 : tm_op 175 551 = some (.iload_n 3, (0, 0, 0, 0)) := rfl
theorem r175_551 (d : Nat) (v : Int32) (l0 l1 l2 : Option Value) (st : List Value) (h : tm_H) (K : Option Value → tm_H → Prop) : tm_A d 175 551 [l0, l1, l2, some (.int v)] st h K ↔ tm_A d 175 552 [l0, l1, l2, some (.int v)] (.int v :: st) h K := tm_s o175_551 rfl rfl rfl
set_option maxRecDepth 20000 in
theorem o175_552 : tm_op 175 552 = some (.iconst 1, (0, 0, 0, 0)) := rfl
theorem r175_552 (d : Nat) (ls : tm_Lo) (st : List Value) (h : tm_H) (K : Option Value → tm_H → Prop) : tm_A d 175 552 ls st h K ↔ tm_A d 175 553 ls (.int (1 : Int32) :: st) h K := tm_ic o175_552 (by decide)
set_option maxRecDepth 20000 in
theorem o175_553 : tm_op 175 553 = some (.iadd, (0, 0, 0, 0)) := rfl
theorem r175_553 (d : Nat) (u v : Int32) (ls : tm_Lo) (st : List Value) (h : tm_H) (K : Option Value → tm_H → Prop) : tm_A d 175 553 ls (.int u :: .int v :: st) h K ↔ tm_A d 175 554 ls (.int (v + u) :: st) h K := tm_s o175_553 rfl rfl rfl
set_option maxRecDepth 20000 in
theorem o175_554 : tm_op 175 554 = some (.iaload, (0, 0, 0, 0)) := rfl
theorem r175_554 (d : Nat) (v : Int32) (a : Nat) (ls : tm_Lo) (st : List Value) (G : tm_G) (I : Nat → Nat → Int32) (J : Nat → Nat → Int64) (R : Nat → Nat → Option Nat) (K : Option Value → tm_H → Prop) : tm_A d 175 554 ls (.int v :: .ref a :: st) (G, I, J, R) K ↔ ((G.2.2 a).1 = 1 ∧ tm_in v (G.2.2 a).2) ∧ tm_A d 175 555 ls (.int (I a (tm_ix v)) :: st) (G, I, J, R) K := tm_iald o175_554
set_option maxRecDepth 20000 in
theorem o175_555 : tm_op 175 555 = some (.aload_n 0, (0, 0, 0, 0)) := rfl
theorem r175_555 (d : Nat) (v : Nat) (l1 l2 l3 : Option Value) (st : List Value) (h : tm_H) (K : Option Value → tm_H → Prop) : tm_A d 175 555 [some (.ref v), l1, l2, l3] st h K ↔ tm_A d 175 556 [some (.ref v), l1, l2, l3] (.ref v :: st) h K := tm_s o175_555 rfl rfl rfl
set_option maxRecDepth 20000 in
theorem o175_556 : tm_op 175 556 = some (.iload_n 3, (0, 0, 0, 0)) := rfl
theorem r175_556 (d : Nat) (v : Int32) (l0 l1 l2 : Option Value) (st : List Value) (h : tm_H) (K : Option Value → tm_H → Prop) : tm_A d 175 556 [l0, l1, l2, some (.int v)] st h K ↔ tm_A d 175 557 [l0, l1, l2, some (.int v)] (.int v :: st) h K := tm_s o175_556 rfl rfl rfl
set_option maxRecDepth 20000 in
theorem o175_557 : tm_op 175 557 = some (.iconst 2, (0, 0, 0, 0)) := rfl
theorem r175_557 (d : Nat) (ls : tm_Lo) (st : List Value) (h : tm_H) (K : Option Value → tm_H → Prop) : tm_A d 175 557 ls st h K ↔ tm_A d 175 558 ls (.int (2 : Int32) :: st) h K := tm_ic o175_557 (by decide)
set_option maxRecDepth 20000 in
theorem o175_558 : tm_op 175 558 = some (.iadd, (0, 0, 0, 0)) := rfl
theorem r175_558 (d : Nat) (u v : Int32) (ls : tm_Lo) (st : List Value) (h : tm_H) (K : Option Value → tm_H → Prop) : tm_A d 175 558 ls (.int u :: .int v :: st) h K ↔ tm_A d 175 559 ls (.int (v + u) :: st) h K := tm_s o175_558 rfl rfl rfl
set_option maxRecDepth 20000 in
theorem o175_559 : tm_op 175 559 = some (.iaload, (0, 0, 0, 0)) := rfl
theorem r175_559 (d : Nat) (v : Int32) (a : Nat) (ls : tm_Lo) (st : List Value) (G : tm_G) (I : Nat → Nat → Int32) (J : Nat → Nat → Int64) (R : Nat → Nat → Option Nat) (K : Option Value → tm_H → Prop) : tm_A d 175 559 ls (.int v :: .ref a :: st) (G, I, J, R) K ↔ ((G.2.2 a).1 = 1 ∧ tm_in v (G.2.2 a).2) ∧ tm_A d 175 560 ls (.int (I a (tm_ix v)) :: st) (G, I, J, R) K := tm_iald o175_559
set_option maxRecDepth 20000 in
theorem o175_560 : tm_op 175 560 = some (.aload_n 0, (0, 0, 0, 0)) := rfl
theorem r175_560 (d : Nat) (v : Nat) (l1 l2 l3 : Option Value) (st : List Value) (h : tm_H) (K : Option Value → tm_H → Prop) : tm_A d 175 560 [some (.ref v), l1, l2, l3] st h K ↔ tm_A d 175 561 [some (.ref v), l1, l2, l3] (.ref v :: st) h K := tm_s o175_560 rfl rfl rfl
set_option maxRecDepth 20000 in
theorem o175_561 : tm_op 175 561 = some (.iload_n 3, (0, 0, 0, 0)) := rfl
theorem r175_561 (d : Nat) (v : Int32) (l0 l1 l2 : Option Value) (st : List Value) (h : tm_H) (K : Option Value → tm_H → Prop) : tm_A d 175 561 [l0, l1, l2, some (.int v)] st h K ↔ tm_A d 175 562 [l0, l1, l2, some (.int v)] (.int v :: st) h K := tm_s o175_561 rfl rfl rfl
set_option maxRecDepth 20000 in
theorem o175_562 : tm_op 175 562 = some (.iconst 3, (0, 0, 0, 0)) := rfl
theorem r175_562 (d : Nat) (ls : tm_Lo) (st : List Value) (h : tm_H) (K : Option Value → tm_H → Prop) : tm_A d 175 562 ls st h K ↔ tm_A d 175 563 ls (.int (3 : Int32) :: st) h K := tm_ic o175_562 (by decide)
set_option maxRecDepth 20000 in
theorem o175_563 : tm_op 175 563 = some (.iadd, (0, 0, 0, 0)) := rfl
theorem r175_563 (d : Nat) (u v : Int32) (ls : tm_Lo) (st : List Value) (h : tm_H) (K : Option Value → tm_H → Prop) : tm_A d 175 563 ls (.int u :: .int v :: st) h K ↔ tm_A d 175 564 ls (.int (v + u) :: st) h K := tm_s o175_563 rfl rfl rfl
set_option maxRecDepth 20000 in
theorem o175_564 : tm_op 175 564 = some (.iaload, (0, 0, 0, 0)) := rfl
theorem r175_564 (d : Nat) (v : Int32) (a : Nat) (ls : tm_Lo) (st : List Value) (G : tm_G) (I : Nat → Nat → Int32) (J : Nat → Nat → Int64) (R : Nat → Nat → Option Nat) (K : Option Value → tm_H → Prop) : tm_A d 175 564 ls (.int v :: .ref a :: st) (G, I, J, R) K ↔ ((G.2.2 a).1 = 1 ∧ tm_in v (G.2.2 a).2) ∧ tm_A d 175 565 ls (.int (I a (tm_ix v)) :: st) (G, I, J, R) K := tm_iald o175_564
set_option maxRecDepth 20000 in
theorem o175_565 : tm_op 175 565 = some (.invokevirtual 74, (2, 99, 4, 9)) := rfl
theorem r175_565 (d : Nat) (v1 : Int32) (v2 : Int32) (v3 : Int32) (a : Nat) (ls : tm_Lo) (st : List Value) (h : tm_H) (K : Option Value → tm_H → Prop) : tm_A (d + 1) 175 565 ls (.int v3 :: .int v2 :: .int v1 :: .ref a :: st) h K ↔ (h.1.2.2 a = (0, 9) ∧ tm_cs st) ∧ tm_R d 99 [.ref a, .int v1, .int v2, .int v3] h (fun r h' => tm_A (d + 1) 175 568 ls (r.toList ++ st) h' K) := tm_callV (as := [.int v1, .int v2, .int v3]) o175_565 rfl rfl rfl rfl
set_option maxRecDepth 20000 in
theorem o175_568 : tm_op 175 568 = some (.aload_n 2, (0, 0, 0, 0)) := rfl
theorem r175_568 (d : Nat) (v : Nat) (l0 l1 l3 : Option Value) (st : List Value) (h : tm_H) (K : Option Value → tm_H → Prop) : tm_A d 175 568 [l0, l1, some (.ref v), l3] st h K ↔ tm_A d 175 569 [l0, l1, some (.ref v), l3] (.ref v :: st) h K := tm_s o175_568 rfl rfl rfl
theorem r175_568n (d : Nat)  (l0 l1 l3 : Option Value) (st : List Value) (h : tm_H) (K : Option Value → tm_H → Prop) : tm_A d 175 568 [l0, l1, some .null, l3] st h K ↔ tm_A d 175 569 [l0, l1, some .null, l3] (.null :: st) h K := tm_s o175_568 rfl rfl rfl
set_option maxRecDepth 20000 in
theorem o175_569 : tm_op 175 569 = some (.aload_n 0, (0, 0, 0, 0)) := rfl
theorem r175_569 (d : Nat) (v : Nat) (l1 l2 l3 : Option Value) (st : List Value) (h : tm_H) (K : Option Value → tm_H → Prop) : tm_A d 175 569 [some (.ref v), l1, l2, l3] st h K ↔ tm_A d 175 570 [some (.ref v), l1, l2, l3] (.ref v :: st) h K := tm_s o175_569 rfl rfl rfl
set_option maxRecDepth 20000 in
theorem o175_570 : tm_op 175 570 = some (.iload_n 3, (0, 0, 0, 0)) := rfl
theorem r175_570 (d : Nat) (v : Int32) (l0 l1 l2 : Option Value) (st : List Value) (h : tm_H) (K : Option Value → tm_H → Prop) : tm_A d 175 570 [l0, l1, l2, some (.int v)] st h K ↔ tm_A d 175 571 [l0, l1, l2, some (.int v)] (.int v :: st) h K := tm_s o175_570 rfl rfl rfl
set_option maxRecDepth 20000 in
theorem o175_571 : tm_op 175 571 = some (.iconst 1, (0, 0, 0, 0)) := rfl
theorem r175_571 (d : Nat) (ls : tm_Lo) (st : List Value) (h : tm_H) (K : Option Value → tm_H → Prop) : tm_A d 175 571 ls st h K ↔ tm_A d 175 572 ls (.int (1 : Int32) :: st) h K := tm_ic o175_571 (by decide)
set_option maxRecDepth 20000 in
theorem o175_572 : tm_op 175 572 = some (.iadd, (0, 0, 0, 0)) := rfl
theorem r175_572 (d : Nat) (u v : Int32) (ls : tm_Lo) (st : List Value) (h : tm_H) (K : Option Value → tm_H → Prop) : tm_A d 175 572 ls (.int u :: .int v :: st) h K ↔ tm_A d 175 573 ls (.int (v + u) :: st) h K := tm_s o175_572 rfl rfl rfl
set_option maxRecDepth 20000 in
theorem o175_573 : tm_op 175 573 = some (.iaload, (0, 0, 0, 0)) := rfl
theorem r175_573 (d : Nat) (v : Int32) (a : Nat) (ls : tm_Lo) (st : List Value) (G : tm_G) (I : Nat → Nat → Int32) (J : Nat → Nat → Int64) (R : Nat → Nat → Option Nat) (K : Option Value → tm_H → Prop) : tm_A d 175 573 ls (.int v :: .ref a :: st) (G, I, J, R) K ↔ ((G.2.2 a).1 = 1 ∧ tm_in v (G.2.2 a).2) ∧ tm_A d 175 574 ls (.int (I a (tm_ix v)) :: st) (G, I, J, R) K := tm_iald o175_573
set_option maxRecDepth 20000 in
theorem o175_574 : tm_op 175 574 = some (.aload_n 0, (0, 0, 0, 0)) := rfl
theorem r175_574 (d : Nat) (v : Nat) (l1 l2 l3 : Option Value) (st : List Value) (h : tm_H) (K : Option Value → tm_H → Prop) : tm_A d 175 574 [some (.ref v), l1, l2, l3] st h K ↔ tm_A d 175 575 [some (.ref v), l1, l2, l3] (.ref v :: st) h K := tm_s o175_574 rfl rfl rfl
set_option maxRecDepth 20000 in
theorem o175_575 : tm_op 175 575 = some (.iload_n 3, (0, 0, 0, 0)) := rfl
theorem r175_575 (d : Nat) (v : Int32) (l0 l1 l2 : Option Value) (st : List Value) (h : tm_H) (K : Option Value → tm_H → Prop) : tm_A d 175 575 [l0, l1, l2, some (.int v)] st h K ↔ tm_A d 175 576 [l0, l1, l2, some (.int v)] (.int v :: st) h K := tm_s o175_575 rfl rfl rfl
set_option maxRecDepth 20000 in
theorem o175_576 : tm_op 175 576 = some (.iconst 2, (0, 0, 0, 0)) := rfl
theorem r175_576 (d : Nat) (ls : tm_Lo) (st : List Value) (h : tm_H) (K : Option Value → tm_H → Prop) : tm_A d 175 576 ls st h K ↔ tm_A d 175 577 ls (.int (2 : Int32) :: st) h K := tm_ic o175_576 (by decide)
set_option maxRecDepth 20000 in
theorem o175_577 : tm_op 175 577 = some (.iadd, (0, 0, 0, 0)) := rfl
theorem r175_577 (d : Nat) (u v : Int32) (ls : tm_Lo) (st : List Value) (h : tm_H) (K : Option Value → tm_H → Prop) : tm_A d 175 577 ls (.int u :: .int v :: st) h K ↔ tm_A d 175 578 ls (.int (v + u) :: st) h K := tm_s o175_577 rfl rfl rfl
set_option maxRecDepth 20000 in
theorem o175_578 : tm_op 175 578 = some (.iaload, (0, 0, 0, 0)) := rfl
theorem r175_578 (d : Nat) (v : Int32) (a : Nat) (ls : tm_Lo) (st : List Value) (G : tm_G) (I : Nat → Nat → Int32) (J : Nat → Nat → Int64) (R : Nat → Nat → Option Nat) (K : Option Value → tm_H → Prop) : tm_A d 175 578 ls (.int v :: .ref a :: st) (G, I, J, R) K ↔ ((G.2.2 a).1 = 1 ∧ tm_in v (G.2.2 a).2) ∧ tm_A d 175 579 ls (.int (I a (tm_ix v)) :: st) (G, I, J, R) K := tm_iald o175_578
set_option maxRecDepth 20000 in
theorem o175_579 : tm_op 175 579 = some (.aload_n 0, (0, 0, 0, 0)) := rfl
theorem r175_579 (d : Nat) (v : Nat) (l1 l2 l3 : Option Value) (st : List Value) (h : tm_H) (K : Option Value → tm_H → Prop) : tm_A d 175 579 [some (.ref v), l1, l2, l3] st h K ↔ tm_A d 175 580 [some (.ref v), l1, l2, l3] (.ref v :: st) h K := tm_s o175_579 rfl rfl rfl
set_option maxRecDepth 20000 in
theorem o175_580 : tm_op 175 580 = some (.iload_n 3, (0, 0, 0, 0)) := rfl
theorem r175_580 (d : Nat) (v : Int32) (l0 l1 l2 : Option Value) (st : List Value) (h : tm_H) (K : Option Value → tm_H → Prop) : tm_A d 175 580 [l0, l1, l2, some (.int v)] st h K ↔ tm_A d 175 581 [l0, l1, l2, some (.int v)] (.int v :: st) h K := tm_s o175_580 rfl rfl rfl
set_option maxRecDepth 20000 in
theorem o175_581 : tm_op 175 581 = some (.iconst 3, (0, 0, 0, 0)) := rfl
theorem r175_581 (d : Nat) (ls : tm_Lo) (st : List Value) (h : tm_H) (K : Option Value → tm_H → Prop) : tm_A d 175 581 ls st h K ↔ tm_A d 175 582 ls (.int (3 : Int32) :: st) h K := tm_ic o175_581 (by decide)
set_option maxRecDepth 20000 in
theorem o175_582 : tm_op 175 582 = some (.iadd, (0, 0, 0, 0)) := rfl
theorem r175_582 (d : Nat) (u v : Int32) (ls : tm_Lo) (st : List Value) (h : tm_H) (K : Option Value → tm_H → Prop) : tm_A d 175 582 ls (.int u :: .int v :: st) h K ↔ tm_A d 175 583 ls (.int (v + u) :: st) h K := tm_s o175_582 rfl rfl rfl
set_option maxRecDepth 20000 in
theorem o175_583 : tm_op 175 583 = some (.iaload, (0, 0, 0, 0)) := rfl
theorem r175_583 (d : Nat) (v : Int32) (a : Nat) (ls : tm_Lo) (st : List Value) (G : tm_G) (I : Nat → Nat → Int32) (J : Nat → Nat → Int64) (R : Nat → Nat → Option Nat) (K : Option Value → tm_H → Prop) : tm_A d 175 583 ls (.int v :: .ref a :: st) (G, I, J, R) K ↔ ((G.2.2 a).1 = 1 ∧ tm_in v (G.2.2 a).2) ∧ tm_A d 175 584 ls (.int (I a (tm_ix v)) :: st) (G, I, J, R) K := tm_iald o175_583
set_option maxRecDepth 20000 in
theorem o175_584 : tm_op 175 584 = some (.invokevirtual 77, (2, 153, 4, 10)) := rfl
theorem r175_584 (d : Nat) (v1 : Int32) (v2 : Int32) (v3 : Int32) (a : Nat) (ls : tm_Lo) (st : List Value) (h : tm_H) (K : Option Value → tm_H → Prop) : tm_A (d + 1) 175 584 ls (.int v3 :: .int v2 :: .int v1 :: .ref a :: st) h K ↔ (h.1.2.2 a = (0, 10) ∧ tm_cs st) ∧ tm_R d 153 [.ref a, .int v1, .int v2, .int v3] h (fun r h' => tm_A (d + 1) 175 587 ls (r.toList ++ st) h' K) := tm_callV (as := [.int v1, .int v2, .int v3]) o175_584 rfl rfl rfl rfl
set_option maxRecDepth 20000 in
theorem o175_587 : tm_op 175 587 = some (.if_icmp .eq 272, (0, 0, 0, 0)) := rfl
theorem r175_587 (d : Nat) (y x : Int32) (ls : tm_Lo) (st : List Value) (h : tm_H) (K : Option Value → tm_H → Prop) : tm_A d 175 587 ls (.int y :: .int x :: st) h K ↔ if x = y then tm_A d 175 859 ls st h K else tm_A d 175 590 ls st h K := tm_b o175_587 rfl rfl rfl rfl
set_option maxRecDepth 20000 in
theorem o175_590 : tm_op 175 590 = some (.iconst 0, (0, 0, 0, 0)) := rfl
theorem r175_590 (d : Nat) (ls : tm_Lo) (st : List Value) (h : tm_H) (K : Option Value → tm_H → Prop) : tm_A d 175 590 ls st h K ↔ tm_A d 175 591 ls (.int (0 : Int32) :: st) h K := tm_ic o175_590 (by decide)
set_option maxRecDepth 20000 in
theorem o175_591 : tm_op 175 591 = some (.ireturn, (0, 0, 0, 0)) := rfl
theorem r175_591 (d : Nat) (v : Int32) (ls : tm_Lo) (h : tm_H) (K : Option Value → tm_H → Prop) : tm_A d 175 591 ls [.int v] h K ↔ (v = 0 ∨ v = 1) ∧ K (some (.int v)) h := tm_retz o175_591 rfl
set_option maxRecDepth 20000 in
theorem o175_592 : tm_op 175 592 = some (.aload_n 1, (0, 0, 0, 0)) := rfl
theorem r175_592 (d : Nat) (v : Nat) (l0 l2 l3 : Option Value) (st : List Value) (h : tm_H) (K : Option Value → tm_H → Prop) : tm_A d 175 592 [l0, some (.ref v), l2, l3] st h K ↔ tm_A d 175 593 [l0, some (.ref v), l2, l3] (.ref v :: st) h K := tm_s o175_592 rfl rfl rfl
theorem r175_592n (d : Nat)  (l0 l2 l3 : Option Value) (st : List Value) (h : tm_H) (K : Option Value → tm_H → Prop) : tm_A d 175 592 [l0, some .null, l2, l3] st h K ↔ tm_A d 175 593 [l0, some .null, l2, l3] (.null :: st) h K := tm_s o175_592 rfl rfl rfl
set_option maxRecDepth 20000 in
theorem o175_593 : tm_op 175 593 = some (.aload_n 0, (0, 0, 0, 0)) := rfl
theorem r175_593 (d : Nat) (v : Nat) (l1 l2 l3 : Option Value) (st : List Value) (h : tm_H) (K : Option Value → tm_H → Prop) : tm_A d 175 593 [some (.ref v), l1, l2, l3] st h K ↔ tm_A d 175 594 [some (.ref v), l1, l2, l3] (.ref v :: st) h K := tm_s o175_593 rfl rfl rfl
set_option maxRecDepth 20000 in
theorem o175_594 : tm_op 175 594 = some (.iload_n 3, (0, 0, 0, 0)) := rfl
theorem r175_594 (d : Nat) (v : Int32) (l0 l1 l2 : Option Value) (st : List Value) (h : tm_H) (K : Option Value → tm_H → Prop) : tm_A d 175 594 [l0, l1, l2, some (.int v)] st h K ↔ tm_A d 175 595 [l0, l1, l2, some (.int v)] (.int v :: st) h K := tm_s o175_594 rfl rfl rfl
set_option maxRecDepth 20000 in
theorem o175_595 : tm_op 175 595 = some (.iconst 1, (0, 0, 0, 0)) := rfl
theorem r175_595 (d : Nat) (ls : tm_Lo) (st : List Value) (h : tm_H) (K : Option Value → tm_H → Prop) : tm_A d 175 595 ls st h K ↔ tm_A d 175 596 ls (.int (1 : Int32) :: st) h K := tm_ic o175_595 (by decide)
set_option maxRecDepth 20000 in
theorem o175_596 : tm_op 175 596 = some (.iadd, (0, 0, 0, 0)) := rfl
theorem r175_596 (d : Nat) (u v : Int32) (ls : tm_Lo) (st : List Value) (h : tm_H) (K : Option Value → tm_H → Prop) : tm_A d 175 596 ls (.int u :: .int v :: st) h K ↔ tm_A d 175 597 ls (.int (v + u) :: st) h K := tm_s o175_596 rfl rfl rfl
set_option maxRecDepth 20000 in
theorem o175_597 : tm_op 175 597 = some (.iaload, (0, 0, 0, 0)) := rfl
theorem r175_597 (d : Nat) (v : Int32) (a : Nat) (ls : tm_Lo) (st : List Value) (G : tm_G) (I : Nat → Nat → Int32) (J : Nat → Nat → Int64) (R : Nat → Nat → Option Nat) (K : Option Value → tm_H → Prop) : tm_A d 175 597 ls (.int v :: .ref a :: st) (G, I, J, R) K ↔ ((G.2.2 a).1 = 1 ∧ tm_in v (G.2.2 a).2) ∧ tm_A d 175 598 ls (.int (I a (tm_ix v)) :: st) (G, I, J, R) K := tm_iald o175_597
set_option maxRecDepth 20000 in
theorem o175_598 : tm_op 175 598 = some (.aload_n 0, (0, 0, 0, 0)) := rfl
theorem r175_598 (d : Nat) (v : Nat) (l1 l2 l3 : Option Value) (st : List Value) (h : tm_H) (K : Option Value → tm_H → Prop) : tm_A d 175 598 [some (.ref v), l1, l2, l3] st h K ↔ tm_A d 175 599 [some (.ref v), l1, l2, l3] (.ref v :: st) h K := tm_s o175_598 rfl rfl rfl
set_option maxRecDepth 20000 in
theorem o175_599 : tm_op 175 599 = some (.iload_n 3, (0, 0, 0, 0)) := rfl
theorem r175_599 (d : Nat) (v : Int32) (l0 l1 l2 : Option Value) (st : List Value) (h : tm_H) (K : Option Value → tm_H → Prop) : tm_A d 175 599 [l0, l1, l2, some (.int v)] st h K ↔ tm_A d 175 600 [l0, l1, l2, some (.int v)] (.int v :: st) h K := tm_s o175_599 rfl rfl rfl
set_option maxRecDepth 20000 in
theorem o175_600 : tm_op 175 600 = some (.iconst 2, (0, 0, 0, 0)) := rfl
theorem r175_600 (d : Nat) (ls : tm_Lo) (st : List Value) (h : tm_H) (K : Option Value → tm_H → Prop) : tm_A d 175 600 ls st h K ↔ tm_A d 175 601 ls (.int (2 : Int32) :: st) h K := tm_ic o175_600 (by decide)
set_option maxRecDepth 20000 in
theorem o175_601 : tm_op 175 601 = some (.iadd, (0, 0, 0, 0)) := rfl
theorem r175_601 (d : Nat) (u v : Int32) (ls : tm_Lo) (st : List Value) (h : tm_H) (K : Option Value → tm_H → Prop) : tm_A d 175 601 ls (.int u :: .int v :: st) h K ↔ tm_A d 175 602 ls (.int (v + u) :: st) h K := tm_s o175_601 rfl rfl rfl
set_option maxRecDepth 20000 in
theorem o175_602 : tm_op 175 602 = some (.iaload, (0, 0, 0, 0)) := rfl
theorem r175_602 (d : Nat) (v : Int32) (a : Nat) (ls : tm_Lo) (st : List Value) (G : tm_G) (I : Nat → Nat → Int32) (J : Nat → Nat → Int64) (R : Nat → Nat → Option Nat) (K : Option Value → tm_H → Prop) : tm_A d 175 602 ls (.int v :: .ref a :: st) (G, I, J, R) K ↔ ((G.2.2 a).1 = 1 ∧ tm_in v (G.2.2 a).2) ∧ tm_A d 175 603 ls (.int (I a (tm_ix v)) :: st) (G, I, J, R) K := tm_iald o175_602
set_option maxRecDepth 20000 in
theorem o175_603 : tm_op 175 603 = some (.invokevirtual 78, (2, 100, 3, 9)) := rfl
theorem r175_603 (d : Nat) (v1 : Int32) (v2 : Int32) (a : Nat) (ls : tm_Lo) (st : List Value) (h : tm_H) (K : Option Value → tm_H → Prop) : tm_A (d + 1) 175 603 ls (.int v2 :: .int v1 :: .ref a :: st) h K ↔ (h.1.2.2 a = (0, 9) ∧ tm_cs st) ∧ tm_R d 100 [.ref a, .int v1, .int v2] h (fun r h' => tm_A (d + 1) 175 606 ls (r.toList ++ st) h' K) := tm_callV (as := [.int v1, .int v2]) o175_603 rfl rfl rfl rfl
set_option maxRecDepth 20000 in
theorem o175_606 : tm_op 175 606 = some (.aload_n 2, (0, 0, 0, 0)) := rfl
theorem r175_606 (d : Nat) (v : Nat) (l0 l1 l3 : Option Value) (st : List Value) (h : tm_H) (K : Option Value → tm_H → Prop) : tm_A d 175 606 [l0, l1, some (.ref v), l3] st h K ↔ tm_A d 175 607 [l0, l1, some (.ref v), l3] (.ref v :: st) h K := tm_s o175_606 rfl rfl rfl
theorem r175_606n (d : Nat)  (l0 l1 l3 : Option Value) (st : List Value) (h : tm_H) (K : Option Value → tm_H → Prop) : tm_A d 175 606 [l0, l1, some .null, l3] st h K ↔ tm_A d 175 607 [l0, l1, some .null, l3] (.null :: st) h K := tm_s o175_606 rfl rfl rfl
set_option maxRecDepth 20000 in
theorem o175_607 : tm_op 175 607 = some (.aload_n 0, (0, 0, 0, 0)) := rfl
theorem r175_607 (d : Nat) (v : Nat) (l1 l2 l3 : Option Value) (st : List Value) (h : tm_H) (K : Option Value → tm_H → Prop) : tm_A d 175 607 [some (.ref v), l1, l2, l3] st h K ↔ tm_A d 175 608 [some (.ref v), l1, l2, l3] (.ref v :: st) h K := tm_s o175_607 rfl rfl rfl
set_option maxRecDepth 20000 in
theorem o175_608 : tm_op 175 608 = some (.iload_n 3, (0, 0, 0, 0)) := rfl
theorem r175_608 (d : Nat) (v : Int32) (l0 l1 l2 : Option Value) (st : List Value) (h : tm_H) (K : Option Value → tm_H → Prop) : tm_A d 175 608 [l0, l1, l2, some (.int v)] st h K ↔ tm_A d 175 609 [l0, l1, l2, some (.int v)] (.int v :: st) h K := tm_s o175_608 rfl rfl rfl
set_option maxRecDepth 20000 in
theorem o175_609 : tm_op 175 609 = some (.iconst 1, (0, 0, 0, 0)) := rfl
theorem r175_609 (d : Nat) (ls : tm_Lo) (st : List Value) (h : tm_H) (K : Option Value → tm_H → Prop) : tm_A d 175 609 ls st h K ↔ tm_A d 175 610 ls (.int (1 : Int32) :: st) h K := tm_ic o175_609 (by decide)
set_option maxRecDepth 20000 in
theorem o175_610 : tm_op 175 610 = some (.iadd, (0, 0, 0, 0)) := rfl
theorem r175_610 (d : Nat) (u v : Int32) (ls : tm_Lo) (st : List Value) (h : tm_H) (K : Option Value → tm_H → Prop) : tm_A d 175 610 ls (.int u :: .int v :: st) h K ↔ tm_A d 175 611 ls (.int (v + u) :: st) h K := tm_s o175_610 rfl rfl rfl
set_option maxRecDepth 20000 in
theorem o175_611 : tm_op 175 611 = some (.iaload, (0, 0, 0, 0)) := rfl
theorem r175_611 (d : Nat) (v : Int32) (a : Nat) (ls : tm_Lo) (st : List Value) (G : tm_G) (I : Nat → Nat → Int32) (J : Nat → Nat → Int64) (R : Nat → Nat → Option Nat) (K : Option Value → tm_H → Prop) : tm_A d 175 611 ls (.int v :: .ref a :: st) (G, I, J, R) K ↔ ((G.2.2 a).1 = 1 ∧ tm_in v (G.2.2 a).2) ∧ tm_A d 175 612 ls (.int (I a (tm_ix v)) :: st) (G, I, J, R) K := tm_iald o175_611
set_option maxRecDepth 20000 in
theorem o175_612 : tm_op 175 612 = some (.aload_n 0, (0, 0, 0, 0)) := rfl
theorem r175_612 (d : Nat) (v : Nat) (l1 l2 l3 : Option Value) (st : List Value) (h : tm_H) (K : Option Value → tm_H → Prop) : tm_A d 175 612 [some (.ref v), l1, l2, l3] st h K ↔ tm_A d 175 613 [some (.ref v), l1, l2, l3] (.ref v :: st) h K := tm_s o175_612 rfl rfl rfl
set_option maxRecDepth 20000 in
theorem o175_613 : tm_op 175 613 = some (.iload_n 3, (0, 0, 0, 0)) := rfl
theorem r175_613 (d : Nat) (v : Int32) (l0 l1 l2 : Option Value) (st : List Value) (h : tm_H) (K : Option Value → tm_H → Prop) : tm_A d 175 613 [l0, l1, l2, some (.int v)] st h K ↔ tm_A d 175 614 [l0, l1, l2, some (.int v)] (.int v :: st) h K := tm_s o175_613 rfl rfl rfl
set_option maxRecDepth 20000 in
theorem o175_614 : tm_op 175 614 = some (.iconst 2, (0, 0, 0, 0)) := rfl
theorem r175_614 (d : Nat) (ls : tm_Lo) (st : List Value) (h : tm_H) (K : Option Value → tm_H → Prop) : tm_A d 175 614 ls st h K ↔ tm_A d 175 615 ls (.int (2 : Int32) :: st) h K := tm_ic o175_614 (by decide)
set_option maxRecDepth 20000 in
theorem o175_615 : tm_op 175 615 = some (.iadd, (0, 0, 0, 0)) := rfl
theorem r175_615 (d : Nat) (u v : Int32) (ls : tm_Lo) (st : List Value) (h : tm_H) (K : Option Value → tm_H → Prop) : tm_A d 175 615 ls (.int u :: .int v :: st) h K ↔ tm_A d 175 616 ls (.int (v + u) :: st) h K := tm_s o175_615 rfl rfl rfl
set_option maxRecDepth 20000 in
theorem o175_616 : tm_op 175 616 = some (.iaload, (0, 0, 0, 0)) := rfl
theorem r175_616 (d : Nat) (v : Int32) (a : Nat) (ls : tm_Lo) (st : List Value) (G : tm_G) (I : Nat → Nat → Int32) (J : Nat → Nat → Int64) (R : Nat → Nat → Option Nat) (K : Option Value → tm_H → Prop) : tm_A d 175 616 ls (.int v :: .ref a :: st) (G, I, J, R) K ↔ ((G.2.2 a).1 = 1 ∧ tm_in v (G.2.2 a).2) ∧ tm_A d 175 617 ls (.int (I a (tm_ix v)) :: st) (G, I, J, R) K := tm_iald o175_616
set_option maxRecDepth 20000 in
theorem o175_617 : tm_op 175 617 = some (.invokevirtual 81, (2, 158, 3, 10)) := rfl
theorem r175_617 (d : Nat) (v1 : Int32) (v2 : Int32) (a : Nat) (ls : tm_Lo) (st : List Value) (h : tm_H) (K : Option Value → tm_H → Prop) : tm_A (d + 1) 175 617 ls (.int v2 :: .int v1 :: .ref a :: st) h K ↔ (h.1.2.2 a = (0, 10) ∧ tm_cs st) ∧ tm_R d 158 [.ref a, .int v1, .int v2] h (fun r h' => tm_A (d + 1) 175 620 ls (r.toList ++ st) h' K) := tm_callV (as := [.int v1, .int v2]) o175_617 rfl rfl rfl rfl
set_option maxRecDepth 20000 in
theorem o175_620 : tm_op 175 620 = some (.if_icmp .eq 239, (0, 0, 0, 0)) := rfl
theorem r175_620 (d : Nat) (y x : Int32) (ls : tm_Lo) (st : List Value) (h : tm_H) (K : Option Value → tm_H → Prop) : tm_A d 175 620 ls (.int y :: .int x :: st) h K ↔ if x = y then tm_A d 175 859 ls st h K else tm_A d 175 623 ls st h K := tm_b o175_620 rfl rfl rfl rfl
set_option maxRecDepth 20000 in
theorem o175_623 : tm_op 175 623 = some (.iconst 0, (0, 0, 0, 0)) := rfl
theorem r175_623 (d : Nat) (ls : tm_Lo) (st : List Value) (h : tm_H) (K : Option Value → tm_H → Prop) : tm_A d 175 623 ls st h K ↔ tm_A d 175 624 ls (.int (0 : Int32) :: st) h K := tm_ic o175_623 (by decide)
set_option maxRecDepth 20000 in
theorem o175_624 : tm_op 175 624 = some (.ireturn, (0, 0, 0, 0)) := rfl
theorem r175_624 (d : Nat) (v : Int32) (ls : tm_Lo) (h : tm_H) (K : Option Value → tm_H → Prop) : tm_A d 175 624 ls [.int v] h K ↔ (v = 0 ∨ v = 1) ∧ K (some (.int v)) h := tm_retz o175_624 rfl
set_option maxRecDepth 20000 in
theorem o175_625 : tm_op 175 625 = some (.aload_n 1, (0, 0, 0, 0)) := rfl
theorem r175_625 (d : Nat) (v : Nat) (l0 l2 l3 : Option Value) (st : List Value) (h : tm_H) (K : Option Value → tm_H → Prop) : tm_A d 175 625 [l0, some (.ref v), l2, l3] st h K ↔ tm_A d 175 626 [l0, some (.ref v), l2, l3] (.ref v :: st) h K := tm_s o175_625 rfl rfl rfl
theorem r175_625n (d : Nat)  (l0 l2 l3 : Option Value) (st : List Value) (h : tm_H) (K : Option Value → tm_H → Prop) : tm_A d 175 625 [l0, some .null, l2, l3] st h K ↔ tm_A d 175 626 [l0, some .null, l2, l3] (.null :: st) h K := tm_s o175_625 rfl rfl rfl
set_option maxRecDepth 20000 in
theorem o175_626 : tm_op 175 626 = some (.aload_n 0, (0, 0, 0, 0)) := rfl
theorem r175_626 (d : Nat) (v : Nat) (l1 l2 l3 : Option Value) (st : List Value) (h : tm_H) (K : Option Value → tm_H → Prop) : tm_A d 175 626 [some (.ref v), l1, l2, l3] st h K ↔ tm_A d 175 627 [some (.ref v), l1, l2, l3] (.ref v :: st) h K := tm_s o175_626 rfl rfl rfl
set_option maxRecDepth 20000 in
theorem o175_627 : tm_op 175 627 = some (.iload_n 3, (0, 0, 0, 0)) := rfl
theorem r175_627 (d : Nat) (v : Int32) (l0 l1 l2 : Option Value) (st : List Value) (h : tm_H) (K : Option Value → tm_H → Prop) : tm_A d 175 627 [l0, l1, l2, some (.int v)] st h K ↔ tm_A d 175 628 [l0, l1, l2, some (.int v)] (.int v :: st) h K := tm_s o175_627 rfl rfl rfl
set_option maxRecDepth 20000 in
theorem o175_628 : tm_op 175 628 = some (.iconst 1, (0, 0, 0, 0)) := rfl
theorem r175_628 (d : Nat) (ls : tm_Lo) (st : List Value) (h : tm_H) (K : Option Value → tm_H → Prop) : tm_A d 175 628 ls st h K ↔ tm_A d 175 629 ls (.int (1 : Int32) :: st) h K := tm_ic o175_628 (by decide)
set_option maxRecDepth 20000 in
theorem o175_629 : tm_op 175 629 = some (.iadd, (0, 0, 0, 0)) := rfl
theorem r175_629 (d : Nat) (u v : Int32) (ls : tm_Lo) (st : List Value) (h : tm_H) (K : Option Value → tm_H → Prop) : tm_A d 175 629 ls (.int u :: .int v :: st) h K ↔ tm_A d 175 630 ls (.int (v + u) :: st) h K := tm_s o175_629 rfl rfl rfl
set_option maxRecDepth 20000 in
theorem o175_630 : tm_op 175 630 = some (.iaload, (0, 0, 0, 0)) := rfl
theorem r175_630 (d : Nat) (v : Int32) (a : Nat) (ls : tm_Lo) (st : List Value) (G : tm_G) (I : Nat → Nat → Int32) (J : Nat → Nat → Int64) (R : Nat → Nat → Option Nat) (K : Option Value → tm_H → Prop) : tm_A d 175 630 ls (.int v :: .ref a :: st) (G, I, J, R) K ↔ ((G.2.2 a).1 = 1 ∧ tm_in v (G.2.2 a).2) ∧ tm_A d 175 631 ls (.int (I a (tm_ix v)) :: st) (G, I, J, R) K := tm_iald o175_630
set_option maxRecDepth 20000 in
theorem o175_631 : tm_op 175 631 = some (.invokevirtual 82, (2, 101, 2, 9)) := rfl
theorem r175_631 (d : Nat) (v1 : Int32) (a : Nat) (ls : tm_Lo) (st : List Value) (h : tm_H) (K : Option Value → tm_H → Prop) : tm_A (d + 1) 175 631 ls (.int v1 :: .ref a :: st) h K ↔ (h.1.2.2 a = (0, 9) ∧ tm_cs st) ∧ tm_R d 101 [.ref a, .int v1] h (fun r h' => tm_A (d + 1) 175 634 ls (r.toList ++ st) h' K) := tm_callV (as := [.int v1]) o175_631 rfl rfl rfl rfl
set_option maxRecDepth 20000 in
theorem o175_634 : tm_op 175 634 = some (.aload_n 2, (0, 0, 0, 0)) := rfl
theorem r175_634 (d : Nat) (v : Nat) (l0 l1 l3 : Option Value) (st : List Value) (h : tm_H) (K : Option Value → tm_H → Prop) : tm_A d 175 634 [l0, l1, some (.ref v), l3] st h K ↔ tm_A d 175 635 [l0, l1, some (.ref v), l3] (.ref v :: st) h K := tm_s o175_634 rfl rfl rfl
theorem r175_634n (d : Nat)  (l0 l1 l3 : Option Value) (st : List Value) (h : tm_H) (K : Option Value → tm_H → Prop) : tm_A d 175 634 [l0, l1, some .null, l3] st h K ↔ tm_A d 175 635 [l0, l1, some .null, l3] (.null :: st) h K := tm_s o175_634 rfl rfl rfl
set_option maxRecDepth 20000 in
theorem o175_635 : tm_op 175 635 = some (.aload_n 0, (0, 0, 0, 0)) := rfl
theorem r175_635 (d : Nat) (v : Nat) (l1 l2 l3 : Option Value) (st : List Value) (h : tm_H) (K : Option Value → tm_H → Prop) : tm_A d 175 635 [some (.ref v), l1, l2, l3] st h K ↔ tm_A d 175 636 [some (.ref v), l1, l2, l3] (.ref v :: st) h K := tm_s o175_635 rfl rfl rfl
set_option maxRecDepth 20000 in
theorem o175_636 : tm_op 175 636 = some (.iload_n 3, (0, 0, 0, 0)) := rfl
theorem r175_636 (d : Nat) (v : Int32) (l0 l1 l2 : Option Value) (st : List Value) (h : tm_H) (K : Option Value → tm_H → Prop) : tm_A d 175 636 [l0, l1, l2, some (.int v)] st h K ↔ tm_A d 175 637 [l0, l1, l2, some (.int v)] (.int v :: st) h K := tm_s o175_636 rfl rfl rfl
set_option maxRecDepth 20000 in
theorem o175_637 : tm_op 175 637 = some (.iconst 1, (0, 0, 0, 0)) := rfl
theorem r175_637 (d : Nat) (ls : tm_Lo) (st : List Value) (h : tm_H) (K : Option Value → tm_H → Prop) : tm_A d 175 637 ls st h K ↔ tm_A d 175 638 ls (.int (1 : Int32) :: st) h K := tm_ic o175_637 (by decide)
set_option maxRecDepth 20000 in
theorem o175_638 : tm_op 175 638 = some (.iadd, (0, 0, 0, 0)) := rfl
theorem r175_638 (d : Nat) (u v : Int32) (ls : tm_Lo) (st : List Value) (h : tm_H) (K : Option Value → tm_H → Prop) : tm_A d 175 638 ls (.int u :: .int v :: st) h K ↔ tm_A d 175 639 ls (.int (v + u) :: st) h K := tm_s o175_638 rfl rfl rfl
set_option maxRecDepth 20000 in
theorem o175_639 : tm_op 175 639 = some (.iaload, (0, 0, 0, 0)) := rfl
theorem r175_639 (d : Nat) (v : Int32) (a : Nat) (ls : tm_Lo) (st : List Value) (G : tm_G) (I : Nat → Nat → Int32) (J : Nat → Nat → Int64) (R : Nat → Nat → Option Nat) (K : Option Value → tm_H → Prop) : tm_A d 175 639 ls (.int v :: .ref a :: st) (G, I, J, R) K ↔ ((G.2.2 a).1 = 1 ∧ tm_in v (G.2.2 a).2) ∧ tm_A d 175 640 ls (.int (I a (tm_ix v)) :: st) (G, I, J, R) K := tm_iald o175_639
set_option maxRecDepth 20000 in
theorem o175_640 : tm_op 175 640 = some (.invokevirtual 85, (2, 159, 2, 10)) := rfl
theorem r175_640 (d : Nat) (v1 : Int32) (a : Nat) (ls : tm_Lo) (st : List Value) (h : tm_H) (K : Option Value → tm_H → Prop) : tm_A (d + 1) 175 640 ls (.int v1 :: .ref a :: st) h K ↔ (h.1.2.2 a = (0, 10) ∧ tm_cs st) ∧ tm_R d 159 [.ref a, .int v1] h (fun r h' => tm_A (d + 1) 175 643 ls (r.toList ++ st) h' K) := tm_callV (as := [.int v1]) o175_640 rfl rfl rfl rfl
set_option maxRecDepth 20000 in
theorem o175_643 : tm_op 175 643 = some (.if_icmp .eq 216, (0, 0, 0, 0)) := rfl
theorem r175_643 (d : Nat) (y x : Int32) (ls : tm_Lo) (st : List Value) (h : tm_H) (K : Option Value → tm_H → Prop) : tm_A d 175 643 ls (.int y :: .int x :: st) h K ↔ if x = y then tm_A d 175 859 ls st h K else tm_A d 175 646 ls st h K := tm_b o175_643 rfl rfl rfl rfl
set_option maxRecDepth 20000 in
theorem o175_646 : tm_op 175 646 = some (.iconst 0, (0, 0, 0, 0)) := rfl
theorem r175_646 (d : Nat) (ls : tm_Lo) (st : List Value) (h : tm_H) (K : Option Value → tm_H → Prop) : tm_A d 175 646 ls st h K ↔ tm_A d 175 647 ls (.int (0 : Int32) :: st) h K := tm_ic o175_646 (by decide)
set_option maxRecDepth 20000 in
theorem o175_647 : tm_op 175 647 = some (.ireturn, (0, 0, 0, 0)) := rfl
theorem r175_647 (d : Nat) (v : Int32) (ls : tm_Lo) (h : tm_H) (K : Option Value → tm_H → Prop) : tm_A d 175 647 ls [.int v] h K ↔ (v = 0 ∨ v = 1) ∧ K (some (.int v)) h := tm_retz o175_647 rfl
set_option maxRecDepth 20000 in
theorem o175_648 : tm_op 175 648 = some (.aload_n 1, (0, 0, 0, 0)) := rfl
theorem r175_648 (d : Nat) (v : Nat) (l0 l2 l3 : Option Value) (st : List Value) (h : tm_H) (K : Option Value → tm_H → Prop) : tm_A d 175 648 [l0, some (.ref v), l2, l3] st h K ↔ tm_A d 175 649 [l0, some (.ref v), l2, l3] (.ref v :: st) h K := tm_s o175_648 rfl rfl rfl
theorem r175_648n (d : Nat)  (l0 l2 l3 : Option Value) (st : List Value) (h : tm_H) (K : Option Value → tm_H → Prop) : tm_A d 175 648 [l0, some .null, l2, l3] st h K ↔ tm_A d 175 649 [l0, some .null, l2, l3] (.null :: st) h K := tm_s o175_648 rfl rfl rfl
set_option maxRecDepth 20000 in
theorem o175_649 : tm_op 175 649 = some (.aload_n 0, (0, 0, 0, 0)) := rfl
theorem r175_649 (d : Nat) (v : Nat) (l1 l2 l3 : Option Value) (st : List Value) (h : tm_H) (K : Option Value → tm_H → Prop) : tm_A d 175 649 [some (.ref v), l1, l2, l3] st h K ↔ tm_A d 175 650 [some (.ref v), l1, l2, l3] (.ref v :: st) h K := tm_s o175_649 rfl rfl rfl
set_option maxRecDepth 20000 in
theorem o175_650 : tm_op 175 650 = some (.iload_n 3, (0, 0, 0, 0)) := rfl
theorem r175_650 (d : Nat) (v : Int32) (l0 l1 l2 : Option Value) (st : List Value) (h : tm_H) (K : Option Value → tm_H → Prop) : tm_A d 175 650 [l0, l1, l2, some (.int v)] st h K ↔ tm_A d 175 651 [l0, l1, l2, some (.int v)] (.int v :: st) h K := tm_s o175_650 rfl rfl rfl
set_option maxRecDepth 20000 in
theorem o175_651 : tm_op 175 651 = some (.iconst 1, (0, 0, 0, 0)) := rfl
theorem r175_651 (d : Nat) (ls : tm_Lo) (st : List Value) (h : tm_H) (K : Option Value → tm_H → Prop) : tm_A d 175 651 ls st h K ↔ tm_A d 175 652 ls (.int (1 : Int32) :: st) h K := tm_ic o175_651 (by decide)
set_option maxRecDepth 20000 in
theorem o175_652 : tm_op 175 652 = some (.iadd, (0, 0, 0, 0)) := rfl
theorem r175_652 (d : Nat) (u v : Int32) (ls : tm_Lo) (st : List Value) (h : tm_H) (K : Option Value → tm_H → Prop) : tm_A d 175 652 ls (.int u :: .int v :: st) h K ↔ tm_A d 175 653 ls (.int (v + u) :: st) h K := tm_s o175_652 rfl rfl rfl
set_option maxRecDepth 20000 in
theorem o175_653 : tm_op 175 653 = some (.iaload, (0, 0, 0, 0)) := rfl
theorem r175_653 (d : Nat) (v : Int32) (a : Nat) (ls : tm_Lo) (st : List Value) (G : tm_G) (I : Nat → Nat → Int32) (J : Nat → Nat → Int64) (R : Nat → Nat → Option Nat) (K : Option Value → tm_H → Prop) : tm_A d 175 653 ls (.int v :: .ref a :: st) (G, I, J, R) K ↔ ((G.2.2 a).1 = 1 ∧ tm_in v (G.2.2 a).2) ∧ tm_A d 175 654 ls (.int (I a (tm_ix v)) :: st) (G, I, J, R) K := tm_iald o175_653
set_option maxRecDepth 20000 in
theorem o175_654 : tm_op 175 654 = some (.invokevirtual 86, (2, 102, 2, 9)) := rfl
theorem r175_654 (d : Nat) (v1 : Int32) (a : Nat) (ls : tm_Lo) (st : List Value) (h : tm_H) (K : Option Value → tm_H → Prop) : tm_A (d + 1) 175 654 ls (.int v1 :: .ref a :: st) h K ↔ (h.1.2.2 a = (0, 9) ∧ tm_cs st) ∧ tm_R d 102 [.ref a, .int v1] h (fun r h' => tm_A (d + 1) 175 657 ls (r.toList ++ st) h' K) := tm_callV (as := [.int v1]) o175_654 rfl rfl rfl rfl
set_option maxRecDepth 20000 in
theorem o175_657 : tm_op 175 657 = some (.aload_n 2, (0, 0, 0, 0)) := rfl
theorem r175_657 (d : Nat) (v : Nat) (l0 l1 l3 : Option Value) (st : List Value) (h : tm_H) (K : Option Value → tm_H → Prop) : tm_A d 175 657 [l0, l1, some (.ref v), l3] st h K ↔ tm_A d 175 658 [l0, l1, some (.ref v), l3] (.ref v :: st) h K := tm_s o175_657 rfl rfl rfl
theorem r175_657n (d : Nat)  (l0 l1 l3 : Option Value) (st : List Value) (h : tm_H) (K : Option Value → tm_H → Prop) : tm_A d 175 657 [l0, l1, some .null, l3] st h K ↔ tm_A d 175 658 [l0, l1, some .null, l3] (.null :: st) h K := tm_s o175_657 rfl rfl rfl
set_option maxRecDepth 20000 in
theorem o175_658 : tm_op 175 658 = some (.aload_n 0, (0, 0, 0, 0)) := rfl
theorem r175_658 (d : Nat) (v : Nat) (l1 l2 l3 : Option Value) (st : List Value) (h : tm_H) (K : Option Value → tm_H → Prop) : tm_A d 175 658 [some (.ref v), l1, l2, l3] st h K ↔ tm_A d 175 659 [some (.ref v), l1, l2, l3] (.ref v :: st) h K := tm_s o175_658 rfl rfl rfl
set_option maxRecDepth 20000 in
theorem o175_659 : tm_op 175 659 = some (.iload_n 3, (0, 0, 0, 0)) := rfl
theorem r175_659 (d : Nat) (v : Int32) (l0 l1 l2 : Option Value) (st : List Value) (h : tm_H) (K : Option Value → tm_H → Prop) : tm_A d 175 659 [l0, l1, l2, some (.int v)] st h K ↔ tm_A d 175 660 [l0, l1, l2, some (.int v)] (.int v :: st) h K := tm_s o175_659 rfl rfl rfl
set_option maxRecDepth 20000 in
theorem o175_660 : tm_op 175 660 = some (.iconst 1, (0, 0, 0, 0)) := rfl
theorem r175_660 (d : Nat) (ls : tm_Lo) (st : List Value) (h : tm_H) (K : Option Value → tm_H → Prop) : tm_A d 175 660 ls st h K ↔ tm_A d 175 661 ls (.int (1 : Int32) :: st) h K := tm_ic o175_660 (by decide)
set_option maxRecDepth 20000 in
theorem o175_661 : tm_op 175 661 = some (.iadd, (0, 0, 0, 0)) := rfl
theorem r175_661 (d : Nat) (u v : Int32) (ls : tm_Lo) (st : List Value) (h : tm_H) (K : Option Value → tm_H → Prop) : tm_A d 175 661 ls (.int u :: .int v :: st) h K ↔ tm_A d 175 662 ls (.int (v + u) :: st) h K := tm_s o175_661 rfl rfl rfl
set_option maxRecDepth 20000 in
theorem o175_662 : tm_op 175 662 = some (.iaload, (0, 0, 0, 0)) := rfl
theorem r175_662 (d : Nat) (v : Int32) (a : Nat) (ls : tm_Lo) (st : List Value) (G : tm_G) (I : Nat → Nat → Int32) (J : Nat → Nat → Int64) (R : Nat → Nat → Option Nat) (K : Option Value → tm_H → Prop) : tm_A d 175 662 ls (.int v :: .ref a :: st) (G, I, J, R) K ↔ ((G.2.2 a).1 = 1 ∧ tm_in v (G.2.2 a).2) ∧ tm_A d 175 663 ls (.int (I a (tm_ix v)) :: st) (G, I, J, R) K := tm_iald o175_662
set_option maxRecDepth 20000 in
theorem o175_663 : tm_op 175 663 = some (.invokevirtual 89, (2, 160, 2, 10)) := rfl
theorem r175_663 (d : Nat) (v1 : Int32) (a : Nat) (ls : tm_Lo) (st : List Value) (h : tm_H) (K : Option Value → tm_H → Prop) : tm_A (d + 1) 175 663 ls (.int v1 :: .ref a :: st) h K ↔ (h.1.2.2 a = (0, 10) ∧ tm_cs st) ∧ tm_R d 160 [.ref a, .int v1] h (fun r h' => tm_A (d + 1) 175 666 ls (r.toList ++ st) h' K) := tm_callV (as := [.int v1]) o175_663 rfl rfl rfl rfl
set_option maxRecDepth 20000 in
theorem o175_666 : tm_op 175 666 = some (.if_icmp .eq 193, (0, 0, 0, 0)) := rfl
theorem r175_666 (d : Nat) (y x : Int32) (ls : tm_Lo) (st : List Value) (h : tm_H) (K : Option Value → tm_H → Prop) : tm_A d 175 666 ls (.int y :: .int x :: st) h K ↔ if x = y then tm_A d 175 859 ls st h K else tm_A d 175 669 ls st h K := tm_b o175_666 rfl rfl rfl rfl
set_option maxRecDepth 20000 in
theorem o175_669 : tm_op 175 669 = some (.iconst 0, (0, 0, 0, 0)) := rfl
theorem r175_669 (d : Nat) (ls : tm_Lo) (st : List Value) (h : tm_H) (K : Option Value → tm_H → Prop) : tm_A d 175 669 ls st h K ↔ tm_A d 175 670 ls (.int (0 : Int32) :: st) h K := tm_ic o175_669 (by decide)
set_option maxRecDepth 20000 in
theorem o175_670 : tm_op 175 670 = some (.ireturn, (0, 0, 0, 0)) := rfl
theorem r175_670 (d : Nat) (v : Int32) (ls : tm_Lo) (h : tm_H) (K : Option Value → tm_H → Prop) : tm_A d 175 670 ls [.int v] h K ↔ (v = 0 ∨ v = 1) ∧ K (some (.int v)) h := tm_retz o175_670 rfl
set_option maxRecDepth 20000 in
theorem o175_671 : tm_op 175 671 = some (.aload_n 1, (0, 0, 0, 0)) := rfl
theorem r175_671 (d : Nat) (v : Nat) (l0 l2 l3 : Option Value) (st : List Value) (h : tm_H) (K : Option Value → tm_H → Prop) : tm_A d 175 671 [l0, some (.ref v), l2, l3] st h K ↔ tm_A d 175 672 [l0, some (.ref v), l2, l3] (.ref v :: st) h K := tm_s o175_671 rfl rfl rfl
theorem r175_671n (d : Nat)  (l0 l2 l3 : Option Value) (st : List Value) (h : tm_H) (K : Option Value → tm_H → Prop) : tm_A d 175 671 [l0, some .null, l2, l3] st h K ↔ tm_A d 175 672 [l0, some .null, l2, l3] (.null :: st) h K := tm_s o175_671 rfl rfl rfl
set_option maxRecDepth 20000 in
theorem o175_672 : tm_op 175 672 = some (.aload_n 0, (0, 0, 0, 0)) := rfl
theorem r175_672 (d : Nat) (v : Nat) (l1 l2 l3 : Option Value) (st : List Value) (h : tm_H) (K : Option Value → tm_H → Prop) : tm_A d 175 672 [some (.ref v), l1, l2, l3] st h K ↔ tm_A d 175 673 [some (.ref v), l1, l2, l3] (.ref v :: st) h K := tm_s o175_672 rfl rfl rfl
set_option maxRecDepth 20000 in
theorem o175_673 : tm_op 175 673 = some (.iload_n 3, (0, 0, 0, 0)) := rfl
theorem r175_673 (d : Nat) (v : Int32) (l0 l1 l2 : Option Value) (st : List Value) (h : tm_H) (K : Option Value → tm_H → Prop) : tm_A d 175 673 [l0, l1, l2, some (.int v)] st h K ↔ tm_A d 175 674 [l0, l1, l2, some (.int v)] (.int v :: st) h K := tm_s o175_673 rfl rfl rfl
set_option maxRecDepth 20000 in
theorem o175_674 : tm_op 175 674 = some (.iconst 1, (0, 0, 0, 0)) := rfl
theorem r175_674 (d : Nat) (ls : tm_Lo) (st : List Value) (h : tm_H) (K : Option Value → tm_H → Prop) : tm_A d 175 674 ls st h K ↔ tm_A d 175 675 ls (.int (1 : Int32) :: st) h K := tm_ic o175_674 (by decide)
set_option maxRecDepth 20000 in
theorem o175_675 : tm_op 175 675 = some (.iadd, (0, 0, 0, 0)) := rfl
theorem r175_675 (d : Nat) (u v : Int32) (ls : tm_Lo) (st : List Value) (h : tm_H) (K : Option Value → tm_H → Prop) : tm_A d 175 675 ls (.int u :: .int v :: st) h K ↔ tm_A d 175 676 ls (.int (v + u) :: st) h K := tm_s o175_675 rfl rfl rfl
set_option maxRecDepth 20000 in
theorem o175_676 : tm_op 175 676 = some (.iaload, (0, 0, 0, 0)) := rfl
theorem r175_676 (d : Nat) (v : Int32) (a : Nat) (ls : tm_Lo) (st : List Value) (G : tm_G) (I : Nat → Nat → Int32) (J : Nat → Nat → Int64) (R : Nat → Nat → Option Nat) (K : Option Value → tm_H → Prop) : tm_A d 175 676 ls (.int v :: .ref a :: st) (G, I, J, R) K ↔ ((G.2.2 a).1 = 1 ∧ tm_in v (G.2.2 a).2) ∧ tm_A d 175 677 ls (.int (I a (tm_ix v)) :: st) (G, I, J, R) K := tm_iald o175_676
set_option maxRecDepth 20000 in
theorem o175_677 : tm_op 175 677 = some (.aload_n 0, (0, 0, 0, 0)) := rfl
theorem r175_677 (d : Nat) (v : Nat) (l1 l2 l3 : Option Value) (st : List Value) (h : tm_H) (K : Option Value → tm_H → Prop) : tm_A d 175 677 [some (.ref v), l1, l2, l3] st h K ↔ tm_A d 175 678 [some (.ref v), l1, l2, l3] (.ref v :: st) h K := tm_s o175_677 rfl rfl rfl
set_option maxRecDepth 20000 in
theorem o175_678 : tm_op 175 678 = some (.iload_n 3, (0, 0, 0, 0)) := rfl
theorem r175_678 (d : Nat) (v : Int32) (l0 l1 l2 : Option Value) (st : List Value) (h : tm_H) (K : Option Value → tm_H → Prop) : tm_A d 175 678 [l0, l1, l2, some (.int v)] st h K ↔ tm_A d 175 679 [l0, l1, l2, some (.int v)] (.int v :: st) h K := tm_s o175_678 rfl rfl rfl
set_option maxRecDepth 20000 in
theorem o175_679 : tm_op 175 679 = some (.iconst 2, (0, 0, 0, 0)) := rfl
theorem r175_679 (d : Nat) (ls : tm_Lo) (st : List Value) (h : tm_H) (K : Option Value → tm_H → Prop) : tm_A d 175 679 ls st h K ↔ tm_A d 175 680 ls (.int (2 : Int32) :: st) h K := tm_ic o175_679 (by decide)
set_option maxRecDepth 20000 in
theorem o175_680 : tm_op 175 680 = some (.iadd, (0, 0, 0, 0)) := rfl
theorem r175_680 (d : Nat) (u v : Int32) (ls : tm_Lo) (st : List Value) (h : tm_H) (K : Option Value → tm_H → Prop) : tm_A d 175 680 ls (.int u :: .int v :: st) h K ↔ tm_A d 175 681 ls (.int (v + u) :: st) h K := tm_s o175_680 rfl rfl rfl
set_option maxRecDepth 20000 in
theorem o175_681 : tm_op 175 681 = some (.iaload, (0, 0, 0, 0)) := rfl
theorem r175_681 (d : Nat) (v : Int32) (a : Nat) (ls : tm_Lo) (st : List Value) (G : tm_G) (I : Nat → Nat → Int32) (J : Nat → Nat → Int64) (R : Nat → Nat → Option Nat) (K : Option Value → tm_H → Prop) : tm_A d 175 681 ls (.int v :: .ref a :: st) (G, I, J, R) K ↔ ((G.2.2 a).1 = 1 ∧ tm_in v (G.2.2 a).2) ∧ tm_A d 175 682 ls (.int (I a (tm_ix v)) :: st) (G, I, J, R) K := tm_iald o175_681
set_option maxRecDepth 20000 in
theorem o175_682 : tm_op 175 682 = some (.aload_n 0, (0, 0, 0, 0)) := rfl
theorem r175_682 (d : Nat) (v : Nat) (l1 l2 l3 : Option Value) (st : List Value) (h : tm_H) (K : Option Value → tm_H → Prop) : tm_A d 175 682 [some (.ref v), l1, l2, l3] st h K ↔ tm_A d 175 683 [some (.ref v), l1, l2, l3] (.ref v :: st) h K := tm_s o175_682 rfl rfl rfl
set_option maxRecDepth 20000 in
theorem o175_683 : tm_op 175 683 = some (.iload_n 3, (0, 0, 0, 0)) := rfl
theorem r175_683 (d : Nat) (v : Int32) (l0 l1 l2 : Option Value) (st : List Value) (h : tm_H) (K : Option Value → tm_H → Prop) : tm_A d 175 683 [l0, l1, l2, some (.int v)] st h K ↔ tm_A d 175 684 [l0, l1, l2, some (.int v)] (.int v :: st) h K := tm_s o175_683 rfl rfl rfl
set_option maxRecDepth 20000 in
theorem o175_684 : tm_op 175 684 = some (.iconst 3, (0, 0, 0, 0)) := rfl
theorem r175_684 (d : Nat) (ls : tm_Lo) (st : List Value) (h : tm_H) (K : Option Value → tm_H → Prop) : tm_A d 175 684 ls st h K ↔ tm_A d 175 685 ls (.int (3 : Int32) :: st) h K := tm_ic o175_684 (by decide)
set_option maxRecDepth 20000 in
theorem o175_685 : tm_op 175 685 = some (.iadd, (0, 0, 0, 0)) := rfl
theorem r175_685 (d : Nat) (u v : Int32) (ls : tm_Lo) (st : List Value) (h : tm_H) (K : Option Value → tm_H → Prop) : tm_A d 175 685 ls (.int u :: .int v :: st) h K ↔ tm_A d 175 686 ls (.int (v + u) :: st) h K := tm_s o175_685 rfl rfl rfl
set_option maxRecDepth 20000 in
theorem o175_686 : tm_op 175 686 = some (.iaload, (0, 0, 0, 0)) := rfl
theorem r175_686 (d : Nat) (v : Int32) (a : Nat) (ls : tm_Lo) (st : List Value) (G : tm_G) (I : Nat → Nat → Int32) (J : Nat → Nat → Int64) (R : Nat → Nat → Option Nat) (K : Option Value → tm_H → Prop) : tm_A d 175 686 ls (.int v :: .ref a :: st) (G, I, J, R) K ↔ ((G.2.2 a).1 = 1 ∧ tm_in v (G.2.2 a).2) ∧ tm_A d 175 687 ls (.int (I a (tm_ix v)) :: st) (G, I, J, R) K := tm_iald o175_686
set_option maxRecDepth 20000 in
theorem o175_687 : tm_op 175 687 = some (.invokevirtual 90, (2, 103, 4, 9)) := rfl
theorem r175_687 (d : Nat) (v1 : Int32) (v2 : Int32) (v3 : Int32) (a : Nat) (ls : tm_Lo) (st : List Value) (h : tm_H) (K : Option Value → tm_H → Prop) : tm_A (d + 1) 175 687 ls (.int v3 :: .int v2 :: .int v1 :: .ref a :: st) h K ↔ (h.1.2.2 a = (0, 9) ∧ tm_cs st) ∧ tm_R d 103 [.ref a, .int v1, .int v2, .int v3] h (fun r h' => tm_A (d + 1) 175 690 ls (r.toList ++ st) h' K) := tm_callV (as := [.int v1, .int v2, .int v3]) o175_687 rfl rfl rfl rfl
set_option maxRecDepth 20000 in
theorem o175_690 : tm_op 175 690 = some (.aload_n 2, (0, 0, 0, 0)) := rfl
theorem r175_690 (d : Nat) (v : Nat) (l0 l1 l3 : Option Value) (st : List Value) (h : tm_H) (K : Option Value → tm_H → Prop) : tm_A d 175 690 [l0, l1, some (.ref v), l3] st h K ↔ tm_A d 175 691 [l0, l1, some (.ref v), l3] (.ref v :: st) h K := tm_s o175_690 rfl rfl rfl
theorem r175_690n (d : Nat)  (l0 l1 l3 : Option Value) (st : List Value) (h : tm_H) (K : Option Value → tm_H → Prop) : tm_A d 175 690 [l0, l1, some .null, l3] st h K ↔ tm_A d 175 691 [l0, l1, some .null, l3] (.null :: st) h K := tm_s o175_690 rfl rfl rfl
set_option maxRecDepth 20000 in
theorem o175_691 : tm_op 175 691 = some (.aload_n 0, (0, 0, 0, 0)) := rfl
theorem r175_691 (d : Nat) (v : Nat) (l1 l2 l3 : Option Value) (st : List Value) (h : tm_H) (K : Option Value → tm_H → Prop) : tm_A d 175 691 [some (.ref v), l1, l2, l3] st h K ↔ tm_A d 175 692 [some (.ref v), l1, l2, l3] (.ref v :: st) h K := tm_s o175_691 rfl rfl rfl
set_option maxRecDepth 20000 in
theorem o175_692 : tm_op 175 692 = some (.iload_n 3, (0, 0, 0, 0)) := rfl
theorem r175_692 (d : Nat) (v : Int32) (l0 l1 l2 : Option Value) (st : List Value) (h : tm_H) (K : Option Value → tm_H → Prop) : tm_A d 175 692 [l0, l1, l2, some (.int v)] st h K ↔ tm_A d 175 693 [l0, l1, l2, some (.int v)] (.int v :: st) h K := tm_s o175_692 rfl rfl rfl
set_option maxRecDepth 20000 in
theorem o175_693 : tm_op 175 693 = some (.iconst 1, (0, 0, 0, 0)) := rfl
theorem r175_693 (d : Nat) (ls : tm_Lo) (st : List Value) (h : tm_H) (K : Option Value → tm_H → Prop) : tm_A d 175 693 ls st h K ↔ tm_A d 175 694 ls (.int (1 : Int32) :: st) h K := tm_ic o175_693 (by decide)
set_option maxRecDepth 20000 in
theorem o175_694 : tm_op 175 694 = some (.iadd, (0, 0, 0, 0)) := rfl
theorem r175_694 (d : Nat) (u v : Int32) (ls : tm_Lo) (st : List Value) (h : tm_H) (K : Option Value → tm_H → Prop) : tm_A d 175 694 ls (.int u :: .int v :: st) h K ↔ tm_A d 175 695 ls (.int (v + u) :: st) h K := tm_s o175_694 rfl rfl rfl
set_option maxRecDepth 20000 in
theorem o175_695 : tm_op 175 695 = some (.iaload, (0, 0, 0, 0)) := rfl
theorem r175_695 (d : Nat) (v : Int32) (a : Nat) (ls : tm_Lo) (st : List Value) (G : tm_G) (I : Nat → Nat → Int32) (J : Nat → Nat → Int64) (R : Nat → Nat → Option Nat) (K : Option Value → tm_H → Prop) : tm_A d 175 695 ls (.int v :: .ref a :: st) (G, I, J, R) K ↔ ((G.2.2 a).1 = 1 ∧ tm_in v (G.2.2 a).2) ∧ tm_A d 175 696 ls (.int (I a (tm_ix v)) :: st) (G, I, J, R) K := tm_iald o175_695
set_option maxRecDepth 20000 in
theorem o175_696 : tm_op 175 696 = some (.aload_n 0, (0, 0, 0, 0)) := rfl
theorem r175_696 (d : Nat) (v : Nat) (l1 l2 l3 : Option Value) (st : List Value) (h : tm_H) (K : Option Value → tm_H → Prop) : tm_A d 175 696 [some (.ref v), l1, l2, l3] st h K ↔ tm_A d 175 697 [some (.ref v), l1, l2, l3] (.ref v :: st) h K := tm_s o175_696 rfl rfl rfl
set_option maxRecDepth 20000 in
theorem o175_697 : tm_op 175 697 = some (.iload_n 3, (0, 0, 0, 0)) := rfl
theorem r175_697 (d : Nat) (v : Int32) (l0 l1 l2 : Option Value) (st : List Value) (h : tm_H) (K : Option Value → tm_H → Prop) : tm_A d 175 697 [l0, l1, l2, some (.int v)] st h K ↔ tm_A d 175 698 [l0, l1, l2, some (.int v)] (.int v :: st) h K := tm_s o175_697 rfl rfl rfl
set_option maxRecDepth 20000 in
theorem o175_698 : tm_op 175 698 = some (.iconst 2, (0, 0, 0, 0)) := rfl
theorem r175_698 (d : Nat) (ls : tm_Lo) (st : List Value) (h : tm_H) (K : Option Value → tm_H → Prop) : tm_A d 175 698 ls st h K ↔ tm_A d 175 699 ls (.int (2 : Int32) :: st) h K := tm_ic o175_698 (by decide)
set_option maxRecDepth 20000 in
theorem o175_699 : tm_op 175 699 = some (.iadd, (0, 0, 0, 0)) := rfl
theorem r175_699 (d : Nat) (u v : Int32) (ls : tm_Lo) (st : List Value) (h : tm_H) (K : Option Value → tm_H → Prop) : tm_A d 175 699 ls (.int u :: .int v :: st) h K ↔ tm_A d 175 700 ls (.int (v + u) :: st) h K := tm_s o175_699 rfl rfl rfl
set_option maxRecDepth 20000 in
theorem o175_700 : tm_op 175 700 = some (.iaload, (0, 0, 0, 0)) := rfl
theorem r175_700 (d : Nat) (v : Int32) (a : Nat) (ls : tm_Lo) (st : List Value) (G : tm_G) (I : Nat → Nat → Int32) (J : Nat → Nat → Int64) (R : Nat → Nat → Option Nat) (K : Option Value → tm_H → Prop) : tm_A d 175 700 ls (.int v :: .ref a :: st) (G, I, J, R) K ↔ ((G.2.2 a).1 = 1 ∧ tm_in v (G.2.2 a).2) ∧ tm_A d 175 701 ls (.int (I a (tm_ix v)) :: st) (G, I, J, R) K := tm_iald o175_700
set_option maxRecDepth 20000 in
theorem o175_701 : tm_op 175 701 = some (.aload_n 0, (0, 0, 0, 0)) := rfl
theorem r175_701 (d : Nat) (v : Nat) (l1 l2 l3 : Option Value) (st : List Value) (h : tm_H) (K : Option Value → tm_H → Prop) : tm_A d 175 701 [some (.ref v), l1, l2, l3] st h K ↔ tm_A d 175 702 [some (.ref v), l1, l2, l3] (.ref v :: st) h K := tm_s o175_701 rfl rfl rfl
set_option maxRecDepth 20000 in
theorem o175_702 : tm_op 175 702 = some (.iload_n 3, (0, 0, 0, 0)) := rfl
theorem r175_702 (d : Nat) (v : Int32) (l0 l1 l2 : Option Value) (st : List Value) (h : tm_H) (K : Option Value → tm_H → Prop) : tm_A d 175 702 [l0, l1, l2, some (.int v)] st h K ↔ tm_A d 175 703 [l0, l1, l2, some (.int v)] (.int v :: st) h K := tm_s o175_702 rfl rfl rfl
set_option maxRecDepth 20000 in
theorem o175_703 : tm_op 175 703 = some (.iconst 3, (0, 0, 0, 0)) := rfl
theorem r175_703 (d : Nat) (ls : tm_Lo) (st : List Value) (h : tm_H) (K : Option Value → tm_H → Prop) : tm_A d 175 703 ls st h K ↔ tm_A d 175 704 ls (.int (3 : Int32) :: st) h K := tm_ic o175_703 (by decide)
set_option maxRecDepth 20000 in
theorem o175_704 : tm_op 175 704 = some (.iadd, (0, 0, 0, 0)) := rfl
theorem r175_704 (d : Nat) (u v : Int32) (ls : tm_Lo) (st : List Value) (h : tm_H) (K : Option Value → tm_H → Prop) : tm_A d 175 704 ls (.int u :: .int v :: st) h K ↔ tm_A d 175 705 ls (.int (v + u) :: st) h K := tm_s o175_704 rfl rfl rfl
set_option maxRecDepth 20000 in
theorem o175_705 : tm_op 175 705 = some (.iaload, (0, 0, 0, 0)) := rfl
theorem r175_705 (d : Nat) (v : Int32) (a : Nat) (ls : tm_Lo) (st : List Value) (G : tm_G) (I : Nat → Nat → Int32) (J : Nat → Nat → Int64) (R : Nat → Nat → Option Nat) (K : Option Value → tm_H → Prop) : tm_A d 175 705 ls (.int v :: .ref a :: st) (G, I, J, R) K ↔ ((G.2.2 a).1 = 1 ∧ tm_in v (G.2.2 a).2) ∧ tm_A d 175 706 ls (.int (I a (tm_ix v)) :: st) (G, I, J, R) K := tm_iald o175_705
set_option maxRecDepth 20000 in
theorem o175_706 : tm_op 175 706 = some (.invokevirtual 93, (2, 163, 4, 10)) := rfl
theorem r175_706 (d : Nat) (v1 : Int32) (v2 : Int32) (v3 : Int32) (a : Nat) (ls : tm_Lo) (st : List Value) (h : tm_H) (K : Option Value → tm_H → Prop) : tm_A (d + 1) 175 706 ls (.int v3 :: .int v2 :: .int v1 :: .ref a :: st) h K ↔ (h.1.2.2 a = (0, 10) ∧ tm_cs st) ∧ tm_R d 163 [.ref a, .int v1, .int v2, .int v3] h (fun r h' => tm_A (d + 1) 175 709 ls (r.toList ++ st) h' K) := tm_callV (as := [.int v1, .int v2, .int v3]) o175_706 rfl rfl rfl rfl
set_option maxRecDepth 20000 in
theorem o175_709 : tm_op 175 709 = some (.if_icmp .eq 150, (0, 0, 0, 0)) := rfl
theorem r175_709 (d : Nat) (y x : Int32) (ls : tm_Lo) (st : List Value) (h : tm_H) (K : Option Value → tm_H → Prop) : tm_A d 175 709 ls (.int y :: .int x :: st) h K ↔ if x = y then tm_A d 175 859 ls st h K else tm_A d 175 712 ls st h K := tm_b o175_709 rfl rfl rfl rfl
set_option maxRecDepth 20000 in
theorem o175_712 : tm_op 175 712 = some (.iconst 0, (0, 0, 0, 0)) := rfl
theorem r175_712 (d : Nat) (ls : tm_Lo) (st : List Value) (h : tm_H) (K : Option Value → tm_H → Prop) : tm_A d 175 712 ls st h K ↔ tm_A d 175 713 ls (.int (0 : Int32) :: st) h K := tm_ic o175_712 (by decide)
set_option maxRecDepth 20000 in
theorem o175_713 : tm_op 175 713 = some (.ireturn, (0, 0, 0, 0)) := rfl
theorem r175_713 (d : Nat) (v : Int32) (ls : tm_Lo) (h : tm_H) (K : Option Value → tm_H → Prop) : tm_A d 175 713 ls [.int v] h K ↔ (v = 0 ∨ v = 1) ∧ K (some (.int v)) h := tm_retz o175_713 rfl
set_option maxRecDepth 20000 in
theorem o175_714 : tm_op 175 714 = some (.aload_n 1, (0, 0, 0, 0)) := rfl
theorem r175_714 (d : Nat) (v : Nat) (l0 l2 l3 : Option Value) (st : List Value) (h : tm_H) (K : Option Value → tm_H → Prop) : tm_A d 175 714 [l0, some (.ref v), l2, l3] st h K ↔ tm_A d 175 715 [l0, some (.ref v), l2, l3] (.ref v :: st) h K := tm_s o175_714 rfl rfl rfl
theorem r175_714n (d : Nat)  (l0 l2 l3 : Option Value) (st : List Value) (h : tm_H) (K : Option Value → tm_H → Prop) : tm_A d 175 714 [l0, some .null, l2, l3] st h K ↔ tm_A d 175 715 [l0, some .null, l2, l3] (.null :: st) h K := tm_s o175_714 rfl rfl rfl
set_option maxRecDepth 20000 in
theorem o175_715 : tm_op 175 715 = some (.aload_n 0, (0, 0, 0, 0)) := rfl
theorem r175_715 (d : Nat) (v : Nat) (l1 l2 l3 : Option Value) (st : List Value) (h : tm_H) (K : Option Value → tm_H → Prop) : tm_A d 175 715 [some (.ref v), l1, l2, l3] st h K ↔ tm_A d 175 716 [some (.ref v), l1, l2, l3] (.ref v :: st) h K := tm_s o175_715 rfl rfl rfl
set_option maxRecDepth 20000 in
theorem o175_716 : tm_op 175 716 = some (.iload_n 3, (0, 0, 0, 0)) := rfl
theorem r175_716 (d : Nat) (v : Int32) (l0 l1 l2 : Option Value) (st : List Value) (h : tm_H) (K : Option Value → tm_H → Prop) : tm_A d 175 716 [l0, l1, l2, some (.int v)] st h K ↔ tm_A d 175 717 [l0, l1, l2, some (.int v)] (.int v :: st) h K := tm_s o175_716 rfl rfl rfl
set_option maxRecDepth 20000 in
theorem o175_717 : tm_op 175 717 = some (.iconst 1, (0, 0, 0, 0)) := rfl
theorem r175_717 (d : Nat) (ls : tm_Lo) (st : List Value) (h : tm_H) (K : Option Value → tm_H → Prop) : tm_A d 175 717 ls st h K ↔ tm_A d 175 718 ls (.int (1 : Int32) :: st) h K := tm_ic o175_717 (by decide)
set_option maxRecDepth 20000 in
theorem o175_718 : tm_op 175 718 = some (.iadd, (0, 0, 0, 0)) := rfl
theorem r175_718 (d : Nat) (u v : Int32) (ls : tm_Lo) (st : List Value) (h : tm_H) (K : Option Value → tm_H → Prop) : tm_A d 175 718 ls (.int u :: .int v :: st) h K ↔ tm_A d 175 719 ls (.int (v + u) :: st) h K := tm_s o175_718 rfl rfl rfl
set_option maxRecDepth 20000 in
theorem o175_719 : tm_op 175 719 = some (.iaload, (0, 0, 0, 0)) := rfl
theorem r175_719 (d : Nat) (v : Int32) (a : Nat) (ls : tm_Lo) (st : List Value) (G : tm_G) (I : Nat → Nat → Int32) (J : Nat → Nat → Int64) (R : Nat → Nat → Option Nat) (K : Option Value → tm_H → Prop) : tm_A d 175 719 ls (.int v :: .ref a :: st) (G, I, J, R) K ↔ ((G.2.2 a).1 = 1 ∧ tm_in v (G.2.2 a).2) ∧ tm_A d 175 720 ls (.int (I a (tm_ix v)) :: st) (G, I, J, R) K := tm_iald o175_719
set_option maxRecDepth 20000 in
theorem o175_720 : tm_op 175 720 = some (.aload_n 0, (0, 0, 0, 0)) := rfl
theorem r175_720 (d : Nat) (v : Nat) (l1 l2 l3 : Option Value) (st : List Value) (h : tm_H) (K : Option Value → tm_H → Prop) : tm_A d 175 720 [some (.ref v), l1, l2, l3] st h K ↔ tm_A d 175 721 [some (.ref v), l1, l2, l3] (.ref v :: st) h K := tm_s o175_720 rfl rfl rfl
set_option maxRecDepth 20000 in
theorem o175_721 : tm_op 175 721 = some (.iload_n 3, (0, 0, 0, 0)) := rfl
theorem r175_721 (d : Nat) (v : Int32) (l0 l1 l2 : Option Value) (st : List Value) (h : tm_H) (K : Option Value → tm_H → Prop) : tm_A d 175 721 [l0, l1, l2, some (.int v)] st h K ↔ tm_A d 175 722 [l0, l1, l2, some (.int v)] (.int v :: st) h K := tm_s o175_721 rfl rfl rfl
set_option maxRecDepth 20000 in
theorem o175_722 : tm_op 175 722 = some (.iconst 2, (0, 0, 0, 0)) := rfl
theorem r175_722 (d : Nat) (ls : tm_Lo) (st : List Value) (h : tm_H) (K : Option Value → tm_H → Prop) : tm_A d 175 722 ls st h K ↔ tm_A d 175 723 ls (.int (2 : Int32) :: st) h K := tm_ic o175_722 (by decide)
set_option maxRecDepth 20000 in
theorem o175_723 : tm_op 175 723 = some (.iadd, (0, 0, 0, 0)) := rfl
theorem r175_723 (d : Nat) (u v : Int32) (ls : tm_Lo) (st : List Value) (h : tm_H) (K : Option Value → tm_H → Prop) : tm_A d 175 723 ls (.int u :: .int v :: st) h K ↔ tm_A d 175 724 ls (.int (v + u) :: st) h K := tm_s o175_723 rfl rfl rfl
set_option maxRecDepth 20000 in
theorem o175_724 : tm_op 175 724 = some (.iaload, (0, 0, 0, 0)) := rfl
theorem r175_724 (d : Nat) (v : Int32) (a : Nat) (ls : tm_Lo) (st : List Value) (G : tm_G) (I : Nat → Nat → Int32) (J : Nat → Nat → Int64) (R : Nat → Nat → Option Nat) (K : Option Value → tm_H → Prop) : tm_A d 175 724 ls (.int v :: .ref a :: st) (G, I, J, R) K ↔ ((G.2.2 a).1 = 1 ∧ tm_in v (G.2.2 a).2) ∧ tm_A d 175 725 ls (.int (I a (tm_ix v)) :: st) (G, I, J, R) K := tm_iald o175_724
set_option maxRecDepth 20000 in
theorem o175_725 : tm_op 175 725 = some (.invokevirtual 94, (2, 104, 3, 9)) := rfl
theorem r175_725 (d : Nat) (v1 : Int32) (v2 : Int32) (a : Nat) (ls : tm_Lo) (st : List Value) (h : tm_H) (K : Option Value → tm_H → Prop) : tm_A (d + 1) 175 725 ls (.int v2 :: .int v1 :: .ref a :: st) h K ↔ (h.1.2.2 a = (0, 9) ∧ tm_cs st) ∧ tm_R d 104 [.ref a, .int v1, .int v2] h (fun r h' => tm_A (d + 1) 175 728 ls (r.toList ++ st) h' K) := tm_callV (as := [.int v1, .int v2]) o175_725 rfl rfl rfl rfl
set_option maxRecDepth 20000 in
theorem o175_728 : tm_op 175 728 = some (.aload_n 2, (0, 0, 0, 0)) := rfl
theorem r175_728 (d : Nat) (v : Nat) (l0 l1 l3 : Option Value) (st : List Value) (h : tm_H) (K : Option Value → tm_H → Prop) : tm_A d 175 728 [l0, l1, some (.ref v), l3] st h K ↔ tm_A d 175 729 [l0, l1, some (.ref v), l3] (.ref v :: st) h K := tm_s o175_728 rfl rfl rfl
theorem r175_728n (d : Nat)  (l0 l1 l3 : Option Value) (st : List Value) (h : tm_H) (K : Option Value → tm_H → Prop) : tm_A d 175 728 [l0, l1, some .null, l3] st h K ↔ tm_A d 175 729 [l0, l1, some .null, l3] (.null :: st) h K := tm_s o175_728 rfl rfl rfl
set_option maxRecDepth 20000 in
theorem o175_729 : tm_op 175 729 = some (.aload_n 0, (0, 0, 0, 0)) := rfl
theorem r175_729 (d : Nat) (v : Nat) (l1 l2 l3 : Option Value) (st : List Value) (h : tm_H) (K : Option Value → tm_H → Prop) : tm_A d 175 729 [some (.ref v), l1, l2, l3] st h K ↔ tm_A d 175 730 [some (.ref v), l1, l2, l3] (.ref v :: st) h K := tm_s o175_729 rfl rfl rfl
set_option maxRecDepth 20000 in
theorem o175_730 : tm_op 175 730 = some (.iload_n 3, (0, 0, 0, 0)) := rfl
theorem r175_730 (d : Nat) (v : Int32) (l0 l1 l2 : Option Value) (st : List Value) (h : tm_H) (K : Option Value → tm_H → Prop) : tm_A d 175 730 [l0, l1, l2, some (.int v)] st h K ↔ tm_A d 175 731 [l0, l1, l2, some (.int v)] (.int v :: st) h K := tm_s o175_730 rfl rfl rfl
set_option maxRecDepth 20000 in
theorem o175_731 : tm_op 175 731 = some (.iconst 1, (0, 0, 0, 0)) := rfl
theorem r175_731 (d : Nat) (ls : tm_Lo) (st : List Value) (h : tm_H) (K : Option Value → tm_H → Prop) : tm_A d 175 731 ls st h K ↔ tm_A d 175 732 ls (.int (1 : Int32) :: st) h K := tm_ic o175_731 (by decide)
set_option maxRecDepth 20000 in
theorem o175_732 : tm_op 175 732 = some (.iadd, (0, 0, 0, 0)) := rfl
theorem r175_732 (d : Nat) (u v : Int32) (ls : tm_Lo) (st : List Value) (h : tm_H) (K : Option Value → tm_H → Prop) : tm_A d 175 732 ls (.int u :: .int v :: st) h K ↔ tm_A d 175 733 ls (.int (v + u) :: st) h K := tm_s o175_732 rfl rfl rfl
set_option maxRecDepth 20000 in
theorem o175_733 : tm_op 175 733 = some (.iaload, (0, 0, 0, 0)) := rfl
theorem r175_733 (d : Nat) (v : Int32) (a : Nat) (ls : tm_Lo) (st : List Value) (G : tm_G) (I : Nat → Nat → Int32) (J : Nat → Nat → Int64) (R : Nat → Nat → Option Nat) (K : Option Value → tm_H → Prop) : tm_A d 175 733 ls (.int v :: .ref a :: st) (G, I, J, R) K ↔ ((G.2.2 a).1 = 1 ∧ tm_in v (G.2.2 a).2) ∧ tm_A d 175 734 ls (.int (I a (tm_ix v)) :: st) (G, I, J, R) K := tm_iald o175_733
set_option maxRecDepth 20000 in
theorem o175_734 : tm_op 175 734 = some (.aload_n 0, (0, 0, 0, 0)) := rfl
theorem r175_734 (d : Nat) (v : Nat) (l1 l2 l3 : Option Value) (st : List Value) (h : tm_H) (K : Option Value → tm_H → Prop) : tm_A d 175 734 [some (.ref v), l1, l2, l3] st h K ↔ tm_A d 175 735 [some (.ref v), l1, l2, l3] (.ref v :: st) h K := tm_s o175_734 rfl rfl rfl
set_option maxRecDepth 20000 in
theorem o175_735 : tm_op 175 735 = some (.iload_n 3, (0, 0, 0, 0)) := rfl
theorem r175_735 (d : Nat) (v : Int32) (l0 l1 l2 : Option Value) (st : List Value) (h : tm_H) (K : Option Value → tm_H → Prop) : tm_A d 175 735 [l0, l1, l2, some (.int v)] st h K ↔ tm_A d 175 736 [l0, l1, l2, some (.int v)] (.int v :: st) h K := tm_s o175_735 rfl rfl rfl
set_option maxRecDepth 20000 in
theorem o175_736 : tm_op 175 736 = some (.iconst 2, (0, 0, 0, 0)) := rfl
theorem r175_736 (d : Nat) (ls : tm_Lo) (st : List Value) (h : tm_H) (K : Option Value → tm_H → Prop) : tm_A d 175 736 ls st h K ↔ tm_A d 175 737 ls (.int (2 : Int32) :: st) h K := tm_ic o175_736 (by decide)
set_option maxRecDepth 20000 in
theorem o175_737 : tm_op 175 737 = some (.iadd, (0, 0, 0, 0)) := rfl
theorem r175_737 (d : Nat) (u v : Int32) (ls : tm_Lo) (st : List Value) (h : tm_H) (K : Option Value → tm_H → Prop) : tm_A d 175 737 ls (.int u :: .int v :: st) h K ↔ tm_A d 175 738 ls (.int (v + u) :: st) h K := tm_s o175_737 rfl rfl rfl
set_option maxRecDepth 20000 in
theorem o175_738 : tm_op 175 738 = some (.iaload, (0, 0, 0, 0)) := rfl
theorem r175_738 (d : Nat) (v : Int32) (a : Nat) (ls : tm_Lo) (st : List Value) (G : tm_G) (I : Nat → Nat → Int32) (J : Nat → Nat → Int64) (R : Nat → Nat → Option Nat) (K : Option Value → tm_H → Prop) : tm_A d 175 738 ls (.int v :: .ref a :: st) (G, I, J, R) K ↔ ((G.2.2 a).1 = 1 ∧ tm_in v (G.2.2 a).2) ∧ tm_A d 175 739 ls (.int (I a (tm_ix v)) :: st) (G, I, J, R) K := tm_iald o175_738
set_option maxRecDepth 20000 in
theorem o175_739 : tm_op 175 739 = some (.invokevirtual 97, (2, 164, 3, 10)) := rfl
theorem r175_739 (d : Nat) (v1 : Int32) (v2 : Int32) (a : Nat) (ls : tm_Lo) (st : List Value) (h : tm_H) (K : Option Value → tm_H → Prop) : tm_A (d + 1) 175 739 ls (.int v2 :: .int v1 :: .ref a :: st) h K ↔ (h.1.2.2 a = (0, 10) ∧ tm_cs st) ∧ tm_R d 164 [.ref a, .int v1, .int v2] h (fun r h' => tm_A (d + 1) 175 742 ls (r.toList ++ st) h' K) := tm_callV (as := [.int v1, .int v2]) o175_739 rfl rfl rfl rfl
set_option maxRecDepth 20000 in
theorem o175_742 : tm_op 175 742 = some (.if_icmp .eq 117, (0, 0, 0, 0)) := rfl
theorem r175_742 (d : Nat) (y x : Int32) (ls : tm_Lo) (st : List Value) (h : tm_H) (K : Option Value → tm_H → Prop) : tm_A d 175 742 ls (.int y :: .int x :: st) h K ↔ if x = y then tm_A d 175 859 ls st h K else tm_A d 175 745 ls st h K := tm_b o175_742 rfl rfl rfl rfl
set_option maxRecDepth 20000 in
theorem o175_745 : tm_op 175 745 = some (.iconst 0, (0, 0, 0, 0)) := rfl
theorem r175_745 (d : Nat) (ls : tm_Lo) (st : List Value) (h : tm_H) (K : Option Value → tm_H → Prop) : tm_A d 175 745 ls st h K ↔ tm_A d 175 746 ls (.int (0 : Int32) :: st) h K := tm_ic o175_745 (by decide)
set_option maxRecDepth 20000 in
theorem o175_746 : tm_op 175 746 = some (.ireturn, (0, 0, 0, 0)) := rfl
theorem r175_746 (d : Nat) (v : Int32) (ls : tm_Lo) (h : tm_H) (K : Option Value → tm_H → Prop) : tm_A d 175 746 ls [.int v] h K ↔ (v = 0 ∨ v = 1) ∧ K (some (.int v)) h := tm_retz o175_746 rfl
set_option maxRecDepth 20000 in
theorem o175_747 : tm_op 175 747 = some (.aload_n 1, (0, 0, 0, 0)) := rfl
theorem r175_747 (d : Nat) (v : Nat) (l0 l2 l3 : Option Value) (st : List Value) (h : tm_H) (K : Option Value → tm_H → Prop) : tm_A d 175 747 [l0, some (.ref v), l2, l3] st h K ↔ tm_A d 175 748 [l0, some (.ref v), l2, l3] (.ref v :: st) h K := tm_s o175_747 rfl rfl rfl
theorem r175_747n (d : Nat)  (l0 l2 l3 : Option Value) (st : List Value) (h : tm_H) (K : Option Value → tm_H → Prop) : tm_A d 175 747 [l0, some .null, l2, l3] st h K ↔ tm_A d 175 748 [l0, some .null, l2, l3] (.null :: st) h K := tm_s o175_747 rfl rfl rfl
set_option maxRecDepth 20000 in
theorem o175_748 : tm_op 175 748 = some (.aload_n 0, (0, 0, 0, 0)) := rfl
theorem r175_748 (d : Nat) (v : Nat) (l1 l2 l3 : Option Value) (st : List Value) (h : tm_H) (K : Option Value → tm_H → Prop) : tm_A d 175 748 [some (.ref v), l1, l2, l3] st h K ↔ tm_A d 175 749 [some (.ref v), l1, l2, l3] (.ref v :: st) h K := tm_s o175_748 rfl rfl rfl
set_option maxRecDepth 20000 in
theorem o175_749 : tm_op 175 749 = some (.iload_n 3, (0, 0, 0, 0)) := rfl
theorem r175_749 (d : Nat) (v : Int32) (l0 l1 l2 : Option Value) (st : List Value) (h : tm_H) (K : Option Value → tm_H → Prop) : tm_A d 175 749 [l0, l1, l2, some (.int v)] st h K ↔ tm_A d 175 750 [l0, l1, l2, some (.int v)] (.int v :: st) h K := tm_s o175_749 rfl rfl rfl
set_option maxRecDepth 20000 in
theorem o175_750 : tm_op 175 750 = some (.iconst 1, (0, 0, 0, 0)) := rfl
theorem r175_750 (d : Nat) (ls : tm_Lo) (st : List Value) (h : tm_H) (K : Option Value → tm_H → Prop) : tm_A d 175 750 ls st h K ↔ tm_A d 175 751 ls (.int (1 : Int32) :: st) h K := tm_ic o175_750 (by decide)
set_option maxRecDepth 20000 in
theorem o175_751 : tm_op 175 751 = some (.iadd, (0, 0, 0, 0)) := rfl
theorem r175_751 (d : Nat) (u v : Int32) (ls : tm_Lo) (st : List Value) (h : tm_H) (K : Option Value → tm_H → Prop) : tm_A d 175 751 ls (.int u :: .int v :: st) h K ↔ tm_A d 175 752 ls (.int (v + u) :: st) h K := tm_s o175_751 rfl rfl rfl
set_option maxRecDepth 20000 in
theorem o175_752 : tm_op 175 752 = some (.iaload, (0, 0, 0, 0)) := rfl
theorem r175_752 (d : Nat) (v : Int32) (a : Nat) (ls : tm_Lo) (st : List Value) (G : tm_G) (I : Nat → Nat → Int32) (J : Nat → Nat → Int64) (R : Nat → Nat → Option Nat) (K : Option Value → tm_H → Prop) : tm_A d 175 752 ls (.int v :: .ref a :: st) (G, I, J, R) K ↔ ((G.2.2 a).1 = 1 ∧ tm_in v (G.2.2 a).2) ∧ tm_A d 175 753 ls (.int (I a (tm_ix v)) :: st) (G, I, J, R) K := tm_iald o175_752
set_option maxRecDepth 20000 in
theorem o175_753 : tm_op 175 753 = some (.aload_n 0, (0, 0, 0, 0)) := rfl
theorem r175_753 (d : Nat) (v : Nat) (l1 l2 l3 : Option Value) (st : List Value) (h : tm_H) (K : Option Value → tm_H → Prop) : tm_A d 175 753 [some (.ref v), l1, l2, l3] st h K ↔ tm_A d 175 754 [some (.ref v), l1, l2, l3] (.ref v :: st) h K := tm_s o175_753 rfl rfl rfl
set_option maxRecDepth 20000 in
theorem o175_754 : tm_op 175 754 = some (.iload_n 3, (0, 0, 0, 0)) := rfl
theorem r175_754 (d : Nat) (v : Int32) (l0 l1 l2 : Option Value) (st : List Value) (h : tm_H) (K : Option Value → tm_H → Prop) : tm_A d 175 754 [l0, l1, l2, some (.int v)] st h K ↔ tm_A d 175 755 [l0, l1, l2, some (.int v)] (.int v :: st) h K := tm_s o175_754 rfl rfl rfl
set_option maxRecDepth 20000 in
theorem o175_755 : tm_op 175 755 = some (.iconst 2, (0, 0, 0, 0)) := rfl
theorem r175_755 (d : Nat) (ls : tm_Lo) (st : List Value) (h : tm_H) (K : Option Value → tm_H → Prop) : tm_A d 175 755 ls st h K ↔ tm_A d 175 756 ls (.int (2 : Int32) :: st) h K := tm_ic o175_755 (by decide)
set_option maxRecDepth 20000 in
theorem o175_756 : tm_op 175 756 = some (.iadd, (0, 0, 0, 0)) := rfl
theorem r175_756 (d : Nat) (u v : Int32) (ls : tm_Lo) (st : List Value) (h : tm_H) (K : Option Value → tm_H → Prop) : tm_A d 175 756 ls (.int u :: .int v :: st) h K ↔ tm_A d 175 757 ls (.int (v + u) :: st) h K := tm_s o175_756 rfl rfl rfl
set_option maxRecDepth 20000 in
theorem o175_757 : tm_op 175 757 = some (.iaload, (0, 0, 0, 0)) := rfl
theorem r175_757 (d : Nat) (v : Int32) (a : Nat) (ls : tm_Lo) (st : List Value) (G : tm_G) (I : Nat → Nat → Int32) (J : Nat → Nat → Int64) (R : Nat → Nat → Option Nat) (K : Option Value → tm_H → Prop) : tm_A d 175 757 ls (.int v :: .ref a :: st) (G, I, J, R) K ↔ ((G.2.2 a).1 = 1 ∧ tm_in v (G.2.2 a).2) ∧ tm_A d 175 758 ls (.int (I a (tm_ix v)) :: st) (G, I, J, R) K := tm_iald o175_757
set_option maxRecDepth 20000 in
theorem o175_758 : tm_op 175 758 = some (.invokevirtual 98, (2, 105, 3, 9)) := rfl
theorem r175_758 (d : Nat) (v1 : Int32) (v2 : Int32) (a : Nat) (ls : tm_Lo) (st : List Value) (h : tm_H) (K : Option Value → tm_H → Prop) : tm_A (d + 1) 175 758 ls (.int v2 :: .int v1 :: .ref a :: st) h K ↔ (h.1.2.2 a = (0, 9) ∧ tm_cs st) ∧ tm_R d 105 [.ref a, .int v1, .int v2] h (fun r h' => tm_A (d + 1) 175 761 ls (r.toList ++ st) h' K) := tm_callV (as := [.int v1, .int v2]) o175_758 rfl rfl rfl rfl
set_option maxRecDepth 20000 in
theorem o175_761 : tm_op 175 761 = some (.aload_n 2, (0, 0, 0, 0)) := rfl
theorem r175_761 (d : Nat) (v : Nat) (l0 l1 l3 : Option Value) (st : List Value) (h : tm_H) (K : Option Value → tm_H → Prop) : tm_A d 175 761 [l0, l1, some (.ref v), l3] st h K ↔ tm_A d 175 762 [l0, l1, some (.ref v), l3] (.ref v :: st) h K := tm_s o175_761 rfl rfl rfl
theorem r175_761n (d : Nat)  (l0 l1 l3 : Option Value) (st : List Value) (h : tm_H) (K : Option Value → tm_H → Prop) : tm_A d 175 761 [l0, l1, some .null, l3] st h K ↔ tm_A d 175 762 [l0, l1, some .null, l3] (.null :: st) h K := tm_s o175_761 rfl rfl rfl
set_option maxRecDepth 20000 in
theorem o175_762 : tm_op 175 762 = some (.aload_n 0, (0, 0, 0, 0)) := rfl
theorem r175_762 (d : Nat) (v : Nat) (l1 l2 l3 : Option Value) (st : List Value) (h : tm_H) (K : Option Value → tm_H → Prop) : tm_A d 175 762 [some (.ref v), l1, l2, l3] st h K ↔ tm_A d 175 763 [some (.ref v), l1, l2, l3] (.ref v :: st) h K := tm_s o175_762 rfl rfl rfl
set_option maxRecDepth 20000 in
theorem o175_763 : tm_op 175 763 = some (.iload_n 3, (0, 0, 0, 0)) := rfl
theorem r175_763 (d : Nat) (v : Int32) (l0 l1 l2 : Option Value) (st : List Value) (h : tm_H) (K : Option Value → tm_H → Prop) : tm_A d 175 763 [l0, l1, l2, some (.int v)] st h K ↔ tm_A d 175 764 [l0, l1, l2, some (.int v)] (.int v :: st) h K := tm_s o175_763 rfl rfl rfl
set_option maxRecDepth 20000 in
theorem o175_764 : tm_op 175 764 = some (.iconst 1, (0, 0, 0, 0)) := rfl
theorem r175_764 (d : Nat) (ls : tm_Lo) (st : List Value) (h : tm_H) (K : Option Value → tm_H → Prop) : tm_A d 175 764 ls st h K ↔ tm_A d 175 765 ls (.int (1 : Int32) :: st) h K := tm_ic o175_764 (by decide)
set_option maxRecDepth 20000 in
theorem o175_765 : tm_op 175 765 = some (.iadd, (0, 0, 0, 0)) := rfl
theorem r175_765 (d : Nat) (u v : Int32) (ls : tm_Lo) (st : List Value) (h : tm_H) (K : Option Value → tm_H → Prop) : tm_A d 175 765 ls (.int u :: .int v :: st) h K ↔ tm_A d 175 766 ls (.int (v + u) :: st) h K := tm_s o175_765 rfl rfl rfl
set_option maxRecDepth 20000 in
theorem o175_766 : tm_op 175 766 = some (.iaload, (0, 0, 0, 0)) := rfl
theorem r175_766 (d : Nat) (v : Int32) (a : Nat) (ls : tm_Lo) (st : List Value) (G : tm_G) (I : Nat → Nat → Int32) (J : Nat → Nat → Int64) (R : Nat → Nat → Option Nat) (K : Option Value → tm_H → Prop) : tm_A d 175 766 ls (.int v :: .ref a :: st) (G, I, J, R) K ↔ ((G.2.2 a).1 = 1 ∧ tm_in v (G.2.2 a).2) ∧ tm_A d 175 767 ls (.int (I a (tm_ix v)) :: st) (G, I, J, R) K := tm_iald o175_766
set_option maxRecDepth 20000 in
theorem o175_767 : tm_op 175 767 = some (.aload_n 0, (0, 0, 0, 0)) := rfl
theorem r175_767 (d : Nat) (v : Nat) (l1 l2 l3 : Option Value) (st : List Value) (h : tm_H) (K : Option Value → tm_H → Prop) : tm_A d 175 767 [some (.ref v), l1, l2, l3] st h K ↔ tm_A d 175 768 [some (.ref v), l1, l2, l3] (.ref v :: st) h K := tm_s o175_767 rfl rfl rfl
set_option maxRecDepth 20000 in
theorem o175_768 : tm_op 175 768 = some (.iload_n 3, (0, 0, 0, 0)) := rfl
theorem r175_768 (d : Nat) (v : Int32) (l0 l1 l2 : Option Value) (st : List Value) (h : tm_H) (K : Option Value → tm_H → Prop) : tm_A d 175 768 [l0, l1, l2, some (.int v)] st h K ↔ tm_A d 175 769 [l0, l1, l2, some (.int v)] (.int v :: st) h K := tm_s o175_768 rfl rfl rfl
set_option maxRecDepth 20000 in
theorem o175_769 : tm_op 175 769 = some (.iconst 2, (0, 0, 0, 0)) := rfl
theorem r175_769 (d : Nat) (ls : tm_Lo) (st : List Value) (h : tm_H) (K : Option Value → tm_H → Prop) : tm_A d 175 769 ls st h K ↔ tm_A d 175 770 ls (.int (2 : Int32) :: st) h K := tm_ic o175_769 (by decide)
set_option maxRecDepth 20000 in
theorem o175_770 : tm_op 175 770 = some (.iadd, (0, 0, 0, 0)) := rfl
theorem r175_770 (d : Nat) (u v : Int32) (ls : tm_Lo) (st : List Value) (h : tm_H) (K : Option Value → tm_H → Prop) : tm_A d 175 770 ls (.int u :: .int v :: st) h K ↔ tm_A d 175 771 ls (.int (v + u) :: st) h K := tm_s o175_770 rfl rfl rfl
set_option maxRecDepth 20000 in
theorem o175_771 : tm_op 175 771 = some (.iaload, (0, 0, 0, 0)) := rfl
theorem r175_771 (d : Nat) (v : Int32) (a : Nat) (ls : tm_Lo) (st : List Value) (G : tm_G) (I : Nat → Nat → Int32) (J : Nat → Nat → Int64) (R : Nat → Nat → Option Nat) (K : Option Value → tm_H → Prop) : tm_A d 175 771 ls (.int v :: .ref a :: st) (G, I, J, R) K ↔ ((G.2.2 a).1 = 1 ∧ tm_in v (G.2.2 a).2) ∧ tm_A d 175 772 ls (.int (I a (tm_ix v)) :: st) (G, I, J, R) K := tm_iald o175_771
set_option maxRecDepth 20000 in
theorem o175_772 : tm_op 175 772 = some (.invokevirtual 101, (2, 166, 3, 10)) := rfl
theorem r175_772 (d : Nat) (v1 : Int32) (v2 : Int32) (a : Nat) (ls : tm_Lo) (st : List Value) (h : tm_H) (K : Option Value → tm_H → Prop) : tm_A (d + 1) 175 772 ls (.int v2 :: .int v1 :: .ref a :: st) h K ↔ (h.1.2.2 a = (0, 10) ∧ tm_cs st) ∧ tm_R d 166 [.ref a, .int v1, .int v2] h (fun r h' => tm_A (d + 1) 175 775 ls (r.toList ++ st) h' K) := tm_callV (as := [.int v1, .int v2]) o175_772 rfl rfl rfl rfl
set_option maxRecDepth 20000 in
theorem o175_775 : tm_op 175 775 = some (.if_icmp .eq 84, (0, 0, 0, 0)) := rfl
theorem r175_775 (d : Nat) (y x : Int32) (ls : tm_Lo) (st : List Value) (h : tm_H) (K : Option Value → tm_H → Prop) : tm_A d 175 775 ls (.int y :: .int x :: st) h K ↔ if x = y then tm_A d 175 859 ls st h K else tm_A d 175 778 ls st h K := tm_b o175_775 rfl rfl rfl rfl
set_option maxRecDepth 20000 in
theorem o175_778 : tm_op 175 778 = some (.iconst 0, (0, 0, 0, 0)) := rfl
theorem r175_778 (d : Nat) (ls : tm_Lo) (st : List Value) (h : tm_H) (K : Option Value → tm_H → Prop) : tm_A d 175 778 ls st h K ↔ tm_A d 175 779 ls (.int (0 : Int32) :: st) h K := tm_ic o175_778 (by decide)
set_option maxRecDepth 20000 in
theorem o175_779 : tm_op 175 779 = some (.ireturn, (0, 0, 0, 0)) := rfl
theorem r175_779 (d : Nat) (v : Int32) (ls : tm_Lo) (h : tm_H) (K : Option Value → tm_H → Prop) : tm_A d 175 779 ls [.int v] h K ↔ (v = 0 ∨ v = 1) ∧ K (some (.int v)) h := tm_retz o175_779 rfl
set_option maxRecDepth 20000 in
theorem o175_780 : tm_op 175 780 = some (.aload_n 1, (0, 0, 0, 0)) := rfl
theorem r175_780 (d : Nat) (v : Nat) (l0 l2 l3 : Option Value) (st : List Value) (h : tm_H) (K : Option Value → tm_H → Prop) : tm_A d 175 780 [l0, some (.ref v), l2, l3] st h K ↔ tm_A d 175 781 [l0, some (.ref v), l2, l3] (.ref v :: st) h K := tm_s o175_780 rfl rfl rfl
theorem r175_780n (d : Nat)  (l0 l2 l3 : Option Value) (st : List Value) (h : tm_H) (K : Option Value → tm_H → Prop) : tm_A d 175 780 [l0, some .null, l2, l3] st h K ↔ tm_A d 175 781 [l0, some .null, l2, l3] (.null :: st) h K := tm_s o175_780 rfl rfl rfl
set_option maxRecDepth 20000 in
theorem o175_781 : tm_op 175 781 = some (.aload_n 0, (0, 0, 0, 0)) := rfl
theorem r175_781 (d : Nat) (v : Nat) (l1 l2 l3 : Option Value) (st : List Value) (h : tm_H) (K : Option Value → tm_H → Prop) : tm_A d 175 781 [some (.ref v), l1, l2, l3] st h K ↔ tm_A d 175 782 [some (.ref v), l1, l2, l3] (.ref v :: st) h K := tm_s o175_781 rfl rfl rfl
set_option maxRecDepth 20000 in
theorem o175_782 : tm_op 175 782 = some (.iload_n 3, (0, 0, 0, 0)) := rfl
theorem r175_782 (d : Nat) (v : Int32) (l0 l1 l2 : Option Value) (st : List Value) (h : tm_H) (K : Option Value → tm_H → Prop) : tm_A d 175 782 [l0, l1, l2, some (.int v)] st h K ↔ tm_A d 175 783 [l0, l1, l2, some (.int v)] (.int v :: st) h K := tm_s o175_782 rfl rfl rfl
set_option maxRecDepth 20000 in
theorem o175_783 : tm_op 175 783 = some (.iconst 1, (0, 0, 0, 0)) := rfl
theorem r175_783 (d : Nat) (ls : tm_Lo) (st : List Value) (h : tm_H) (K : Option Value → tm_H → Prop) : tm_A d 175 783 ls st h K ↔ tm_A d 175 784 ls (.int (1 : Int32) :: st) h K := tm_ic o175_783 (by decide)
set_option maxRecDepth 20000 in
theorem o175_784 : tm_op 175 784 = some (.iadd, (0, 0, 0, 0)) := rfl
theorem r175_784 (d : Nat) (u v : Int32) (ls : tm_Lo) (st : List Value) (h : tm_H) (K : Option Value → tm_H → Prop) : tm_A d 175 784 ls (.int u :: .int v :: st) h K ↔ tm_A d 175 785 ls (.int (v + u) :: st) h K := tm_s o175_784 rfl rfl rfl
set_option maxRecDepth 20000 in
theorem o175_785 : tm_op 175 785 = some (.iaload, (0, 0, 0, 0)) := rfl
theorem r175_785 (d : Nat) (v : Int32) (a : Nat) (ls : tm_Lo) (st : List Value) (G : tm_G) (I : Nat → Nat → Int32) (J : Nat → Nat → Int64) (R : Nat → Nat → Option Nat) (K : Option Value → tm_H → Prop) : tm_A d 175 785 ls (.int v :: .ref a :: st) (G, I, J, R) K ↔ ((G.2.2 a).1 = 1 ∧ tm_in v (G.2.2 a).2) ∧ tm_A d 175 786 ls (.int (I a (tm_ix v)) :: st) (G, I, J, R) K := tm_iald o175_785
set_option maxRecDepth 20000 in
theorem o175_786 : tm_op 175 786 = some (.aload_n 0, (0, 0, 0, 0)) := rfl
theorem r175_786 (d : Nat) (v : Nat) (l1 l2 l3 : Option Value) (st : List Value) (h : tm_H) (K : Option Value → tm_H → Prop) : tm_A d 175 786 [some (.ref v), l1, l2, l3] st h K ↔ tm_A d 175 787 [some (.ref v), l1, l2, l3] (.ref v :: st) h K := tm_s o175_786 rfl rfl rfl
set_option maxRecDepth 20000 in
theorem o175_787 : tm_op 175 787 = some (.iload_n 3, (0, 0, 0, 0)) := rfl
theorem r175_787 (d : Nat) (v : Int32) (l0 l1 l2 : Option Value) (st : List Value) (h : tm_H) (K : Option Value → tm_H → Prop) : tm_A d 175 787 [l0, l1, l2, some (.int v)] st h K ↔ tm_A d 175 788 [l0, l1, l2, some (.int v)] (.int v :: st) h K := tm_s o175_787 rfl rfl rfl
set_option maxRecDepth 20000 in
theorem o175_788 : tm_op 175 788 = some (.iconst 2, (0, 0, 0, 0)) := rfl
theorem r175_788 (d : Nat) (ls : tm_Lo) (st : List Value) (h : tm_H) (K : Option Value → tm_H → Prop) : tm_A d 175 788 ls st h K ↔ tm_A d 175 789 ls (.int (2 : Int32) :: st) h K := tm_ic o175_788 (by decide)
set_option maxRecDepth 20000 in
theorem o175_789 : tm_op 175 789 = some (.iadd, (0, 0, 0, 0)) := rfl
theorem r175_789 (d : Nat) (u v : Int32) (ls : tm_Lo) (st : List Value) (h : tm_H) (K : Option Value → tm_H → Prop) : tm_A d 175 789 ls (.int u :: .int v :: st) h K ↔ tm_A d 175 790 ls (.int (v + u) :: st) h K := tm_s o175_789 rfl rfl rfl
set_option maxRecDepth 20000 in
theorem o175_790 : tm_op 175 790 = some (.iaload, (0, 0, 0, 0)) := rfl
theorem r175_790 (d : Nat) (v : Int32) (a : Nat) (ls : tm_Lo) (st : List Value) (G : tm_G) (I : Nat → Nat → Int32) (J : Nat → Nat → Int64) (R : Nat → Nat → Option Nat) (K : Option Value → tm_H → Prop) : tm_A d 175 790 ls (.int v :: .ref a :: st) (G, I, J, R) K ↔ ((G.2.2 a).1 = 1 ∧ tm_in v (G.2.2 a).2) ∧ tm_A d 175 791 ls (.int (I a (tm_ix v)) :: st) (G, I, J, R) K := tm_iald o175_790
set_option maxRecDepth 20000 in
theorem o175_791 : tm_op 175 791 = some (.invokevirtual 102, (2, 106, 3, 9)) := rfl
theorem r175_791 (d : Nat) (v1 : Int32) (v2 : Int32) (a : Nat) (ls : tm_Lo) (st : List Value) (h : tm_H) (K : Option Value → tm_H → Prop) : tm_A (d + 1) 175 791 ls (.int v2 :: .int v1 :: .ref a :: st) h K ↔ (h.1.2.2 a = (0, 9) ∧ tm_cs st) ∧ tm_R d 106 [.ref a, .int v1, .int v2] h (fun r h' => tm_A (d + 1) 175 794 ls (r.toList ++ st) h' K) := tm_callV (as := [.int v1, .int v2]) o175_791 rfl rfl rfl rfl
set_option maxRecDepth 20000 in
theorem o175_794 : tm_op 175 794 = some (.aload_n 2, (0, 0, 0, 0)) := rfl
theorem r175_794 (d : Nat) (v : Nat) (l0 l1 l3 : Option Value) (st : List Value) (h : tm_H) (K : Option Value → tm_H → Prop) : tm_A d 175 794 [l0, l1, some (.ref v), l3] st h K ↔ tm_A d 175 795 [l0, l1, some (.ref v), l3] (.ref v :: st) h K := tm_s o175_794 rfl rfl rfl
theorem r175_794n (d : Nat)  (l0 l1 l3 : Option Value) (st : List Value) (h : tm_H) (K : Option Value → tm_H → Prop) : tm_A d 175 794 [l0, l1, some .null, l3] st h K ↔ tm_A d 175 795 [l0, l1, some .null, l3] (.null :: st) h K := tm_s o175_794 rfl rfl rfl
set_option maxRecDepth 20000 in
theorem o175_795 : tm_op 175 795 = some (.aload_n 0, (0, 0, 0, 0)) := rfl
theorem r175_795 (d : Nat) (v : Nat) (l1 l2 l3 : Option Value) (st : List Value) (h : tm_H) (K : Option Value → tm_H → Prop) : tm_A d 175 795 [some (.ref v), l1, l2, l3] st h K ↔ tm_A d 175 796 [some (.ref v), l1, l2, l3] (.ref v :: st) h K := tm_s o175_795 rfl rfl rfl
set_option maxRecDepth 20000 in
theorem o175_796 : tm_op 175 796 = some (.iload_n 3, (0, 0, 0, 0)) := rfl
theorem r175_796 (d : Nat) (v : Int32) (l0 l1 l2 : Option Value) (st : List Value) (h : tm_H) (K : Option Value → tm_H → Prop) : tm_A d 175 796 [l0, l1, l2, some (.int v)] st h K ↔ tm_A d 175 797 [l0, l1, l2, some (.int v)] (.int v :: st) h K := tm_s o175_796 rfl rfl rfl
set_option maxRecDepth 20000 in
theorem o175_797 : tm_op 175 797 = some (.iconst 1, (0, 0, 0, 0)) := rfl
theorem r175_797 (d : Nat) (ls : tm_Lo) (st : List Value) (h : tm_H) (K : Option Value → tm_H → Prop) : tm_A d 175 797 ls st h K ↔ tm_A d 175 798 ls (.int (1 : Int32) :: st) h K := tm_ic o175_797 (by decide)
set_option maxRecDepth 20000 in
theorem o175_798 : tm_op 175 798 = some (.iadd, (0, 0, 0, 0)) := rfl
theorem r175_798 (d : Nat) (u v : Int32) (ls : tm_Lo) (st : List Value) (h : tm_H) (K : Option Value → tm_H → Prop) : tm_A d 175 798 ls (.int u :: .int v :: st) h K ↔ tm_A d 175 799 ls (.int (v + u) :: st) h K := tm_s o175_798 rfl rfl rfl
set_option maxRecDepth 20000 in
theorem o175_799 : tm_op 175 799 = some (.iaload, (0, 0, 0, 0)) := rfl
theorem r175_799 (d : Nat) (v : Int32) (a : Nat) (ls : tm_Lo) (st : List Value) (G : tm_G) (I : Nat → Nat → Int32) (J : Nat → Nat → Int64) (R : Nat → Nat → Option Nat) (K : Option Value → tm_H → Prop) : tm_A d 175 799 ls (.int v :: .ref a :: st) (G, I, J, R) K ↔ ((G.2.2 a).1 = 1 ∧ tm_in v (G.2.2 a).2) ∧ tm_A d 175 800 ls (.int (I a (tm_ix v)) :: st) (G, I, J, R) K := tm_iald o175_799
set_option maxRecDepth 20000 in
theorem o175_800 : tm_op 175 800 = some (.aload_n 0, (0, 0, 0, 0)) := rfl
theorem r175_800 (d : Nat) (v : Nat) (l1 l2 l3 : Option Value) (st : List Value) (h : tm_H) (K : Option Value → tm_H → Prop) : tm_A d 175 800 [some (.ref v), l1, l2, l3] st h K ↔ tm_A d 175 801 [some (.ref v), l1, l2, l3] (.ref v :: st) h K := tm_s o175_800 rfl rfl rfl
set_option maxRecDepth 20000 in
theorem o175_801 : tm_op 175 801 = some (.iload_n 3, (0, 0, 0, 0)) := rfl
theorem r175_801 (d : Nat) (v : Int32) (l0 l1 l2 : Option Value) (st : List Value) (h : tm_H) (K : Option Value → tm_H → Prop) : tm_A d 175 801 [l0, l1, l2, some (.int v)] st h K ↔ tm_A d 175 802 [l0, l1, l2, some (.int v)] (.int v :: st) h K := tm_s o175_801 rfl rfl rfl
set_option maxRecDepth 20000 in
theorem o175_802 : tm_op 175 802 = some (.iconst 2, (0, 0, 0, 0)) := rfl
theorem r175_802 (d : Nat) (ls : tm_Lo) (st : List Value) (h : tm_H) (K : Option Value → tm_H → Prop) : tm_A d 175 802 ls st h K ↔ tm_A d 175 803 ls (.int (2 : Int32) :: st) h K := tm_ic o175_802 (by decide)
set_option maxRecDepth 20000 in
theorem o175_803 : tm_op 175 803 = some (.iadd, (0, 0, 0, 0)) := rfl
theorem r175_803 (d : Nat) (u v : Int32) (ls : tm_Lo) (st : List Value) (h : tm_H) (K : Option Value → tm_H → Prop) : tm_A d 175 803 ls (.int u :: .int v :: st) h K ↔ tm_A d 175 804 ls (.int (v + u) :: st) h K := tm_s o175_803 rfl rfl rfl
set_option maxRecDepth 20000 in
theorem o175_804 : tm_op 175 804 = some (.iaload, (0, 0, 0, 0)) := rfl
theorem r175_804 (d : Nat) (v : Int32) (a : Nat) (ls : tm_Lo) (st : List Value) (G : tm_G) (I : Nat → Nat → Int32) (J : Nat → Nat → Int64) (R : Nat → Nat → Option Nat) (K : Option Value → tm_H → Prop) : tm_A d 175 804 ls (.int v :: .ref a :: st) (G, I, J, R) K ↔ ((G.2.2 a).1 = 1 ∧ tm_in v (G.2.2 a).2) ∧ tm_A d 175 805 ls (.int (I a (tm_ix v)) :: st) (G, I, J, R) K := tm_iald o175_804
set_option maxRecDepth 20000 in
theorem o175_805 : tm_op 175 805 = some (.invokevirtual 105, (2, 171, 3, 10)) := rfl
theorem r175_805 (d : Nat) (v1 : Int32) (v2 : Int32) (a : Nat) (ls : tm_Lo) (st : List Value) (h : tm_H) (K : Option Value → tm_H → Prop) : tm_A (d + 1) 175 805 ls (.int v2 :: .int v1 :: .ref a :: st) h K ↔ (h.1.2.2 a = (0, 10) ∧ tm_cs st) ∧ tm_R d 171 [.ref a, .int v1, .int v2] h (fun r h' => tm_A (d + 1) 175 808 ls (r.toList ++ st) h' K) := tm_callV (as := [.int v1, .int v2]) o175_805 rfl rfl rfl rfl
set_option maxRecDepth 20000 in
theorem o175_808 : tm_op 175 808 = some (.if_icmp .eq 51, (0, 0, 0, 0)) := rfl
theorem r175_808 (d : Nat) (y x : Int32) (ls : tm_Lo) (st : List Value) (h : tm_H) (K : Option Value → tm_H → Prop) : tm_A d 175 808 ls (.int y :: .int x :: st) h K ↔ if x = y then tm_A d 175 859 ls st h K else tm_A d 175 811 ls st h K := tm_b o175_808 rfl rfl rfl rfl
set_option maxRecDepth 20000 in
theorem o175_811 : tm_op 175 811 = some (.iconst 0, (0, 0, 0, 0)) := rfl
theorem r175_811 (d : Nat) (ls : tm_Lo) (st : List Value) (h : tm_H) (K : Option Value → tm_H → Prop) : tm_A d 175 811 ls st h K ↔ tm_A d 175 812 ls (.int (0 : Int32) :: st) h K := tm_ic o175_811 (by decide)
set_option maxRecDepth 20000 in
theorem o175_812 : tm_op 175 812 = some (.ireturn, (0, 0, 0, 0)) := rfl
theorem r175_812 (d : Nat) (v : Int32) (ls : tm_Lo) (h : tm_H) (K : Option Value → tm_H → Prop) : tm_A d 175 812 ls [.int v] h K ↔ (v = 0 ∨ v = 1) ∧ K (some (.int v)) h := tm_retz o175_812 rfl
set_option maxRecDepth 20000 in
theorem o175_813 : tm_op 175 813 = some (.aload_n 1, (0, 0, 0, 0)) := rfl
theorem r175_813 (d : Nat) (v : Nat) (l0 l2 l3 : Option Value) (st : List Value) (h : tm_H) (K : Option Value → tm_H → Prop) : tm_A d 175 813 [l0, some (.ref v), l2, l3] st h K ↔ tm_A d 175 814 [l0, some (.ref v), l2, l3] (.ref v :: st) h K := tm_s o175_813 rfl rfl rfl
theorem r175_813n (d : Nat)  (l0 l2 l3 : Option Value) (st : List Value) (h : tm_H) (K : Option Value → tm_H → Prop) : tm_A d 175 813 [l0, some .null, l2, l3] st h K ↔ tm_A d 175 814 [l0, some .null, l2, l3] (.null :: st) h K := tm_s o175_813 rfl rfl rfl
set_option maxRecDepth 20000 in
theorem o175_814 : tm_op 175 814 = some (.aload_n 0, (0, 0, 0, 0)) := rfl
theorem r175_814 (d : Nat) (v : Nat) (l1 l2 l3 : Option Value) (st : List Value) (h : tm_H) (K : Option Value → tm_H → Prop) : tm_A d 175 814 [some (.ref v), l1, l2, l3] st h K ↔ tm_A d 175 815 [some (.ref v), l1, l2, l3] (.ref v :: st) h K := tm_s o175_814 rfl rfl rfl
set_option maxRecDepth 20000 in
theorem o175_815 : tm_op 175 815 = some (.iload_n 3, (0, 0, 0, 0)) := rfl
theorem r175_815 (d : Nat) (v : Int32) (l0 l1 l2 : Option Value) (st : List Value) (h : tm_H) (K : Option Value → tm_H → Prop) : tm_A d 175 815 [l0, l1, l2, some (.int v)] st h K ↔ tm_A d 175 816 [l0, l1, l2, some (.int v)] (.int v :: st) h K := tm_s o175_815 rfl rfl rfl
set_option maxRecDepth 20000 in
theorem o175_816 : tm_op 175 816 = some (.iconst 1, (0, 0, 0, 0)) := rfl
theorem r175_816 (d : Nat) (ls : tm_Lo) (st : List Value) (h : tm_H) (K : Option Value → tm_H → Prop) : tm_A d 175 816 ls st h K ↔ tm_A d 175 817 ls (.int (1 : Int32) :: st) h K := tm_ic o175_816 (by decide)
set_option maxRecDepth 20000 in
theorem o175_817 : tm_op 175 817 = some (.iadd, (0, 0, 0, 0)) := rfl
theorem r175_817 (d : Nat) (u v : Int32) (ls : tm_Lo) (st : List Value) (h : tm_H) (K : Option Value → tm_H → Prop) : tm_A d 175 817 ls (.int u :: .int v :: st) h K ↔ tm_A d 175 818 ls (.int (v + u) :: st) h K := tm_s o175_817 rfl rfl rfl
set_option maxRecDepth 20000 in
theorem o175_818 : tm_op 175 818 = some (.iaload, (0, 0, 0, 0)) := rfl
theorem r175_818 (d : Nat) (v : Int32) (a : Nat) (ls : tm_Lo) (st : List Value) (G : tm_G) (I : Nat → Nat → Int32) (J : Nat → Nat → Int64) (R : Nat → Nat → Option Nat) (K : Option Value → tm_H → Prop) : tm_A d 175 818 ls (.int v :: .ref a :: st) (G, I, J, R) K ↔ ((G.2.2 a).1 = 1 ∧ tm_in v (G.2.2 a).2) ∧ tm_A d 175 819 ls (.int (I a (tm_ix v)) :: st) (G, I, J, R) K := tm_iald o175_818
set_option maxRecDepth 20000 in
theorem o175_819 : tm_op 175 819 = some (.invokevirtual 106, (2, 107, 2, 9)) := rfl
theorem r175_819 (d : Nat) (v1 : Int32) (a : Nat) (ls : tm_Lo) (st : List Value) (h : tm_H) (K : Option Value → tm_H → Prop) : tm_A (d + 1) 175 819 ls (.int v1 :: .ref a :: st) h K ↔ (h.1.2.2 a = (0, 9) ∧ tm_cs st) ∧ tm_R d 107 [.ref a, .int v1] h (fun r h' => tm_A (d + 1) 175 822 ls (r.toList ++ st) h' K) := tm_callV (as := [.int v1]) o175_819 rfl rfl rfl rfl
set_option maxRecDepth 20000 in
theorem o175_822 : tm_op 175 822 = some (.aload_n 2, (0, 0, 0, 0)) := rfl
theorem r175_822 (d : Nat) (v : Nat) (l0 l1 l3 : Option Value) (st : List Value) (h : tm_H) (K : Option Value → tm_H → Prop) : tm_A d 175 822 [l0, l1, some (.ref v), l3] st h K ↔ tm_A d 175 823 [l0, l1, some (.ref v), l3] (.ref v :: st) h K := tm_s o175_822 rfl rfl rfl
theorem r175_822n (d : Nat)  (l0 l1 l3 : Option Value) (st : List Value) (h : tm_H) (K : Option Value → tm_H → Prop) : tm_A d 175 822 [l0, l1, some .null, l3] st h K ↔ tm_A d 175 823 [l0, l1, some .null, l3] (.null :: st) h K := tm_s o175_822 rfl rfl rfl
set_option maxRecDepth 20000 in
theorem o175_823 : tm_op 175 823 = some (.aload_n 0, (0, 0, 0, 0)) := rfl
theorem r175_823 (d : Nat) (v : Nat) (l1 l2 l3 : Option Value) (st : List Value) (h : tm_H) (K : Option Value → tm_H → Prop) : tm_A d 175 823 [some (.ref v), l1, l2, l3] st h K ↔ tm_A d 175 824 [some (.ref v), l1, l2, l3] (.ref v :: st) h K := tm_s o175_823 rfl rfl rfl
set_option maxRecDepth 20000 in
theorem o175_824 : tm_op 175 824 = some (.iload_n 3, (0, 0, 0, 0)) := rfl
theorem r175_824 (d : Nat) (v : Int32) (l0 l1 l2 : Option Value) (st : List Value) (h : tm_H) (K : Option Value → tm_H → Prop) : tm_A d 175 824 [l0, l1, l2, some (.int v)] st h K ↔ tm_A d 175 825 [l0, l1, l2, some (.int v)] (.int v :: st) h K := tm_s o175_824 rfl rfl rfl
set_option maxRecDepth 20000 in
theorem o175_825 : tm_op 175 825 = some (.iconst 1, (0, 0, 0, 0)) := rfl
theorem r175_825 (d : Nat) (ls : tm_Lo) (st : List Value) (h : tm_H) (K : Option Value → tm_H → Prop) : tm_A d 175 825 ls st h K ↔ tm_A d 175 826 ls (.int (1 : Int32) :: st) h K := tm_ic o175_825 (by decide)
set_option maxRecDepth 20000 in
theorem o175_826 : tm_op 175 826 = some (.iadd, (0, 0, 0, 0)) := rfl
theorem r175_826 (d : Nat) (u v : Int32) (ls : tm_Lo) (st : List Value) (h : tm_H) (K : Option Value → tm_H → Prop) : tm_A d 175 826 ls (.int u :: .int v :: st) h K ↔ tm_A d 175 827 ls (.int (v + u) :: st) h K := tm_s o175_826 rfl rfl rfl
set_option maxRecDepth 20000 in
theorem o175_827 : tm_op 175 827 = some (.iaload, (0, 0, 0, 0)) := rfl
theorem r175_827 (d : Nat) (v : Int32) (a : Nat) (ls : tm_Lo) (st : List Value) (G : tm_G) (I : Nat → Nat → Int32) (J : Nat → Nat → Int64) (R : Nat → Nat → Option Nat) (K : Option Value → tm_H → Prop) : tm_A d 175 827 ls (.int v :: .ref a :: st) (G, I, J, R) K ↔ ((G.2.2 a).1 = 1 ∧ tm_in v (G.2.2 a).2) ∧ tm_A d 175 828 ls (.int (I a (tm_ix v)) :: st) (G, I, J, R) K := tm_iald o175_827
set_option maxRecDepth 20000 in
theorem o175_828 : tm_op 175 828 = some (.invokevirtual 109, (2, 172, 2, 10)) := rfl
theorem r175_828 (d : Nat) (v1 : Int32) (a : Nat) (ls : tm_Lo) (st : List Value) (h : tm_H) (K : Option Value → tm_H → Prop) : tm_A (d + 1) 175 828 ls (.int v1 :: .ref a :: st) h K ↔ (h.1.2.2 a = (0, 10) ∧ tm_cs st) ∧ tm_R d 172 [.ref a, .int v1] h (fun r h' => tm_A (d + 1) 175 831 ls (r.toList ++ st) h' K) := tm_callV (as := [.int v1]) o175_828 rfl rfl rfl rfl
set_option maxRecDepth 20000 in
theorem o175_831 : tm_op 175 831 = some (.if_icmp .eq 28, (0, 0, 0, 0)) := rfl
theorem r175_831 (d : Nat) (y x : Int32) (ls : tm_Lo) (st : List Value) (h : tm_H) (K : Option Value → tm_H → Prop) : tm_A d 175 831 ls (.int y :: .int x :: st) h K ↔ if x = y then tm_A d 175 859 ls st h K else tm_A d 175 834 ls st h K := tm_b o175_831 rfl rfl rfl rfl
set_option maxRecDepth 20000 in
theorem o175_834 : tm_op 175 834 = some (.iconst 0, (0, 0, 0, 0)) := rfl
theorem r175_834 (d : Nat) (ls : tm_Lo) (st : List Value) (h : tm_H) (K : Option Value → tm_H → Prop) : tm_A d 175 834 ls st h K ↔ tm_A d 175 835 ls (.int (0 : Int32) :: st) h K := tm_ic o175_834 (by decide)
set_option maxRecDepth 20000 in
theorem o175_835 : tm_op 175 835 = some (.ireturn, (0, 0, 0, 0)) := rfl
theorem r175_835 (d : Nat) (v : Int32) (ls : tm_Lo) (h : tm_H) (K : Option Value → tm_H → Prop) : tm_A d 175 835 ls [.int v] h K ↔ (v = 0 ∨ v = 1) ∧ K (some (.int v)) h := tm_retz o175_835 rfl
set_option maxRecDepth 20000 in
theorem o175_836 : tm_op 175 836 = some (.aload_n 1, (0, 0, 0, 0)) := rfl
theorem r175_836 (d : Nat) (v : Nat) (l0 l2 l3 : Option Value) (st : List Value) (h : tm_H) (K : Option Value → tm_H → Prop) : tm_A d 175 836 [l0, some (.ref v), l2, l3] st h K ↔ tm_A d 175 837 [l0, some (.ref v), l2, l3] (.ref v :: st) h K := tm_s o175_836 rfl rfl rfl
theorem r175_836n (d : Nat)  (l0 l2 l3 : Option Value) (st : List Value) (h : tm_H) (K : Option Value → tm_H → Prop) : tm_A d 175 836 [l0, some .null, l2, l3] st h K ↔ tm_A d 175 837 [l0, some .null, l2, l3] (.null :: st) h K := tm_s o175_836 rfl rfl rfl
set_option maxRecDepth 20000 in
theorem o175_837 : tm_op 175 837 = some (.aload_n 0, (0, 0, 0, 0)) := rfl
theorem r175_837 (d : Nat) (v : Nat) (l1 l2 l3 : Option Value) (st : List Value) (h : tm_H) (K : Option Value → tm_H → Prop) : tm_A d 175 837 [some (.ref v), l1, l2, l3] st h K ↔ tm_A d 175 838 [some (.ref v), l1, l2, l3] (.ref v :: st) h K := tm_s o175_837 rfl rfl rfl
set_option maxRecDepth 20000 in
theorem o175_838 : tm_op 175 838 = some (.iload_n 3, (0, 0, 0, 0)) := rfl
theorem r175_838 (d : Nat) (v : Int32) (l0 l1 l2 : Option Value) (st : List Value) (h : tm_H) (K : Option Value → tm_H → Prop) : tm_A d 175 838 [l0, l1, l2, some (.int v)] st h K ↔ tm_A d 175 839 [l0, l1, l2, some (.int v)] (.int v :: st) h K := tm_s o175_838 rfl rfl rfl
set_option maxRecDepth 20000 in
theorem o175_839 : tm_op 175 839 = some (.iconst 1, (0, 0, 0, 0)) := rfl
theorem r175_839 (d : Nat) (ls : tm_Lo) (st : List Value) (h : tm_H) (K : Option Value → tm_H → Prop) : tm_A d 175 839 ls st h K ↔ tm_A d 175 840 ls (.int (1 : Int32) :: st) h K := tm_ic o175_839 (by decide)
set_option maxRecDepth 20000 in
theorem o175_840 : tm_op 175 840 = some (.iadd, (0, 0, 0, 0)) := rfl
theorem r175_840 (d : Nat) (u v : Int32) (ls : tm_Lo) (st : List Value) (h : tm_H) (K : Option Value → tm_H → Prop) : tm_A d 175 840 ls (.int u :: .int v :: st) h K ↔ tm_A d 175 841 ls (.int (v + u) :: st) h K := tm_s o175_840 rfl rfl rfl
set_option maxRecDepth 20000 in
theorem o175_841 : tm_op 175 841 = some (.iaload, (0, 0, 0, 0)) := rfl
theorem r175_841 (d : Nat) (v : Int32) (a : Nat) (ls : tm_Lo) (st : List Value) (G : tm_G) (I : Nat → Nat → Int32) (J : Nat → Nat → Int64) (R : Nat → Nat → Option Nat) (K : Option Value → tm_H → Prop) : tm_A d 175 841 ls (.int v :: .ref a :: st) (G, I, J, R) K ↔ ((G.2.2 a).1 = 1 ∧ tm_in v (G.2.2 a).2) ∧ tm_A d 175 842 ls (.int (I a (tm_ix v)) :: st) (G, I, J, R) K := tm_iald o175_841
set_option maxRecDepth 20000 in
theorem o175_842 : tm_op 175 842 = some (.invokevirtual 110, (2, 108, 2, 9)) := rfl
theorem r175_842 (d : Nat) (v1 : Int32) (a : Nat) (ls : tm_Lo) (st : List Value) (h : tm_H) (K : Option Value → tm_H → Prop) : tm_A (d + 1) 175 842 ls (.int v1 :: .ref a :: st) h K ↔ (h.1.2.2 a = (0, 9) ∧ tm_cs st) ∧ tm_R d 108 [.ref a, .int v1] h (fun r h' => tm_A (d + 1) 175 845 ls (r.toList ++ st) h' K) := tm_callV (as := [.int v1]) o175_842 rfl rfl rfl rfl
set_option maxRecDepth 20000 in
theorem o175_845 : tm_op 175 845 = some (.aload_n 2, (0, 0, 0, 0)) := rfl
theorem r175_845 (d : Nat) (v : Nat) (l0 l1 l3 : Option Value) (st : List Value) (h : tm_H) (K : Option Value → tm_H → Prop) : tm_A d 175 845 [l0, l1, some (.ref v), l3] st h K ↔ tm_A d 175 846 [l0, l1, some (.ref v), l3] (.ref v :: st) h K := tm_s o175_845 rfl rfl rfl
theorem r175_845n (d : Nat)  (l0 l1 l3 : Option Value) (st : List Value) (h : tm_H) (K : Option Value → tm_H → Prop) : tm_A d 175 845 [l0, l1, some .null, l3] st h K ↔ tm_A d 175 846 [l0, l1, some .null, l3] (.null :: st) h K := tm_s o175_845 rfl rfl rfl
set_option maxRecDepth 20000 in
theorem o175_846 : tm_op 175 846 = some (.aload_n 0, (0, 0, 0, 0)) := rfl
theorem r175_846 (d : Nat) (v : Nat) (l1 l2 l3 : Option Value) (st : List Value) (h : tm_H) (K : Option Value → tm_H → Prop) : tm_A d 175 846 [some (.ref v), l1, l2, l3] st h K ↔ tm_A d 175 847 [some (.ref v), l1, l2, l3] (.ref v :: st) h K := tm_s o175_846 rfl rfl rfl
set_option maxRecDepth 20000 in
theorem o175_847 : tm_op 175 847 = some (.iload_n 3, (0, 0, 0, 0)) := rfl
theorem r175_847 (d : Nat) (v : Int32) (l0 l1 l2 : Option Value) (st : List Value) (h : tm_H) (K : Option Value → tm_H → Prop) : tm_A d 175 847 [l0, l1, l2, some (.int v)] st h K ↔ tm_A d 175 848 [l0, l1, l2, some (.int v)] (.int v :: st) h K := tm_s o175_847 rfl rfl rfl
set_option maxRecDepth 20000 in
theorem o175_848 : tm_op 175 848 = some (.iconst 1, (0, 0, 0, 0)) := rfl
theorem r175_848 (d : Nat) (ls : tm_Lo) (st : List Value) (h : tm_H) (K : Option Value → tm_H → Prop) : tm_A d 175 848 ls st h K ↔ tm_A d 175 849 ls (.int (1 : Int32) :: st) h K := tm_ic o175_848 (by decide)
set_option maxRecDepth 20000 in
theorem o175_849 : tm_op 175 849 = some (.iadd, (0, 0, 0, 0)) := rfl
theorem r175_849 (d : Nat) (u v : Int32) (ls : tm_Lo) (st : List Value) (h : tm_H) (K : Option Value → tm_H → Prop) : tm_A d 175 849 ls (.int u :: .int v :: st) h K ↔ tm_A d 175 850 ls (.int (v + u) :: st) h K := tm_s o175_849 rfl rfl rfl
set_option maxRecDepth 20000 in
theorem o175_850 : tm_op 175 850 = some (.iaload, (0, 0, 0, 0)) := rfl
theorem r175_850 (d : Nat) (v : Int32) (a : Nat) (ls : tm_Lo) (st : List Value) (G : tm_G) (I : Nat → Nat → Int32) (J : Nat → Nat → Int64) (R : Nat → Nat → Option Nat) (K : Option Value → tm_H → Prop) : tm_A d 175 850 ls (.int v :: .ref a :: st) (G, I, J, R) K ↔ ((G.2.2 a).1 = 1 ∧ tm_in v (G.2.2 a).2) ∧ tm_A d 175 851 ls (.int (I a (tm_ix v)) :: st) (G, I, J, R) K := tm_iald o175_850
set_option maxRecDepth 20000 in
theorem o175_851 : tm_op 175 851 = some (.invokevirtual 113, (2, 173, 2, 10)) := rfl
theorem r175_851 (d : Nat) (v1 : Int32) (a : Nat) (ls : tm_Lo) (st : List Value) (h : tm_H) (K : Option Value → tm_H → Prop) : tm_A (d + 1) 175 851 ls (.int v1 :: .ref a :: st) h K ↔ (h.1.2.2 a = (0, 10) ∧ tm_cs st) ∧ tm_R d 173 [.ref a, .int v1] h (fun r h' => tm_A (d + 1) 175 854 ls (r.toList ++ st) h' K) := tm_callV (as := [.int v1]) o175_851 rfl rfl rfl rfl
set_option maxRecDepth 20000 in
theorem o175_854 : tm_op 175 854 = some (.if_icmp .eq 5, (0, 0, 0, 0)) := rfl
theorem r175_854 (d : Nat) (y x : Int32) (ls : tm_Lo) (st : List Value) (h : tm_H) (K : Option Value → tm_H → Prop) : tm_A d 175 854 ls (.int y :: .int x :: st) h K ↔ if x = y then tm_A d 175 859 ls st h K else tm_A d 175 857 ls st h K := tm_b o175_854 rfl rfl rfl rfl
set_option maxRecDepth 20000 in
theorem o175_857 : tm_op 175 857 = some (.iconst 0, (0, 0, 0, 0)) := rfl
theorem r175_857 (d : Nat) (ls : tm_Lo) (st : List Value) (h : tm_H) (K : Option Value → tm_H → Prop) : tm_A d 175 857 ls st h K ↔ tm_A d 175 858 ls (.int (0 : Int32) :: st) h K := tm_ic o175_857 (by decide)
set_option maxRecDepth 20000 in
theorem o175_858 : tm_op 175 858 = some (.ireturn, (0, 0, 0, 0)) := rfl
theorem r175_858 (d : Nat) (v : Int32) (ls : tm_Lo) (h : tm_H) (K : Option Value → tm_H → Prop) : tm_A d 175 858 ls [.int v] h K ↔ (v = 0 ∨ v = 1) ∧ K (some (.int v)) h := tm_retz o175_858 rfl
set_option maxRecDepth 20000 in
theorem o175_859 : tm_op 175 859 = some (.iinc 3 6, (0, 0, 0, 0)) := rfl
theorem r175_859 (d : Nat) (v : Int32) (l0 l1 l2 : Option Value) (st : List Value) (h : tm_H) (K : Option Value → tm_H → Prop) : tm_A d 175 859 [l0, l1, l2, some (.int v)] st h K ↔ tm_A d 175 862 [l0, l1, l2, some (.int (v + (6 : Int32)))] st h K := tm_s o175_859 rfl rfl rfl
set_option maxRecDepth 20000 in
theorem o175_862 : tm_op 175 862 = some (.goto (-844), (0, 0, 0, 0)) := rfl
theorem r175_862 (d : Nat) (ls : tm_Lo) (st : List Value) (h : tm_H) (K : Option Value → tm_H → Prop) : tm_A d 175 862 ls st h K ↔ tm_A d 175 18 ls st h K := tm_s o175_862 rfl rfl rfl
set_option maxRecDepth 20000 in
theorem o175_865 : tm_op 175 865 = some (.iconst 1, (0, 0, 0, 0)) := rfl
theorem r175_865 (d : Nat) (ls : tm_Lo) (st : List Value) (h : tm_H) (K : Option Value → tm_H → Prop) : tm_A d 175 865 ls st h K ↔ tm_A d 175 866 ls (.int (1 : Int32) :: st) h K := tm_ic o175_865 (by decide)
set_option maxRecDepth 20000 in
theorem o175_866 : tm_op 175 866 = some (.ireturn, (0, 0, 0, 0)) := rfl
theorem r175_866 (d : Nat) (v : Int32) (ls : tm_Lo) (h : tm_H) (K : Option Value → tm_H → Prop) : tm_A d 175 866 ls [.int v] h K ↔ (v = 0 ∨ v = 1) ∧ K (some (.int v)) h := tm_retz o175_866 rfl
