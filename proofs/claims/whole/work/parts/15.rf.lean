set_option maxRecDepth 20000 in
theorem o179_0 : tm_op 179 0 = some (.new 7, (0, 9, 13, 0)) := rfl
theorem r179_0 (d : Nat) (ls : tm_Lo) (st : List Value) (G : tm_G) (I : Nat → Nat → Int32) (J : Nat → Nat → Int64) (R : Nat → Nat → Option Nat) (K : Option Value → tm_H → Prop) : tm_A d 179 0 ls st (G, I, J, R) K ↔ tm_A d 179 3 ls (.ref G.1 :: st) (tm_nw (0, 9) 13 (G, I, J, R)) K := tm_s o179_0 rfl rfl rfl
set_option maxRecDepth 20000 in
theorem o179_3 : tm_op 179 3 = some (.dup, (0, 0, 0, 0)) := rfl
theorem r179_3 (d : Nat) (v : Nat) (ls : tm_Lo) (st : List Value) (h : tm_H) (K : Option Value → tm_H → Prop) : tm_A d 179 3 ls (.ref v :: st) h K ↔ tm_A d 179 4 ls (.ref v :: .ref v :: st) h K := tm_s o179_3 rfl rfl rfl
theorem r179_3i (d : Nat) (v : Int32) (ls : tm_Lo) (st : List Value) (h : tm_H) (K : Option Value → tm_H → Prop) : tm_A d 179 3 ls (.int v :: st) h K ↔ tm_A d 179 4 ls (.int v :: .int v :: st) h K := tm_s o179_3 rfl rfl rfl
set_option maxRecDepth 20000 in
theorem o179_4 : tm_op 179 4 = some (.invokespecial 9, (3, 85, 1, 0)) := rfl
theorem r179_4 (d : Nat) (a : Nat) (ls : tm_Lo) (st : List Value) (h : tm_H) (K : Option Value → tm_H → Prop) : tm_A (d + 1) 179 4 ls (.ref a :: st) h K ↔ tm_cs st ∧ tm_R d 85 [.ref a] h (fun r h' => tm_A (d + 1) 179 7 ls (r.toList ++ st) h' K) := tm_callI (as := []) o179_4 rfl rfl rfl rfl
set_option maxRecDepth 20000 in
theorem o179_7 : tm_op 179 7 = some (.astore_n 1, (0, 0, 0, 0)) := rfl
theorem r179_7 (d : Nat) (v : Nat) (l0 l1 l2 l3 : Option Value) (st : List Value) (h : tm_H) (K : Option Value → tm_H → Prop) : tm_A d 179 7 [l0, l1, l2, l3] (.ref v :: st) h K ↔ tm_A d 179 8 [l0, some (.ref v), l2, l3] st h K := tm_s o179_7 rfl rfl rfl
theorem r179_7n (d : Nat)  (l0 l1 l2 l3 : Option Value) (st : List Value) (h : tm_H) (K : Option Value → tm_H → Prop) : tm_A d 179 7 [l0, l1, l2, l3] (.null :: st) h K ↔ tm_A d 179 8 [l0, some .null, l2, l3] st h K := tm_s o179_7 rfl rfl rfl
set_option maxRecDepth 20000 in
theorem o179_8 : tm_op 179 8 = some (.new 10, (0, 10, 39, 0)) := rfl
theorem r179_8 (d : Nat) (ls : tm_Lo) (st : List Value) (G : tm_G) (I : Nat → Nat → Int32) (J : Nat → Nat → Int64) (R : Nat → Nat → Option Nat) (K : Option Value → tm_H → Prop) : tm_A d 179 8 ls st (G, I, J, R) K ↔ tm_A d 179 11 ls (.ref G.1 :: st) (tm_nw (0, 10) 39 (G, I, J, R)) K := tm_s o179_8 rfl rfl rfl
set_option maxRecDepth 20000 in
theorem o179_11 : tm_op 179 11 = some (.dup, (0, 0, 0, 0)) := rfl
theorem r179_11 (d : Nat) (v : Nat) (ls : tm_Lo) (st : List Value) (h : tm_H) (K : Option Value → tm_H → Prop) : tm_A d 179 11 ls (.ref v :: st) h K ↔ tm_A d 179 12 ls (.ref v :: .ref v :: st) h K := tm_s o179_11 rfl rfl rfl
theorem r179_11i (d : Nat) (v : Int32) (ls : tm_Lo) (st : List Value) (h : tm_H) (K : Option Value → tm_H → Prop) : tm_A d 179 11 ls (.int v :: st) h K ↔ tm_A d 179 12 ls (.int v :: .int v :: st) h K := tm_s o179_11 rfl rfl rfl
set_option maxRecDepth 20000 in
theorem o179_12 : tm_op 179 12 = some (.invokespecial 12, (3, 116, 1, 0)) := rfl
theorem r179_12 (d : Nat) (a : Nat) (ls : tm_Lo) (st : List Value) (h : tm_H) (K : Option Value → tm_H → Prop) : tm_A (d + 1) 179 12 ls (.ref a :: st) h K ↔ tm_cs st ∧ tm_R d 116 [.ref a] h (fun r h' => tm_A (d + 1) 179 15 ls (r.toList ++ st) h' K) := tm_callI (as := []) o179_12 rfl rfl rfl rfl
set_option maxRecDepth 20000 in
theorem o179_15 : tm_op 179 15 = some (.astore_n 2, (0, 0, 0, 0)) := rfl
theorem r179_15 (d : Nat) (v : Nat) (l0 l1 l2 l3 : Option Value) (st : List Value) (h : tm_H) (K : Option Value → tm_H → Prop) : tm_A d 179 15 [l0, l1, l2, l3] (.ref v :: st) h K ↔ tm_A d 179 16 [l0, l1, some (.ref v), l3] st h K := tm_s o179_15 rfl rfl rfl
theorem r179_15n (d : Nat)  (l0 l1 l2 l3 : Option Value) (st : List Value) (h : tm_H) (K : Option Value → tm_H → Prop) : tm_A d 179 15 [l0, l1, l2, l3] (.null :: st) h K ↔ tm_A d 179 16 [l0, l1, some .null, l3] st h K := tm_s o179_15 rfl rfl rfl
set_option maxRecDepth 20000 in
theorem o179_16 : tm_op 179 16 = some (.iconst 0, (0, 0, 0, 0)) := rfl
theorem r179_16 (d : Nat) (ls : tm_Lo) (st : List Value) (h : tm_H) (K : Option Value → tm_H → Prop) : tm_A d 179 16 ls st h K ↔ tm_A d 179 17 ls (.int (0 : Int32) :: st) h K := tm_ic o179_16 (by decide)
set_option maxRecDepth 20000 in
theorem o179_17 : tm_op 179 17 = some (.istore_n 3, (0, 0, 0, 0)) := rfl
theorem r179_17 (d : Nat) (v : Int32) (l0 l1 l2 l3 : Option Value) (st : List Value) (h : tm_H) (K : Option Value → tm_H → Prop) : tm_A d 179 17 [l0, l1, l2, l3] (.int v :: st) h K ↔ tm_A d 179 18 [l0, l1, l2, some (.int v)] st h K := tm_s o179_17 rfl rfl rfl
set_option maxRecDepth 20000 in
theorem o179_18 : tm_op 179 18 = some (.iload_n 3, (0, 0, 0, 0)) := rfl
theorem r179_18 (d : Nat) (v : Int32) (l0 l1 l2 : Option Value) (st : List Value) (h : tm_H) (K : Option Value → tm_H → Prop) : tm_A d 179 18 [l0, l1, l2, some (.int v)] st h K ↔ tm_A d 179 19 [l0, l1, l2, some (.int v)] (.int v :: st) h K := tm_s o179_18 rfl rfl rfl
set_option maxRecDepth 20000 in
theorem o179_19 : tm_op 179 19 = some (.aload_n 0, (0, 0, 0, 0)) := rfl
theorem r179_19 (d : Nat) (v : Nat) (l1 l2 l3 : Option Value) (st : List Value) (h : tm_H) (K : Option Value → tm_H → Prop) : tm_A d 179 19 [some (.ref v), l1, l2, l3] st h K ↔ tm_A d 179 20 [some (.ref v), l1, l2, l3] (.ref v :: st) h K := tm_s o179_19 rfl rfl rfl
set_option maxRecDepth 20000 in
theorem o179_20 : tm_op 179 20 = some (.arraylength, (0, 0, 0, 0)) := rfl
theorem r179_20 (d : Nat) (a : Nat) (ls : tm_Lo) (st : List Value) (G : tm_G) (I : Nat → Nat → Int32) (J : Nat → Nat → Int64) (R : Nat → Nat → Option Nat) (K : Option Value → tm_H → Prop) : tm_A d 179 20 ls (.ref a :: st) (G, I, J, R) K ↔ (G.2.2 a).1 = 1 ∧ tm_A d 179 21 ls (.int (Int32.ofNat (G.2.2 a).2) :: st) (G, I, J, R) K := tm_alen o179_20
set_option maxRecDepth 20000 in
theorem o179_21 : tm_op 179 21 = some (.bipush 6, (0, 0, 0, 0)) := rfl
theorem r179_21 (d : Nat) (ls : tm_Lo) (st : List Value) (h : tm_H) (K : Option Value → tm_H → Prop) : tm_A d 179 21 ls st h K ↔ tm_A d 179 23 ls (.int (6 : Int32) :: st) h K := tm_bp o179_21 (by decide)
set_option maxRecDepth 20000 in
theorem o179_23 : tm_op 179 23 = some (.isub, (0, 0, 0, 0)) := rfl
theorem r179_23 (d : Nat) (u v : Int32) (ls : tm_Lo) (st : List Value) (h : tm_H) (K : Option Value → tm_H → Prop) : tm_A d 179 23 ls (.int u :: .int v :: st) h K ↔ tm_A d 179 24 ls (.int (v - u) :: st) h K := tm_s o179_23 rfl rfl rfl
set_option maxRecDepth 20000 in
theorem o179_24 : tm_op 179 24 = some (.if_icmp .gt 841, (0, 0, 0, 0)) := rfl
theorem r179_24 (d : Nat) (y x : Int32) (ls : tm_Lo) (st : List Value) (h : tm_H) (K : Option Value → tm_H → Prop) : tm_A d 179 24 ls (.int y :: .int x :: st) h K ↔ if y < x then tm_A d 179 865 ls st h K else tm_A d 179 27 ls st h K := tm_b o179_24 rfl rfl rfl rfl
set_option maxRecDepth 20000 in
theorem o179_27 : tm_op 179 27 = some (.aload_n 0, (0, 0, 0, 0)) := rfl
theorem r179_27 (d : Nat) (v : Nat) (l1 l2 l3 : Option Value) (st : List Value) (h : tm_H) (K : Option Value → tm_H → Prop) : tm_A d 179 27 [some (.ref v), l1, l2, l3] st h K ↔ tm_A d 179 28 [some (.ref v), l1, l2, l3] (.ref v :: st) h K := tm_s o179_27 rfl rfl rfl
set_option maxRecDepth 20000 in
theorem o179_28 : tm_op 179 28 = some (.iload_n 3, (0, 0, 0, 0)) := rfl
theorem r179_28 (d : Nat) (v : Int32) (l0 l1 l2 : Option Value) (st : List Value) (h : tm_H) (K : Option Value → tm_H → Prop) : tm_A d 179 28 [l0, l1, l2, some (.int v)] st h K ↔ tm_A d 179 29 [l0, l1, l2, some (.int v)] (.int v :: st) h K := tm_s o179_28 rfl rfl rfl
set_option maxRecDepth 20000 in
theorem o179_29 : tm_op 179 29 = some (.iaload, (0, 0, 0, 0)) := rfl
theorem r179_29 (d : Nat) (v : Int32) (a : Nat) (ls : tm_Lo) (st : List Value) (G : tm_G) (I : Nat → Nat → Int32) (J : Nat → Nat → Int64) (R : Nat → Nat → Option Nat) (K : Option Value → tm_H → Prop) : tm_A d 179 29 ls (.int v :: .ref a :: st) (G, I, J, R) K ↔ ((G.2.2 a).1 = 1 ∧ tm_in v (G.2.2 a).2) ∧ tm_A d 179 30 ls (.int (I a (tm_ix v)) :: st) (G, I, J, R) K := tm_iald o179_29
set_option maxRecDepth 20000 in
theorem o179_30 : tm_op 179 30 = some (.bipush 31, (0, 0, 0, 0)) := rfl
theorem r179_30 (d : Nat) (ls : tm_Lo) (st : List Value) (h : tm_H) (K : Option Value → tm_H → Prop) : tm_A d 179 30 ls st h K ↔ tm_A d 179 32 ls (.int (31 : Int32) :: st) h K := tm_bp o179_30 (by decide)
set_option maxRecDepth 20000 in
theorem o179_32 : tm_op 179 32 = some (.iand, (0, 0, 0, 0)) := rfl
theorem r179_32 (d : Nat) (u v : Int32) (ls : tm_Lo) (st : List Value) (h : tm_H) (K : Option Value → tm_H → Prop) : tm_A d 179 32 ls (.int u :: .int v :: st) h K ↔ tm_A d 179 33 ls (.int (v &&& u) :: st) h K := tm_s o179_32 rfl rfl rfl
set_option maxRecDepth 20000 in
theorem o179_33 : tm_op 179 33 = some (.tableswitch 826 0 22 #[107, 130, 193, 216, 229, 242, 265, 298, 341, 364, 387, 430, 463, 516, 559, 592, 615, 638, 681, 714, 747, 780, 803], (107, 0, 0, 0)) := rfl
theorem r179_33 (d : Nat) (v : Int32) (ls : tm_Lo) (st : List Value) (h : tm_H) (K : Option Value → tm_H → Prop) : tm_A d 179 33 ls (.int v :: st) h K ↔ tm_A d 179 (tm_tsw (826) (0) (22) #[107, 130, 193, 216, 229, 242, 265, 298, 341, 364, 387, 430, 463, 516, 559, 592, 615, 638, 681, 714, 747, 780, 803] 33 v) ls st h K := tm_s o179_33 rfl rfl rfl
set_option maxRecDepth 20000 in
theorem o179_140 : tm_op 179 140 = some (.aload_n 1, (0, 0, 0, 0)) := rfl
theorem r179_140 (d : Nat) (v : Nat) (l0 l2 l3 : Option Value) (st : List Value) (h : tm_H) (K : Option Value → tm_H → Prop) : tm_A d 179 140 [l0, some (.ref v), l2, l3] st h K ↔ tm_A d 179 141 [l0, some (.ref v), l2, l3] (.ref v :: st) h K := tm_s o179_140 rfl rfl rfl
theorem r179_140n (d : Nat)  (l0 l2 l3 : Option Value) (st : List Value) (h : tm_H) (K : Option Value → tm_H → Prop) : tm_A d 179 140 [l0, some .null, l2, l3] st h K ↔ tm_A d 179 141 [l0, some .null, l2, l3] (.null :: st) h K := tm_s o179_140 rfl rfl rfl
set_option maxRecDepth 20000 in
theorem o179_141 : tm_op 179 141 = some (.aload_n 0, (0, 0, 0, 0)) := rfl
theorem r179_141 (d : Nat) (v : Nat) (l1 l2 l3 : Option Value) (st : List Value) (h : tm_H) (K : Option Value → tm_H → Prop) : tm_A d 179 141 [some (.ref v), l1, l2, l3] st h K ↔ tm_A d 179 142 [some (.ref v), l1, l2, l3] (.ref v :: st) h K := tm_s o179_141 rfl rfl rfl
set_option maxRecDepth 20000 in
theorem o179_142 : tm_op 179 142 = some (.iload_n 3, (0, 0, 0, 0)) := rfl
theorem r179_142 (d : Nat) (v : Int32) (l0 l1 l2 : Option Value) (st : List Value) (h : tm_H) (K : Option Value → tm_H → Prop) : tm_A d 179 142 [l0, l1, l2, some (.int v)] st h K ↔ tm_A d 179 143 [l0, l1, l2, some (.int v)] (.int v :: st) h K := tm_s o179_142 rfl rfl rfl
set_option maxRecDepth 20000 in
theorem o179_143 : tm_op 179 143 = some (.iconst 1, (0, 0, 0, 0)) := rfl
theorem r179_143 (d : Nat) (ls : tm_Lo) (st : List Value) (h : tm_H) (K : Option Value → tm_H → Prop) : tm_A d 179 143 ls st h K ↔ tm_A d 179 144 ls (.int (1 : Int32) :: st) h K := tm_ic o179_143 (by decide)
set_option maxRecDepth 20000 in
theorem o179_144 : tm_op 179 144 = some (.iadd, (0, 0, 0, 0)) := rfl
theorem r179_144 (d : Nat) (u v : Int32) (ls : tm_Lo) (st : List Value) (h : tm_H) (K : Option Value → tm_H → Prop) : tm_A d 179 144 ls (.int u :: .int v :: st) h K ↔ tm_A d 179 145 ls (.int (v + u) :: st) h K := tm_s o179_144 rfl rfl rfl
set_option maxRecDepth 20000 in
theorem o179_145 : tm_op 179 145 = some (.iaload, (0, 0, 0, 0)) := rfl
theorem r179_145 (d : Nat) (v : Int32) (a : Nat) (ls : tm_Lo) (st : List Value) (G : tm_G) (I : Nat → Nat → Int32) (J : Nat → Nat → Int64) (R : Nat → Nat → Option Nat) (K : Option Value → tm_H → Prop) : tm_A d 179 145 ls (.int v :: .ref a :: st) (G, I, J, R) K ↔ ((G.2.2 a).1 = 1 ∧ tm_in v (G.2.2 a).2) ∧ tm_A d 179 146 ls (.int (I a (tm_ix v)) :: st) (G, I, J, R) K := tm_iald o179_145
set_option maxRecDepth 20000 in
theorem o179_146 : tm_op 179 146 = some (.invokevirtual 13, (2, 86, 2, 9)) := rfl
theorem r179_146 (d : Nat) (v1 : Int32) (a : Nat) (ls : tm_Lo) (st : List Value) (h : tm_H) (K : Option Value → tm_H → Prop) : tm_A (d + 1) 179 146 ls (.int v1 :: .ref a :: st) h K ↔ (h.1.2.2 a = (0, 9) ∧ tm_cs st) ∧ tm_R d 86 [.ref a, .int v1] h (fun r h' => tm_A (d + 1) 179 149 ls (r.toList ++ st) h' K) := tm_callV (as := [.int v1]) o179_146 rfl rfl rfl rfl
set_option maxRecDepth 20000 in
theorem o179_149 : tm_op 179 149 = some (.aload_n 2, (0, 0, 0, 0)) := rfl
theorem r179_149 (d : Nat) (v : Nat) (l0 l1 l3 : Option Value) (st : List Value) (h : tm_H) (K : Option Value → tm_H → Prop) : tm_A d 179 149 [l0, l1, some (.ref v), l3] st h K ↔ tm_A d 179 150 [l0, l1, some (.ref v), l3] (.ref v :: st) h K := tm_s o179_149 rfl rfl rfl
theorem r179_149n (d : Nat)  (l0 l1 l3 : Option Value) (st : List Value) (h : tm_H) (K : Option Value → tm_H → Prop) : tm_A d 179 149 [l0, l1, some .null, l3] st h K ↔ tm_A d 179 150 [l0, l1, some .null, l3] (.null :: st) h K := tm_s o179_149 rfl rfl rfl
set_option maxRecDepth 20000 in
theorem o179_150 : tm_op 179 150 = some (.aload_n 0, (0, 0, 0, 0)) := rfl
theorem r179_150 (d : Nat) (v : Nat) (l1 l2 l3 : Option Value) (st : List Value) (h : tm_H) (K : Option Value → tm_H → Prop) : tm_A d 179 150 [some (.ref v), l1, l2, l3] st h K ↔ tm_A d 179 151 [some (.ref v), l1, l2, l3] (.ref v :: st) h K := tm_s o179_150 rfl rfl rfl
set_option maxRecDepth 20000 in
theorem o179_151 : tm_op 179 151 = some (.iload_n 3, (0, 0, 0, 0)) := rfl
theorem r179_151 (d : Nat) (v : Int32) (l0 l1 l2 : Option Value) (st : List Value) (h : tm_H) (K : Option Value → tm_H → Prop) : tm_A d 179 151 [l0, l1, l2, some (.int v)] st h K ↔ tm_A d 179 152 [l0, l1, l2, some (.int v)] (.int v :: st) h K := tm_s o179_151 rfl rfl rfl
set_option maxRecDepth 20000 in
theorem o179_152 : tm_op 179 152 = some (.iconst 1, (0, 0, 0, 0)) := rfl
theorem r179_152 (d : Nat) (ls : tm_Lo) (st : List Value) (h : tm_H) (K : Option Value → tm_H → Prop) : tm_A d 179 152 ls st h K ↔ tm_A d 179 153 ls (.int (1 : Int32) :: st) h K := tm_ic o179_152 (by decide)
set_option maxRecDepth 20000 in
theorem o179_153 : tm_op 179 153 = some (.iadd, (0, 0, 0, 0)) := rfl
theorem r179_153 (d : Nat) (u v : Int32) (ls : tm_Lo) (st : List Value) (h : tm_H) (K : Option Value → tm_H → Prop) : tm_A d 179 153 ls (.int u :: .int v :: st) h K ↔ tm_A d 179 154 ls (.int (v + u) :: st) h K := tm_s o179_153 rfl rfl rfl
set_option maxRecDepth 20000 in
theorem o179_154 : tm_op 179 154 = some (.iaload, (0, 0, 0, 0)) := rfl
theorem r179_154 (d : Nat) (v : Int32) (a : Nat) (ls : tm_Lo) (st : List Value) (G : tm_G) (I : Nat → Nat → Int32) (J : Nat → Nat → Int64) (R : Nat → Nat → Option Nat) (K : Option Value → tm_H → Prop) : tm_A d 179 154 ls (.int v :: .ref a :: st) (G, I, J, R) K ↔ ((G.2.2 a).1 = 1 ∧ tm_in v (G.2.2 a).2) ∧ tm_A d 179 155 ls (.int (I a (tm_ix v)) :: st) (G, I, J, R) K := tm_iald o179_154
set_option maxRecDepth 20000 in
theorem o179_155 : tm_op 179 155 = some (.invokevirtual 17, (2, 118, 2, 10)) := rfl
theorem r179_155 (d : Nat) (v1 : Int32) (a : Nat) (ls : tm_Lo) (st : List Value) (h : tm_H) (K : Option Value → tm_H → Prop) : tm_A (d + 1) 179 155 ls (.int v1 :: .ref a :: st) h K ↔ (h.1.2.2 a = (0, 10) ∧ tm_cs st) ∧ tm_R d 118 [.ref a, .int v1] h (fun r h' => tm_A (d + 1) 179 158 ls (r.toList ++ st) h' K) := tm_callV (as := [.int v1]) o179_155 rfl rfl rfl rfl
set_option maxRecDepth 20000 in
theorem o179_158 : tm_op 179 158 = some (.if_icmp .eq 701, (0, 0, 0, 0)) := rfl
theorem r179_158 (d : Nat) (y x : Int32) (ls : tm_Lo) (st : List Value) (h : tm_H) (K : Option Value → tm_H → Prop) : tm_A d 179 158 ls (.int y :: .int x :: st) h K ↔ if x = y then tm_A d 179 859 ls st h K else tm_A d 179 161 ls st h K := tm_b o179_158 rfl rfl rfl rfl
set_option maxRecDepth 20000 in
theorem o179_161 : tm_op 179 161 = some (.iconst 0, (0, 0, 0, 0)) := rfl
theorem r179_161 (d : Nat) (ls : tm_Lo) (st : List Value) (h : tm_H) (K : Option Value → tm_H → Prop) : tm_A d 179 161 ls st h K ↔ tm_A d 179 162 ls (.int (0 : Int32) :: st) h K := tm_ic o179_161 (by decide)
set_option maxRecDepth 20000 in
theorem o179_162 : tm_op 179 162 = some (.ireturn, (0, 0, 0, 0)) := rfl
theorem r179_162 (d : Nat) (v : Int32) (ls : tm_Lo) (h : tm_H) (K : Option Value → tm_H → Prop) : tm_A d 179 162 ls [.int v] h K ↔ (v = 0 ∨ v = 1) ∧ K (some (.int v)) h := tm_retz o179_162 rfl
set_option maxRecDepth 20000 in
theorem o179_163 : tm_op 179 163 = some (.aload_n 1, (0, 0, 0, 0)) := rfl
theorem r179_163 (d : Nat) (v : Nat) (l0 l2 l3 : Option Value) (st : List Value) (h : tm_H) (K : Option Value → tm_H → Prop) : tm_A d 179 163 [l0, some (.ref v), l2, l3] st h K ↔ tm_A d 179 164 [l0, some (.ref v), l2, l3] (.ref v :: st) h K := tm_s o179_163 rfl rfl rfl
theorem r179_163n (d : Nat)  (l0 l2 l3 : Option Value) (st : List Value) (h : tm_H) (K : Option Value → tm_H → Prop) : tm_A d 179 163 [l0, some .null, l2, l3] st h K ↔ tm_A d 179 164 [l0, some .null, l2, l3] (.null :: st) h K := tm_s o179_163 rfl rfl rfl
set_option maxRecDepth 20000 in
theorem o179_164 : tm_op 179 164 = some (.aload_n 0, (0, 0, 0, 0)) := rfl
theorem r179_164 (d : Nat) (v : Nat) (l1 l2 l3 : Option Value) (st : List Value) (h : tm_H) (K : Option Value → tm_H → Prop) : tm_A d 179 164 [some (.ref v), l1, l2, l3] st h K ↔ tm_A d 179 165 [some (.ref v), l1, l2, l3] (.ref v :: st) h K := tm_s o179_164 rfl rfl rfl
set_option maxRecDepth 20000 in
theorem o179_165 : tm_op 179 165 = some (.iload_n 3, (0, 0, 0, 0)) := rfl
theorem r179_165 (d : Nat) (v : Int32) (l0 l1 l2 : Option Value) (st : List Value) (h : tm_H) (K : Option Value → tm_H → Prop) : tm_A d 179 165 [l0, l1, l2, some (.int v)] st h K ↔ tm_A d 179 166 [l0, l1, l2, some (.int v)] (.int v :: st) h K := tm_s o179_165 rfl rfl rfl
set_option maxRecDepth 20000 in
theorem o179_166 : tm_op 179 166 = some (.iconst 1, (0, 0, 0, 0)) := rfl
theorem r179_166 (d : Nat) (ls : tm_Lo) (st : List Value) (h : tm_H) (K : Option Value → tm_H → Prop) : tm_A d 179 166 ls st h K ↔ tm_A d 179 167 ls (.int (1 : Int32) :: st) h K := tm_ic o179_166 (by decide)
set_option maxRecDepth 20000 in
theorem o179_167 : tm_op 179 167 = some (.iadd, (0, 0, 0, 0)) := rfl
theorem r179_167 (d : Nat) (u v : Int32) (ls : tm_Lo) (st : List Value) (h : tm_H) (K : Option Value → tm_H → Prop) : tm_A d 179 167 ls (.int u :: .int v :: st) h K ↔ tm_A d 179 168 ls (.int (v + u) :: st) h K := tm_s o179_167 rfl rfl rfl
set_option maxRecDepth 20000 in
theorem o179_168 : tm_op 179 168 = some (.iaload, (0, 0, 0, 0)) := rfl
theorem r179_168 (d : Nat) (v : Int32) (a : Nat) (ls : tm_Lo) (st : List Value) (G : tm_G) (I : Nat → Nat → Int32) (J : Nat → Nat → Int64) (R : Nat → Nat → Option Nat) (K : Option Value → tm_H → Prop) : tm_A d 179 168 ls (.int v :: .ref a :: st) (G, I, J, R) K ↔ ((G.2.2 a).1 = 1 ∧ tm_in v (G.2.2 a).2) ∧ tm_A d 179 169 ls (.int (I a (tm_ix v)) :: st) (G, I, J, R) K := tm_iald o179_168
set_option maxRecDepth 20000 in
theorem o179_169 : tm_op 179 169 = some (.aload_n 0, (0, 0, 0, 0)) := rfl
theorem r179_169 (d : Nat) (v : Nat) (l1 l2 l3 : Option Value) (st : List Value) (h : tm_H) (K : Option Value → tm_H → Prop) : tm_A d 179 169 [some (.ref v), l1, l2, l3] st h K ↔ tm_A d 179 170 [some (.ref v), l1, l2, l3] (.ref v :: st) h K := tm_s o179_169 rfl rfl rfl
set_option maxRecDepth 20000 in
theorem o179_170 : tm_op 179 170 = some (.iload_n 3, (0, 0, 0, 0)) := rfl
theorem r179_170 (d : Nat) (v : Int32) (l0 l1 l2 : Option Value) (st : List Value) (h : tm_H) (K : Option Value → tm_H → Prop) : tm_A d 179 170 [l0, l1, l2, some (.int v)] st h K ↔ tm_A d 179 171 [l0, l1, l2, some (.int v)] (.int v :: st) h K := tm_s o179_170 rfl rfl rfl
set_option maxRecDepth 20000 in
theorem o179_171 : tm_op 179 171 = some (.iconst 2, (0, 0, 0, 0)) := rfl
theorem r179_171 (d : Nat) (ls : tm_Lo) (st : List Value) (h : tm_H) (K : Option Value → tm_H → Prop) : tm_A d 179 171 ls st h K ↔ tm_A d 179 172 ls (.int (2 : Int32) :: st) h K := tm_ic o179_171 (by decide)
set_option maxRecDepth 20000 in
theorem o179_172 : tm_op 179 172 = some (.iadd, (0, 0, 0, 0)) := rfl
theorem r179_172 (d : Nat) (u v : Int32) (ls : tm_Lo) (st : List Value) (h : tm_H) (K : Option Value → tm_H → Prop) : tm_A d 179 172 ls (.int u :: .int v :: st) h K ↔ tm_A d 179 173 ls (.int (v + u) :: st) h K := tm_s o179_172 rfl rfl rfl
set_option maxRecDepth 20000 in
theorem o179_173 : tm_op 179 173 = some (.iaload, (0, 0, 0, 0)) := rfl
theorem r179_173 (d : Nat) (v : Int32) (a : Nat) (ls : tm_Lo) (st : List Value) (G : tm_G) (I : Nat → Nat → Int32) (J : Nat → Nat → Int64) (R : Nat → Nat → Option Nat) (K : Option Value → tm_H → Prop) : tm_A d 179 173 ls (.int v :: .ref a :: st) (G, I, J, R) K ↔ ((G.2.2 a).1 = 1 ∧ tm_in v (G.2.2 a).2) ∧ tm_A d 179 174 ls (.int (I a (tm_ix v)) :: st) (G, I, J, R) K := tm_iald o179_173
set_option maxRecDepth 20000 in
theorem o179_174 : tm_op 179 174 = some (.aload_n 0, (0, 0, 0, 0)) := rfl
theorem r179_174 (d : Nat) (v : Nat) (l1 l2 l3 : Option Value) (st : List Value) (h : tm_H) (K : Option Value → tm_H → Prop) : tm_A d 179 174 [some (.ref v), l1, l2, l3] st h K ↔ tm_A d 179 175 [some (.ref v), l1, l2, l3] (.ref v :: st) h K := tm_s o179_174 rfl rfl rfl
set_option maxRecDepth 20000 in
theorem o179_175 : tm_op 179 175 = some (.iload_n 3, (0, 0, 0, 0)) := rfl
theorem r179_175 (d : Nat) (v : Int32) (l0 l1 l2 : Option Value) (st : List Value) (h : tm_H) (K : Option Value → tm_H → Prop) : tm_A d 179 175 [l0, l1, l2, some (.int v)] st h K ↔ tm_A d 179 176 [l0, l1, l2, some (.int v)] (.int v :: st) h K := tm_s o179_175 rfl rfl rfl
set_option maxRecDepth 20000 in
theorem o179_176 : tm_op 179 176 = some (.iconst 3, (0, 0, 0, 0)) := rfl
theorem r179_176 (d : Nat) (ls : tm_Lo) (st : List Value) (h : tm_H) (K : Option Value → tm_H → Prop) : tm_A d 179 176 ls st h K ↔ tm_A d 179 177 ls (.int (3 : Int32) :: st) h K := tm_ic o179_176 (by decide)
set_option maxRecDepth 20000 in
theorem o179_177 : tm_op 179 177 = some (.iadd, (0, 0, 0, 0)) := rfl
theorem r179_177 (d : Nat) (u v : Int32) (ls : tm_Lo) (st : List Value) (h : tm_H) (K : Option Value → tm_H → Prop) : tm_A d 179 177 ls (.int u :: .int v :: st) h K ↔ tm_A d 179 178 ls (.int (v + u) :: st) h K := tm_s o179_177 rfl rfl rfl
set_option maxRecDepth 20000 in
theorem o179_178 : tm_op 179 178 = some (.iaload, (0, 0, 0, 0)) := rfl
theorem r179_178 (d : Nat) (v : Int32) (a : Nat) (ls : tm_Lo) (st : List Value) (G : tm_G) (I : Nat → Nat → Int32) (J : Nat → Nat → Int64) (R : Nat → Nat → Option Nat) (K : Option Value → tm_H → Prop) : tm_A d 179 178 ls (.int v :: .ref a :: st) (G, I, J, R) K ↔ ((G.2.2 a).1 = 1 ∧ tm_in v (G.2.2 a).2) ∧ tm_A d 179 179 ls (.int (I a (tm_ix v)) :: st) (G, I, J, R) K := tm_iald o179_178
set_option maxRecDepth 20000 in
theorem o179_179 : tm_op 179 179 = some (.aload_n 0, (0, 0, 0, 0)) := rfl
theorem r179_179 (d : Nat) (v : Nat) (l1 l2 l3 : Option Value) (st : List Value) (h : tm_H) (K : Option Value → tm_H → Prop) : tm_A d 179 179 [some (.ref v), l1, l2, l3] st h K ↔ tm_A d 179 180 [some (.ref v), l1, l2, l3] (.ref v :: st) h K := tm_s o179_179 rfl rfl rfl
set_option maxRecDepth 20000 in
theorem o179_180 : tm_op 179 180 = some (.iload_n 3, (0, 0, 0, 0)) := rfl
theorem r179_180 (d : Nat) (v : Int32) (l0 l1 l2 : Option Value) (st : List Value) (h : tm_H) (K : Option Value → tm_H → Prop) : tm_A d 179 180 [l0, l1, l2, some (.int v)] st h K ↔ tm_A d 179 181 [l0, l1, l2, some (.int v)] (.int v :: st) h K := tm_s o179_180 rfl rfl rfl
set_option maxRecDepth 20000 in
theorem o179_181 : tm_op 179 181 = some (.iconst 4, (0, 0, 0, 0)) := rfl
theorem r179_181 (d : Nat) (ls : tm_Lo) (st : List Value) (h : tm_H) (K : Option Value → tm_H → Prop) : tm_A d 179 181 ls st h K ↔ tm_A d 179 182 ls (.int (4 : Int32) :: st) h K := tm_ic o179_181 (by decide)
set_option maxRecDepth 20000 in
theorem o179_182 : tm_op 179 182 = some (.iadd, (0, 0, 0, 0)) := rfl
theorem r179_182 (d : Nat) (u v : Int32) (ls : tm_Lo) (st : List Value) (h : tm_H) (K : Option Value → tm_H → Prop) : tm_A d 179 182 ls (.int u :: .int v :: st) h K ↔ tm_A d 179 183 ls (.int (v + u) :: st) h K := tm_s o179_182 rfl rfl rfl
set_option maxRecDepth 20000 in
theorem o179_183 : tm_op 179 183 = some (.iaload, (0, 0, 0, 0)) := rfl
theorem r179_183 (d : Nat) (v : Int32) (a : Nat) (ls : tm_Lo) (st : List Value) (G : tm_G) (I : Nat → Nat → Int32) (J : Nat → Nat → Int64) (R : Nat → Nat → Option Nat) (K : Option Value → tm_H → Prop) : tm_A d 179 183 ls (.int v :: .ref a :: st) (G, I, J, R) K ↔ ((G.2.2 a).1 = 1 ∧ tm_in v (G.2.2 a).2) ∧ tm_A d 179 184 ls (.int (I a (tm_ix v)) :: st) (G, I, J, R) K := tm_iald o179_183
set_option maxRecDepth 20000 in
theorem o179_184 : tm_op 179 184 = some (.aload_n 0, (0, 0, 0, 0)) := rfl
theorem r179_184 (d : Nat) (v : Nat) (l1 l2 l3 : Option Value) (st : List Value) (h : tm_H) (K : Option Value → tm_H → Prop) : tm_A d 179 184 [some (.ref v), l1, l2, l3] st h K ↔ tm_A d 179 185 [some (.ref v), l1, l2, l3] (.ref v :: st) h K := tm_s o179_184 rfl rfl rfl
set_option maxRecDepth 20000 in
theorem o179_185 : tm_op 179 185 = some (.iload_n 3, (0, 0, 0, 0)) := rfl
theorem r179_185 (d : Nat) (v : Int32) (l0 l1 l2 : Option Value) (st : List Value) (h : tm_H) (K : Option Value → tm_H → Prop) : tm_A d 179 185 [l0, l1, l2, some (.int v)] st h K ↔ tm_A d 179 186 [l0, l1, l2, some (.int v)] (.int v :: st) h K := tm_s o179_185 rfl rfl rfl
set_option maxRecDepth 20000 in
theorem o179_186 : tm_op 179 186 = some (.iconst 5, (0, 0, 0, 0)) := rfl
theorem r179_186 (d : Nat) (ls : tm_Lo) (st : List Value) (h : tm_H) (K : Option Value → tm_H → Prop) : tm_A d 179 186 ls st h K ↔ tm_A d 179 187 ls (.int (5 : Int32) :: st) h K := tm_ic o179_186 (by decide)
set_option maxRecDepth 20000 in
theorem o179_187 : tm_op 179 187 = some (.iadd, (0, 0, 0, 0)) := rfl
theorem r179_187 (d : Nat) (u v : Int32) (ls : tm_Lo) (st : List Value) (h : tm_H) (K : Option Value → tm_H → Prop) : tm_A d 179 187 ls (.int u :: .int v :: st) h K ↔ tm_A d 179 188 ls (.int (v + u) :: st) h K := tm_s o179_187 rfl rfl rfl
set_option maxRecDepth 20000 in
theorem o179_188 : tm_op 179 188 = some (.iaload, (0, 0, 0, 0)) := rfl
theorem r179_188 (d : Nat) (v : Int32) (a : Nat) (ls : tm_Lo) (st : List Value) (G : tm_G) (I : Nat → Nat → Int32) (J : Nat → Nat → Int64) (R : Nat → Nat → Option Nat) (K : Option Value → tm_H → Prop) : tm_A d 179 188 ls (.int v :: .ref a :: st) (G, I, J, R) K ↔ ((G.2.2 a).1 = 1 ∧ tm_in v (G.2.2 a).2) ∧ tm_A d 179 189 ls (.int (I a (tm_ix v)) :: st) (G, I, J, R) K := tm_iald o179_188
set_option maxRecDepth 20000 in
theorem o179_189 : tm_op 179 189 = some (.invokevirtual 18, (2, 87, 6, 9)) := rfl
theorem r179_189 (d : Nat) (v1 : Int32) (v2 : Int32) (v3 : Int32) (v4 : Int32) (v5 : Int32) (a : Nat) (ls : tm_Lo) (st : List Value) (h : tm_H) (K : Option Value → tm_H → Prop) : tm_A (d + 1) 179 189 ls (.int v5 :: .int v4 :: .int v3 :: .int v2 :: .int v1 :: .ref a :: st) h K ↔ (h.1.2.2 a = (0, 9) ∧ tm_cs st) ∧ tm_R d 87 [.ref a, .int v1, .int v2, .int v3, .int v4, .int v5] h (fun r h' => tm_A (d + 1) 179 192 ls (r.toList ++ st) h' K) := tm_callV (as := [.int v1, .int v2, .int v3, .int v4, .int v5]) o179_189 rfl rfl rfl rfl
set_option maxRecDepth 20000 in
theorem o179_192 : tm_op 179 192 = some (.aload_n 2, (0, 0, 0, 0)) := rfl
theorem r179_192 (d : Nat) (v : Nat) (l0 l1 l3 : Option Value) (st : List Value) (h : tm_H) (K : Option Value → tm_H → Prop) : tm_A d 179 192 [l0, l1, some (.ref v), l3] st h K ↔ tm_A d 179 193 [l0, l1, some (.ref v), l3] (.ref v :: st) h K := tm_s o179_192 rfl rfl rfl
theorem r179_192n (d : Nat)  (l0 l1 l3 : Option Value) (st : List Value) (h : tm_H) (K : Option Value → tm_H → Prop) : tm_A d 179 192 [l0, l1, some .null, l3] st h K ↔ tm_A d 179 193 [l0, l1, some .null, l3] (.null :: st) h K := tm_s o179_192 rfl rfl rfl
set_option maxRecDepth 20000 in
theorem o179_193 : tm_op 179 193 = some (.aload_n 0, (0, 0, 0, 0)) := rfl
theorem r179_193 (d : Nat) (v : Nat) (l1 l2 l3 : Option Value) (st : List Value) (h : tm_H) (K : Option Value → tm_H → Prop) : tm_A d 179 193 [some (.ref v), l1, l2, l3] st h K ↔ tm_A d 179 194 [some (.ref v), l1, l2, l3] (.ref v :: st) h K := tm_s o179_193 rfl rfl rfl
set_option maxRecDepth 20000 in
theorem o179_194 : tm_op 179 194 = some (.iload_n 3, (0, 0, 0, 0)) := rfl
theorem r179_194 (d : Nat) (v : Int32) (l0 l1 l2 : Option Value) (st : List Value) (h : tm_H) (K : Option Value → tm_H → Prop) : tm_A d 179 194 [l0, l1, l2, some (.int v)] st h K ↔ tm_A d 179 195 [l0, l1, l2, some (.int v)] (.int v :: st) h K := tm_s o179_194 rfl rfl rfl
set_option maxRecDepth 20000 in
theorem o179_195 : tm_op 179 195 = some (.iconst 1, (0, 0, 0, 0)) := rfl
theorem r179_195 (d : Nat) (ls : tm_Lo) (st : List Value) (h : tm_H) (K : Option Value → tm_H → Prop) : tm_A d 179 195 ls st h K ↔ tm_A d 179 196 ls (.int (1 : Int32) :: st) h K := tm_ic o179_195 (by decide)
set_option maxRecDepth 20000 in
theorem o179_196 : tm_op 179 196 = some (.iadd, (0, 0, 0, 0)) := rfl
theorem r179_196 (d : Nat) (u v : Int32) (ls : tm_Lo) (st : List Value) (h : tm_H) (K : Option Value → tm_H → Prop) : tm_A d 179 196 ls (.int u :: .int v :: st) h K ↔ tm_A d 179 197 ls (.int (v + u) :: st) h K := tm_s o179_196 rfl rfl rfl
set_option maxRecDepth 20000 in
theorem o179_197 : tm_op 179 197 = some (.iaload, (0, 0, 0, 0)) := rfl
theorem r179_197 (d : Nat) (v : Int32) (a : Nat) (ls : tm_Lo) (st : List Value) (G : tm_G) (I : Nat → Nat → Int32) (J : Nat → Nat → Int64) (R : Nat → Nat → Option Nat) (K : Option Value → tm_H → Prop) : tm_A d 179 197 ls (.int v :: .ref a :: st) (G, I, J, R) K ↔ ((G.2.2 a).1 = 1 ∧ tm_in v (G.2.2 a).2) ∧ tm_A d 179 198 ls (.int (I a (tm_ix v)) :: st) (G, I, J, R) K := tm_iald o179_197
set_option maxRecDepth 20000 in
theorem o179_198 : tm_op 179 198 = some (.aload_n 0, (0, 0, 0, 0)) := rfl
theorem r179_198 (d : Nat) (v : Nat) (l1 l2 l3 : Option Value) (st : List Value) (h : tm_H) (K : Option Value → tm_H → Prop) : tm_A d 179 198 [some (.ref v), l1, l2, l3] st h K ↔ tm_A d 179 199 [some (.ref v), l1, l2, l3] (.ref v :: st) h K := tm_s o179_198 rfl rfl rfl
set_option maxRecDepth 20000 in
theorem o179_199 : tm_op 179 199 = some (.iload_n 3, (0, 0, 0, 0)) := rfl
theorem r179_199 (d : Nat) (v : Int32) (l0 l1 l2 : Option Value) (st : List Value) (h : tm_H) (K : Option Value → tm_H → Prop) : tm_A d 179 199 [l0, l1, l2, some (.int v)] st h K ↔ tm_A d 179 200 [l0, l1, l2, some (.int v)] (.int v :: st) h K := tm_s o179_199 rfl rfl rfl
set_option maxRecDepth 20000 in
theorem o179_200 : tm_op 179 200 = some (.iconst 2, (0, 0, 0, 0)) := rfl
theorem r179_200 (d : Nat) (ls : tm_Lo) (st : List Value) (h : tm_H) (K : Option Value → tm_H → Prop) : tm_A d 179 200 ls st h K ↔ tm_A d 179 201 ls (.int (2 : Int32) :: st) h K := tm_ic o179_200 (by decide)
set_option maxRecDepth 20000 in
theorem o179_201 : tm_op 179 201 = some (.iadd, (0, 0, 0, 0)) := rfl
theorem r179_201 (d : Nat) (u v : Int32) (ls : tm_Lo) (st : List Value) (h : tm_H) (K : Option Value → tm_H → Prop) : tm_A d 179 201 ls (.int u :: .int v :: st) h K ↔ tm_A d 179 202 ls (.int (v + u) :: st) h K := tm_s o179_201 rfl rfl rfl
set_option maxRecDepth 20000 in
theorem o179_202 : tm_op 179 202 = some (.iaload, (0, 0, 0, 0)) := rfl
theorem r179_202 (d : Nat) (v : Int32) (a : Nat) (ls : tm_Lo) (st : List Value) (G : tm_G) (I : Nat → Nat → Int32) (J : Nat → Nat → Int64) (R : Nat → Nat → Option Nat) (K : Option Value → tm_H → Prop) : tm_A d 179 202 ls (.int v :: .ref a :: st) (G, I, J, R) K ↔ ((G.2.2 a).1 = 1 ∧ tm_in v (G.2.2 a).2) ∧ tm_A d 179 203 ls (.int (I a (tm_ix v)) :: st) (G, I, J, R) K := tm_iald o179_202
set_option maxRecDepth 20000 in
theorem o179_203 : tm_op 179 203 = some (.aload_n 0, (0, 0, 0, 0)) := rfl
theorem r179_203 (d : Nat) (v : Nat) (l1 l2 l3 : Option Value) (st : List Value) (h : tm_H) (K : Option Value → tm_H → Prop) : tm_A d 179 203 [some (.ref v), l1, l2, l3] st h K ↔ tm_A d 179 204 [some (.ref v), l1, l2, l3] (.ref v :: st) h K := tm_s o179_203 rfl rfl rfl
set_option maxRecDepth 20000 in
theorem o179_204 : tm_op 179 204 = some (.iload_n 3, (0, 0, 0, 0)) := rfl
theorem r179_204 (d : Nat) (v : Int32) (l0 l1 l2 : Option Value) (st : List Value) (h : tm_H) (K : Option Value → tm_H → Prop) : tm_A d 179 204 [l0, l1, l2, some (.int v)] st h K ↔ tm_A d 179 205 [l0, l1, l2, some (.int v)] (.int v :: st) h K := tm_s o179_204 rfl rfl rfl
set_option maxRecDepth 20000 in
theorem o179_205 : tm_op 179 205 = some (.iconst 3, (0, 0, 0, 0)) := rfl
theorem r179_205 (d : Nat) (ls : tm_Lo) (st : List Value) (h : tm_H) (K : Option Value → tm_H → Prop) : tm_A d 179 205 ls st h K ↔ tm_A d 179 206 ls (.int (3 : Int32) :: st) h K := tm_ic o179_205 (by decide)
set_option maxRecDepth 20000 in
theorem o179_206 : tm_op 179 206 = some (.iadd, (0, 0, 0, 0)) := rfl
theorem r179_206 (d : Nat) (u v : Int32) (ls : tm_Lo) (st : List Value) (h : tm_H) (K : Option Value → tm_H → Prop) : tm_A d 179 206 ls (.int u :: .int v :: st) h K ↔ tm_A d 179 207 ls (.int (v + u) :: st) h K := tm_s o179_206 rfl rfl rfl
set_option maxRecDepth 20000 in
theorem o179_207 : tm_op 179 207 = some (.iaload, (0, 0, 0, 0)) := rfl
theorem r179_207 (d : Nat) (v : Int32) (a : Nat) (ls : tm_Lo) (st : List Value) (G : tm_G) (I : Nat → Nat → Int32) (J : Nat → Nat → Int64) (R : Nat → Nat → Option Nat) (K : Option Value → tm_H → Prop) : tm_A d 179 207 ls (.int v :: .ref a :: st) (G, I, J, R) K ↔ ((G.2.2 a).1 = 1 ∧ tm_in v (G.2.2 a).2) ∧ tm_A d 179 208 ls (.int (I a (tm_ix v)) :: st) (G, I, J, R) K := tm_iald o179_207
set_option maxRecDepth 20000 in
theorem o179_208 : tm_op 179 208 = some (.aload_n 0, (0, 0, 0, 0)) := rfl
theorem r179_208 (d : Nat) (v : Nat) (l1 l2 l3 : Option Value) (st : List Value) (h : tm_H) (K : Option Value → tm_H → Prop) : tm_A d 179 208 [some (.ref v), l1, l2, l3] st h K ↔ tm_A d 179 209 [some (.ref v), l1, l2, l3] (.ref v :: st) h K := tm_s o179_208 rfl rfl rfl
set_option maxRecDepth 20000 in
theorem o179_209 : tm_op 179 209 = some (.iload_n 3, (0, 0, 0, 0)) := rfl
theorem r179_209 (d : Nat) (v : Int32) (l0 l1 l2 : Option Value) (st : List Value) (h : tm_H) (K : Option Value → tm_H → Prop) : tm_A d 179 209 [l0, l1, l2, some (.int v)] st h K ↔ tm_A d 179 210 [l0, l1, l2, some (.int v)] (.int v :: st) h K := tm_s o179_209 rfl rfl rfl
set_option maxRecDepth 20000 in
theorem o179_210 : tm_op 179 210 = some (.iconst 4, (0, 0, 0, 0)) := rfl
theorem r179_210 (d : Nat) (ls : tm_Lo) (st : List Value) (h : tm_H) (K : Option Value → tm_H → Prop) : tm_A d 179 210 ls st h K ↔ tm_A d 179 211 ls (.int (4 : Int32) :: st) h K := tm_ic o179_210 (by decide)
set_option maxRecDepth 20000 in
theorem o179_211 : tm_op 179 211 = some (.iadd, (0, 0, 0, 0)) := rfl
theorem r179_211 (d : Nat) (u v : Int32) (ls : tm_Lo) (st : List Value) (h : tm_H) (K : Option Value → tm_H → Prop) : tm_A d 179 211 ls (.int u :: .int v :: st) h K ↔ tm_A d 179 212 ls (.int (v + u) :: st) h K := tm_s o179_211 rfl rfl rfl
set_option maxRecDepth 20000 in
theorem o179_212 : tm_op 179 212 = some (.iaload, (0, 0, 0, 0)) := rfl
theorem r179_212 (d : Nat) (v : Int32) (a : Nat) (ls : tm_Lo) (st : List Value) (G : tm_G) (I : Nat → Nat → Int32) (J : Nat → Nat → Int64) (R : Nat → Nat → Option Nat) (K : Option Value → tm_H → Prop) : tm_A d 179 212 ls (.int v :: .ref a :: st) (G, I, J, R) K ↔ ((G.2.2 a).1 = 1 ∧ tm_in v (G.2.2 a).2) ∧ tm_A d 179 213 ls (.int (I a (tm_ix v)) :: st) (G, I, J, R) K := tm_iald o179_212
set_option maxRecDepth 20000 in
theorem o179_213 : tm_op 179 213 = some (.aload_n 0, (0, 0, 0, 0)) := rfl
theorem r179_213 (d : Nat) (v : Nat) (l1 l2 l3 : Option Value) (st : List Value) (h : tm_H) (K : Option Value → tm_H → Prop) : tm_A d 179 213 [some (.ref v), l1, l2, l3] st h K ↔ tm_A d 179 214 [some (.ref v), l1, l2, l3] (.ref v :: st) h K := tm_s o179_213 rfl rfl rfl
set_option maxRecDepth 20000 in
theorem o179_214 : tm_op 179 214 = some (.iload_n 3, (0, 0, 0, 0)) := rfl
theorem r179_214 (d : Nat) (v : Int32) (l0 l1 l2 : Option Value) (st : List Value) (h : tm_H) (K : Option Value → tm_H → Prop) : tm_A d 179 214 [l0, l1, l2, some (.int v)] st h K ↔ tm_A d 179 215 [l0, l1, l2, some (.int v)] (.int v :: st) h K := tm_s o179_214 rfl rfl rfl
set_option maxRecDepth 20000 in
theorem o179_215 : tm_op 179 215 = some (.iconst 5, (0, 0, 0, 0)) := rfl
theorem r179_215 (d : Nat) (ls : tm_Lo) (st : List Value) (h : tm_H) (K : Option Value → tm_H → Prop) : tm_A d 179 215 ls st h K ↔ tm_A d 179 216 ls (.int (5 : Int32) :: st) h K := tm_ic o179_215 (by decide)
set_option maxRecDepth 20000 in
theorem o179_216 : tm_op 179 216 = some (.iadd, (0, 0, 0, 0)) := rfl
theorem r179_216 (d : Nat) (u v : Int32) (ls : tm_Lo) (st : List Value) (h : tm_H) (K : Option Value → tm_H → Prop) : tm_A d 179 216 ls (.int u :: .int v :: st) h K ↔ tm_A d 179 217 ls (.int (v + u) :: st) h K := tm_s o179_216 rfl rfl rfl
set_option maxRecDepth 20000 in
theorem o179_217 : tm_op 179 217 = some (.iaload, (0, 0, 0, 0)) := rfl
theorem r179_217 (d : Nat) (v : Int32) (a : Nat) (ls : tm_Lo) (st : List Value) (G : tm_G) (I : Nat → Nat → Int32) (J : Nat → Nat → Int64) (R : Nat → Nat → Option Nat) (K : Option Value → tm_H → Prop) : tm_A d 179 217 ls (.int v :: .ref a :: st) (G, I, J, R) K ↔ ((G.2.2 a).1 = 1 ∧ tm_in v (G.2.2 a).2) ∧ tm_A d 179 218 ls (.int (I a (tm_ix v)) :: st) (G, I, J, R) K := tm_iald o179_217
set_option maxRecDepth 20000 in
theorem o179_218 : tm_op 179 218 = some (.invokevirtual 22, (2, 120, 6, 10)) := rfl
theorem r179_218 (d : Nat) (v1 : Int32) (v2 : Int32) (v3 : Int32) (v4 : Int32) (v5 : Int32) (a : Nat) (ls : tm_Lo) (st : List Value) (h : tm_H) (K : Option Value → tm_H → Prop) : tm_A (d + 1) 179 218 ls (.int v5 :: .int v4 :: .int v3 :: .int v2 :: .int v1 :: .ref a :: st) h K ↔ (h.1.2.2 a = (0, 10) ∧ tm_cs st) ∧ tm_R d 120 [.ref a, .int v1, .int v2, .int v3, .int v4, .int v5] h (fun r h' => tm_A (d + 1) 179 221 ls (r.toList ++ st) h' K) := tm_callV (as := [.int v1, .int v2, .int v3, .int v4, .int v5]) o179_218 rfl rfl rfl rfl
set_option maxRecDepth 20000 in
theorem o179_221 : tm_op 179 221 = some (.if_icmp .eq 638, (0, 0, 0, 0)) := rfl
theorem r179_221 (d : Nat) (y x : Int32) (ls : tm_Lo) (st : List Value) (h : tm_H) (K : Option Value → tm_H → Prop) : tm_A d 179 221 ls (.int y :: .int x :: st) h K ↔ if x = y then tm_A d 179 859 ls st h K else tm_A d 179 224 ls st h K := tm_b o179_221 rfl rfl rfl rfl
set_option maxRecDepth 20000 in
theorem o179_224 : tm_op 179 224 = some (.iconst 0, (0, 0, 0, 0)) := rfl
theorem r179_224 (d : Nat) (ls : tm_Lo) (st : List Value) (h : tm_H) (K : Option Value → tm_H → Prop) : tm_A d 179 224 ls st h K ↔ tm_A d 179 225 ls (.int (0 : Int32) :: st) h K := tm_ic o179_224 (by decide)
set_option maxRecDepth 20000 in
theorem o179_225 : tm_op 179 225 = some (.ireturn, (0, 0, 0, 0)) := rfl
theorem r179_225 (d : Nat) (v : Int32) (ls : tm_Lo) (h : tm_H) (K : Option Value → tm_H → Prop) : tm_A d 179 225 ls [.int v] h K ↔ (v = 0 ∨ v = 1) ∧ K (some (.int v)) h := tm_retz o179_225 rfl
set_option maxRecDepth 20000 in
theorem o179_226 : tm_op 179 226 = some (.aload_n 1, (0, 0, 0, 0)) := rfl
theorem r179_226 (d : Nat) (v : Nat) (l0 l2 l3 : Option Value) (st : List Value) (h : tm_H) (K : Option Value → tm_H → Prop) : tm_A d 179 226 [l0, some (.ref v), l2, l3] st h K ↔ tm_A d 179 227 [l0, some (.ref v), l2, l3] (.ref v :: st) h K := tm_s o179_226 rfl rfl rfl
theorem r179_226n (d : Nat)  (l0 l2 l3 : Option Value) (st : List Value) (h : tm_H) (K : Option Value → tm_H → Prop) : tm_A d 179 226 [l0, some .null, l2, l3] st h K ↔ tm_A d 179 227 [l0, some .null, l2, l3] (.null :: st) h K := tm_s o179_226 rfl rfl rfl
set_option maxRecDepth 20000 in
theorem o179_227 : tm_op 179 227 = some (.aload_n 0, (0, 0, 0, 0)) := rfl
theorem r179_227 (d : Nat) (v : Nat) (l1 l2 l3 : Option Value) (st : List Value) (h : tm_H) (K : Option Value → tm_H → Prop) : tm_A d 179 227 [some (.ref v), l1, l2, l3] st h K ↔ tm_A d 179 228 [some (.ref v), l1, l2, l3] (.ref v :: st) h K := tm_s o179_227 rfl rfl rfl
set_option maxRecDepth 20000 in
theorem o179_228 : tm_op 179 228 = some (.iload_n 3, (0, 0, 0, 0)) := rfl
theorem r179_228 (d : Nat) (v : Int32) (l0 l1 l2 : Option Value) (st : List Value) (h : tm_H) (K : Option Value → tm_H → Prop) : tm_A d 179 228 [l0, l1, l2, some (.int v)] st h K ↔ tm_A d 179 229 [l0, l1, l2, some (.int v)] (.int v :: st) h K := tm_s o179_228 rfl rfl rfl
set_option maxRecDepth 20000 in
theorem o179_229 : tm_op 179 229 = some (.iconst 1, (0, 0, 0, 0)) := rfl
theorem r179_229 (d : Nat) (ls : tm_Lo) (st : List Value) (h : tm_H) (K : Option Value → tm_H → Prop) : tm_A d 179 229 ls st h K ↔ tm_A d 179 230 ls (.int (1 : Int32) :: st) h K := tm_ic o179_229 (by decide)
set_option maxRecDepth 20000 in
theorem o179_230 : tm_op 179 230 = some (.iadd, (0, 0, 0, 0)) := rfl
theorem r179_230 (d : Nat) (u v : Int32) (ls : tm_Lo) (st : List Value) (h : tm_H) (K : Option Value → tm_H → Prop) : tm_A d 179 230 ls (.int u :: .int v :: st) h K ↔ tm_A d 179 231 ls (.int (v + u) :: st) h K := tm_s o179_230 rfl rfl rfl
set_option maxRecDepth 20000 in
theorem o179_231 : tm_op 179 231 = some (.iaload, (0, 0, 0, 0)) := rfl
theorem r179_231 (d : Nat) (v : Int32) (a : Nat) (ls : tm_Lo) (st : List Value) (G : tm_G) (I : Nat → Nat → Int32) (J : Nat → Nat → Int64) (R : Nat → Nat → Option Nat) (K : Option Value → tm_H → Prop) : tm_A d 179 231 ls (.int v :: .ref a :: st) (G, I, J, R) K ↔ ((G.2.2 a).1 = 1 ∧ tm_in v (G.2.2 a).2) ∧ tm_A d 179 232 ls (.int (I a (tm_ix v)) :: st) (G, I, J, R) K := tm_iald o179_231
set_option maxRecDepth 20000 in
theorem o179_232 : tm_op 179 232 = some (.invokevirtual 23, (2, 88, 2, 9)) := rfl
theorem r179_232 (d : Nat) (v1 : Int32) (a : Nat) (ls : tm_Lo) (st : List Value) (h : tm_H) (K : Option Value → tm_H → Prop) : tm_A (d + 1) 179 232 ls (.int v1 :: .ref a :: st) h K ↔ (h.1.2.2 a = (0, 9) ∧ tm_cs st) ∧ tm_R d 88 [.ref a, .int v1] h (fun r h' => tm_A (d + 1) 179 235 ls (r.toList ++ st) h' K) := tm_callV (as := [.int v1]) o179_232 rfl rfl rfl rfl
set_option maxRecDepth 20000 in
theorem o179_235 : tm_op 179 235 = some (.aload_n 2, (0, 0, 0, 0)) := rfl
theorem r179_235 (d : Nat) (v : Nat) (l0 l1 l3 : Option Value) (st : List Value) (h : tm_H) (K : Option Value → tm_H → Prop) : tm_A d 179 235 [l0, l1, some (.ref v), l3] st h K ↔ tm_A d 179 236 [l0, l1, some (.ref v), l3] (.ref v :: st) h K := tm_s o179_235 rfl rfl rfl
theorem r179_235n (d : Nat)  (l0 l1 l3 : Option Value) (st : List Value) (h : tm_H) (K : Option Value → tm_H → Prop) : tm_A d 179 235 [l0, l1, some .null, l3] st h K ↔ tm_A d 179 236 [l0, l1, some .null, l3] (.null :: st) h K := tm_s o179_235 rfl rfl rfl
set_option maxRecDepth 20000 in
theorem o179_236 : tm_op 179 236 = some (.aload_n 0, (0, 0, 0, 0)) := rfl
theorem r179_236 (d : Nat) (v : Nat) (l1 l2 l3 : Option Value) (st : List Value) (h : tm_H) (K : Option Value → tm_H → Prop) : tm_A d 179 236 [some (.ref v), l1, l2, l3] st h K ↔ tm_A d 179 237 [some (.ref v), l1, l2, l3] (.ref v :: st) h K := tm_s o179_236 rfl rfl rfl
set_option maxRecDepth 20000 in
theorem o179_237 : tm_op 179 237 = some (.iload_n 3, (0, 0, 0, 0)) := rfl
theorem r179_237 (d : Nat) (v : Int32) (l0 l1 l2 : Option Value) (st : List Value) (h : tm_H) (K : Option Value → tm_H → Prop) : tm_A d 179 237 [l0, l1, l2, some (.int v)] st h K ↔ tm_A d 179 238 [l0, l1, l2, some (.int v)] (.int v :: st) h K := tm_s o179_237 rfl rfl rfl
set_option maxRecDepth 20000 in
theorem o179_238 : tm_op 179 238 = some (.iconst 1, (0, 0, 0, 0)) := rfl
theorem r179_238 (d : Nat) (ls : tm_Lo) (st : List Value) (h : tm_H) (K : Option Value → tm_H → Prop) : tm_A d 179 238 ls st h K ↔ tm_A d 179 239 ls (.int (1 : Int32) :: st) h K := tm_ic o179_238 (by decide)
set_option maxRecDepth 20000 in
theorem o179_239 : tm_op 179 239 = some (.iadd, (0, 0, 0, 0)) := rfl
theorem r179_239 (d : Nat) (u v : Int32) (ls : tm_Lo) (st : List Value) (h : tm_H) (K : Option Value → tm_H → Prop) : tm_A d 179 239 ls (.int u :: .int v :: st) h K ↔ tm_A d 179 240 ls (.int (v + u) :: st) h K := tm_s o179_239 rfl rfl rfl
set_option maxRecDepth 20000 in
theorem o179_240 : tm_op 179 240 = some (.iaload, (0, 0, 0, 0)) := rfl
theorem r179_240 (d : Nat) (v : Int32) (a : Nat) (ls : tm_Lo) (st : List Value) (G : tm_G) (I : Nat → Nat → Int32) (J : Nat → Nat → Int64) (R : Nat → Nat → Option Nat) (K : Option Value → tm_H → Prop) : tm_A d 179 240 ls (.int v :: .ref a :: st) (G, I, J, R) K ↔ ((G.2.2 a).1 = 1 ∧ tm_in v (G.2.2 a).2) ∧ tm_A d 179 241 ls (.int (I a (tm_ix v)) :: st) (G, I, J, R) K := tm_iald o179_240
set_option maxRecDepth 20000 in
theorem o179_241 : tm_op 179 241 = some (.invokevirtual 27, (2, 121, 2, 10)) := rfl
theorem r179_241 (d : Nat) (v1 : Int32) (a : Nat) (ls : tm_Lo) (st : List Value) (h : tm_H) (K : Option Value → tm_H → Prop) : tm_A (d + 1) 179 241 ls (.int v1 :: .ref a :: st) h K ↔ (h.1.2.2 a = (0, 10) ∧ tm_cs st) ∧ tm_R d 121 [.ref a, .int v1] h (fun r h' => tm_A (d + 1) 179 244 ls (r.toList ++ st) h' K) := tm_callV (as := [.int v1]) o179_241 rfl rfl rfl rfl
set_option maxRecDepth 20000 in
theorem o179_244 : tm_op 179 244 = some (.if_icmp .eq 615, (0, 0, 0, 0)) := rfl
theorem r179_244 (d : Nat) (y x : Int32) (ls : tm_Lo) (st : List Value) (h : tm_H) (K : Option Value → tm_H → Prop) : tm_A d 179 244 ls (.int y :: .int x :: st) h K ↔ if x = y then tm_A d 179 859 ls st h K else tm_A d 179 247 ls st h K := tm_b o179_244 rfl rfl rfl rfl
set_option maxRecDepth 20000 in
theorem o179_247 : tm_op 179 247 = some (.iconst 0, (0, 0, 0, 0)) := rfl
theorem r179_247 (d : Nat) (ls : tm_Lo) (st : List Value) (h : tm_H) (K : Option Value → tm_H → Prop) : tm_A d 179 247 ls st h K ↔ tm_A d 179 248 ls (.int (0 : Int32) :: st) h K := tm_ic o179_247 (by decide)
set_option maxRecDepth 20000 in
theorem o179_248 : tm_op 179 248 = some (.ireturn, (0, 0, 0, 0)) := rfl
theorem r179_248 (d : Nat) (v : Int32) (ls : tm_Lo) (h : tm_H) (K : Option Value → tm_H → Prop) : tm_A d 179 248 ls [.int v] h K ↔ (v = 0 ∨ v = 1) ∧ K (some (.int v)) h := tm_retz o179_248 rfl
set_option maxRecDepth 20000 in
theorem o179_249 : tm_op 179 249 = some (.aload_n 1, (0, 0, 0, 0)) := rfl
theorem r179_249 (d : Nat) (v : Nat) (l0 l2 l3 : Option Value) (st : List Value) (h : tm_H) (K : Option Value → tm_H → Prop) : tm_A d 179 249 [l0, some (.ref v), l2, l3] st h K ↔ tm_A d 179 250 [l0, some (.ref v), l2, l3] (.ref v :: st) h K := tm_s o179_249 rfl rfl rfl
theorem r179_249n (d : Nat)  (l0 l2 l3 : Option Value) (st : List Value) (h : tm_H) (K : Option Value → tm_H → Prop) : tm_A d 179 249 [l0, some .null, l2, l3] st h K ↔ tm_A d 179 250 [l0, some .null, l2, l3] (.null :: st) h K := tm_s o179_249 rfl rfl rfl
set_option maxRecDepth 20000 in
theorem o179_250 : tm_op 179 250 = some (.invokevirtual 28, (2, 89, 1, 9)) := rfl
theorem r179_250 (d : Nat) (a : Nat) (ls : tm_Lo) (st : List Value) (h : tm_H) (K : Option Value → tm_H → Prop) : tm_A (d + 1) 179 250 ls (.ref a :: st) h K ↔ (h.1.2.2 a = (0, 9) ∧ tm_cs st) ∧ tm_R d 89 [.ref a] h (fun r h' => tm_A (d + 1) 179 253 ls (r.toList ++ st) h' K) := tm_callV (as := []) o179_250 rfl rfl rfl rfl
set_option maxRecDepth 20000 in
theorem o179_253 : tm_op 179 253 = some (.aload_n 2, (0, 0, 0, 0)) := rfl
theorem r179_253 (d : Nat) (v : Nat) (l0 l1 l3 : Option Value) (st : List Value) (h : tm_H) (K : Option Value → tm_H → Prop) : tm_A d 179 253 [l0, l1, some (.ref v), l3] st h K ↔ tm_A d 179 254 [l0, l1, some (.ref v), l3] (.ref v :: st) h K := tm_s o179_253 rfl rfl rfl
theorem r179_253n (d : Nat)  (l0 l1 l3 : Option Value) (st : List Value) (h : tm_H) (K : Option Value → tm_H → Prop) : tm_A d 179 253 [l0, l1, some .null, l3] st h K ↔ tm_A d 179 254 [l0, l1, some .null, l3] (.null :: st) h K := tm_s o179_253 rfl rfl rfl
set_option maxRecDepth 20000 in
theorem o179_254 : tm_op 179 254 = some (.invokevirtual 32, (2, 131, 1, 10)) := rfl
theorem r179_254 (d : Nat) (a : Nat) (ls : tm_Lo) (st : List Value) (h : tm_H) (K : Option Value → tm_H → Prop) : tm_A (d + 1) 179 254 ls (.ref a :: st) h K ↔ (h.1.2.2 a = (0, 10) ∧ tm_cs st) ∧ tm_R d 131 [.ref a] h (fun r h' => tm_A (d + 1) 179 257 ls (r.toList ++ st) h' K) := tm_callV (as := []) o179_254 rfl rfl rfl rfl
set_option maxRecDepth 20000 in
theorem o179_257 : tm_op 179 257 = some (.if_icmp .eq 602, (0, 0, 0, 0)) := rfl
theorem r179_257 (d : Nat) (y x : Int32) (ls : tm_Lo) (st : List Value) (h : tm_H) (K : Option Value → tm_H → Prop) : tm_A d 179 257 ls (.int y :: .int x :: st) h K ↔ if x = y then tm_A d 179 859 ls st h K else tm_A d 179 260 ls st h K := tm_b o179_257 rfl rfl rfl rfl
set_option maxRecDepth 20000 in
theorem o179_260 : tm_op 179 260 = some (.iconst 0, (0, 0, 0, 0)) := rfl
theorem r179_260 (d : Nat) (ls : tm_Lo) (st : List Value) (h : tm_H) (K : Option Value → tm_H → Prop) : tm_A d 179 260 ls st h K ↔ tm_A d 179 261 ls (.int (0 : Int32) :: st) h K := tm_ic o179_260 (by decide)
set_option maxRecDepth 20000 in
theorem o179_261 : tm_op 179 261 = some (.ireturn, (0, 0, 0, 0)) := rfl
theorem r179_261 (d : Nat) (v : Int32) (ls : tm_Lo) (h : tm_H) (K : Option Value → tm_H → Prop) : tm_A d 179 261 ls [.int v] h K ↔ (v = 0 ∨ v = 1) ∧ K (some (.int v)) h := tm_retz o179_261 rfl
set_option maxRecDepth 20000 in
theorem o179_262 : tm_op 179 262 = some (.aload_n 1, (0, 0, 0, 0)) := rfl
theorem r179_262 (d : Nat) (v : Nat) (l0 l2 l3 : Option Value) (st : List Value) (h : tm_H) (K : Option Value → tm_H → Prop) : tm_A d 179 262 [l0, some (.ref v), l2, l3] st h K ↔ tm_A d 179 263 [l0, some (.ref v), l2, l3] (.ref v :: st) h K := tm_s o179_262 rfl rfl rfl
theorem r179_262n (d : Nat)  (l0 l2 l3 : Option Value) (st : List Value) (h : tm_H) (K : Option Value → tm_H → Prop) : tm_A d 179 262 [l0, some .null, l2, l3] st h K ↔ tm_A d 179 263 [l0, some .null, l2, l3] (.null :: st) h K := tm_s o179_262 rfl rfl rfl
set_option maxRecDepth 20000 in
theorem o179_263 : tm_op 179 263 = some (.invokevirtual 33, (2, 90, 1, 9)) := rfl
theorem r179_263 (d : Nat) (a : Nat) (ls : tm_Lo) (st : List Value) (h : tm_H) (K : Option Value → tm_H → Prop) : tm_A (d + 1) 179 263 ls (.ref a :: st) h K ↔ (h.1.2.2 a = (0, 9) ∧ tm_cs st) ∧ tm_R d 90 [.ref a] h (fun r h' => tm_A (d + 1) 179 266 ls (r.toList ++ st) h' K) := tm_callV (as := []) o179_263 rfl rfl rfl rfl
set_option maxRecDepth 20000 in
theorem o179_266 : tm_op 179 266 = some (.aload_n 2, (0, 0, 0, 0)) := rfl
theorem r179_266 (d : Nat) (v : Nat) (l0 l1 l3 : Option Value) (st : List Value) (h : tm_H) (K : Option Value → tm_H → Prop) : tm_A d 179 266 [l0, l1, some (.ref v), l3] st h K ↔ tm_A d 179 267 [l0, l1, some (.ref v), l3] (.ref v :: st) h K := tm_s o179_266 rfl rfl rfl
theorem r179_266n (d : Nat)  (l0 l1 l3 : Option Value) (st : List Value) (h : tm_H) (K : Option Value → tm_H → Prop) : tm_A d 179 266 [l0, l1, some .null, l3] st h K ↔ tm_A d 179 267 [l0, l1, some .null, l3] (.null :: st) h K := tm_s o179_266 rfl rfl rfl
set_option maxRecDepth 20000 in
theorem o179_267 : tm_op 179 267 = some (.invokevirtual 36, (2, 133, 1, 10)) := rfl
theorem r179_267 (d : Nat) (a : Nat) (ls : tm_Lo) (st : List Value) (h : tm_H) (K : Option Value → tm_H → Prop) : tm_A (d + 1) 179 267 ls (.ref a :: st) h K ↔ (h.1.2.2 a = (0, 10) ∧ tm_cs st) ∧ tm_R d 133 [.ref a] h (fun r h' => tm_A (d + 1) 179 270 ls (r.toList ++ st) h' K) := tm_callV (as := []) o179_267 rfl rfl rfl rfl
set_option maxRecDepth 20000 in
theorem o179_270 : tm_op 179 270 = some (.if_icmp .eq 589, (0, 0, 0, 0)) := rfl
theorem r179_270 (d : Nat) (y x : Int32) (ls : tm_Lo) (st : List Value) (h : tm_H) (K : Option Value → tm_H → Prop) : tm_A d 179 270 ls (.int y :: .int x :: st) h K ↔ if x = y then tm_A d 179 859 ls st h K else tm_A d 179 273 ls st h K := tm_b o179_270 rfl rfl rfl rfl
set_option maxRecDepth 20000 in
theorem o179_273 : tm_op 179 273 = some (.iconst 0, (0, 0, 0, 0)) := rfl
theorem r179_273 (d : Nat) (ls : tm_Lo) (st : List Value) (h : tm_H) (K : Option Value → tm_H → Prop) : tm_A d 179 273 ls st h K ↔ tm_A d 179 274 ls (.int (0 : Int32) :: st) h K := tm_ic o179_273 (by decide)
set_option maxRecDepth 20000 in
theorem o179_274 : tm_op 179 274 = some (.ireturn, (0, 0, 0, 0)) := rfl
theorem r179_274 (d : Nat) (v : Int32) (ls : tm_Lo) (h : tm_H) (K : Option Value → tm_H → Prop) : tm_A d 179 274 ls [.int v] h K ↔ (v = 0 ∨ v = 1) ∧ K (some (.int v)) h := tm_retz o179_274 rfl
set_option maxRecDepth 20000 in
theorem o179_275 : tm_op 179 275 = some (.aload_n 1, (0, 0, 0, 0)) := rfl
theorem r179_275 (d : Nat) (v : Nat) (l0 l2 l3 : Option Value) (st : List Value) (h : tm_H) (K : Option Value → tm_H → Prop) : tm_A d 179 275 [l0, some (.ref v), l2, l3] st h K ↔ tm_A d 179 276 [l0, some (.ref v), l2, l3] (.ref v :: st) h K := tm_s o179_275 rfl rfl rfl
theorem r179_275n (d : Nat)  (l0 l2 l3 : Option Value) (st : List Value) (h : tm_H) (K : Option Value → tm_H → Prop) : tm_A d 179 275 [l0, some .null, l2, l3] st h K ↔ tm_A d 179 276 [l0, some .null, l2, l3] (.null :: st) h K := tm_s o179_275 rfl rfl rfl
set_option maxRecDepth 20000 in
theorem o179_276 : tm_op 179 276 = some (.aload_n 0, (0, 0, 0, 0)) := rfl
theorem r179_276 (d : Nat) (v : Nat) (l1 l2 l3 : Option Value) (st : List Value) (h : tm_H) (K : Option Value → tm_H → Prop) : tm_A d 179 276 [some (.ref v), l1, l2, l3] st h K ↔ tm_A d 179 277 [some (.ref v), l1, l2, l3] (.ref v :: st) h K := tm_s o179_276 rfl rfl rfl
set_option maxRecDepth 20000 in
theorem o179_277 : tm_op 179 277 = some (.iload_n 3, (0, 0, 0, 0)) := rfl
theorem r179_277 (d : Nat) (v : Int32) (l0 l1 l2 : Option Value) (st : List Value) (h : tm_H) (K : Option Value → tm_H → Prop) : tm_A d 179 277 [l0, l1, l2, some (.int v)] st h K ↔ tm_A d 179 278 [l0, l1, l2, some (.int v)] (.int v :: st) h K := tm_s o179_277 rfl rfl rfl
set_option maxRecDepth 20000 in
theorem o179_278 : tm_op 179 278 = some (.iconst 1, (0, 0, 0, 0)) := rfl
theorem r179_278 (d : Nat) (ls : tm_Lo) (st : List Value) (h : tm_H) (K : Option Value → tm_H → Prop) : tm_A d 179 278 ls st h K ↔ tm_A d 179 279 ls (.int (1 : Int32) :: st) h K := tm_ic o179_278 (by decide)
set_option maxRecDepth 20000 in
theorem o179_279 : tm_op 179 279 = some (.iadd, (0, 0, 0, 0)) := rfl
theorem r179_279 (d : Nat) (u v : Int32) (ls : tm_Lo) (st : List Value) (h : tm_H) (K : Option Value → tm_H → Prop) : tm_A d 179 279 ls (.int u :: .int v :: st) h K ↔ tm_A d 179 280 ls (.int (v + u) :: st) h K := tm_s o179_279 rfl rfl rfl
set_option maxRecDepth 20000 in
theorem o179_280 : tm_op 179 280 = some (.iaload, (0, 0, 0, 0)) := rfl
theorem r179_280 (d : Nat) (v : Int32) (a : Nat) (ls : tm_Lo) (st : List Value) (G : tm_G) (I : Nat → Nat → Int32) (J : Nat → Nat → Int64) (R : Nat → Nat → Option Nat) (K : Option Value → tm_H → Prop) : tm_A d 179 280 ls (.int v :: .ref a :: st) (G, I, J, R) K ↔ ((G.2.2 a).1 = 1 ∧ tm_in v (G.2.2 a).2) ∧ tm_A d 179 281 ls (.int (I a (tm_ix v)) :: st) (G, I, J, R) K := tm_iald o179_280
set_option maxRecDepth 20000 in
theorem o179_281 : tm_op 179 281 = some (.invokevirtual 37, (2, 91, 2, 9)) := rfl
theorem r179_281 (d : Nat) (v1 : Int32) (a : Nat) (ls : tm_Lo) (st : List Value) (h : tm_H) (K : Option Value → tm_H → Prop) : tm_A (d + 1) 179 281 ls (.int v1 :: .ref a :: st) h K ↔ (h.1.2.2 a = (0, 9) ∧ tm_cs st) ∧ tm_R d 91 [.ref a, .int v1] h (fun r h' => tm_A (d + 1) 179 284 ls (r.toList ++ st) h' K) := tm_callV (as := [.int v1]) o179_281 rfl rfl rfl rfl
set_option maxRecDepth 20000 in
theorem o179_284 : tm_op 179 284 = some (.aload_n 2, (0, 0, 0, 0)) := rfl
theorem r179_284 (d : Nat) (v : Nat) (l0 l1 l3 : Option Value) (st : List Value) (h : tm_H) (K : Option Value → tm_H → Prop) : tm_A d 179 284 [l0, l1, some (.ref v), l3] st h K ↔ tm_A d 179 285 [l0, l1, some (.ref v), l3] (.ref v :: st) h K := tm_s o179_284 rfl rfl rfl
theorem r179_284n (d : Nat)  (l0 l1 l3 : Option Value) (st : List Value) (h : tm_H) (K : Option Value → tm_H → Prop) : tm_A d 179 284 [l0, l1, some .null, l3] st h K ↔ tm_A d 179 285 [l0, l1, some .null, l3] (.null :: st) h K := tm_s o179_284 rfl rfl rfl
set_option maxRecDepth 20000 in
theorem o179_285 : tm_op 179 285 = some (.aload_n 0, (0, 0, 0, 0)) := rfl
theorem r179_285 (d : Nat) (v : Nat) (l1 l2 l3 : Option Value) (st : List Value) (h : tm_H) (K : Option Value → tm_H → Prop) : tm_A d 179 285 [some (.ref v), l1, l2, l3] st h K ↔ tm_A d 179 286 [some (.ref v), l1, l2, l3] (.ref v :: st) h K := tm_s o179_285 rfl rfl rfl
set_option maxRecDepth 20000 in
theorem o179_286 : tm_op 179 286 = some (.iload_n 3, (0, 0, 0, 0)) := rfl
theorem r179_286 (d : Nat) (v : Int32) (l0 l1 l2 : Option Value) (st : List Value) (h : tm_H) (K : Option Value → tm_H → Prop) : tm_A d 179 286 [l0, l1, l2, some (.int v)] st h K ↔ tm_A d 179 287 [l0, l1, l2, some (.int v)] (.int v :: st) h K := tm_s o179_286 rfl rfl rfl
set_option maxRecDepth 20000 in
theorem o179_287 : tm_op 179 287 = some (.iconst 1, (0, 0, 0, 0)) := rfl
theorem r179_287 (d : Nat) (ls : tm_Lo) (st : List Value) (h : tm_H) (K : Option Value → tm_H → Prop) : tm_A d 179 287 ls st h K ↔ tm_A d 179 288 ls (.int (1 : Int32) :: st) h K := tm_ic o179_287 (by decide)
set_option maxRecDepth 20000 in
theorem o179_288 : tm_op 179 288 = some (.iadd, (0, 0, 0, 0)) := rfl
theorem r179_288 (d : Nat) (u v : Int32) (ls : tm_Lo) (st : List Value) (h : tm_H) (K : Option Value → tm_H → Prop) : tm_A d 179 288 ls (.int u :: .int v :: st) h K ↔ tm_A d 179 289 ls (.int (v + u) :: st) h K := tm_s o179_288 rfl rfl rfl
set_option maxRecDepth 20000 in
theorem o179_289 : tm_op 179 289 = some (.iaload, (0, 0, 0, 0)) := rfl
theorem r179_289 (d : Nat) (v : Int32) (a : Nat) (ls : tm_Lo) (st : List Value) (G : tm_G) (I : Nat → Nat → Int32) (J : Nat → Nat → Int64) (R : Nat → Nat → Option Nat) (K : Option Value → tm_H → Prop) : tm_A d 179 289 ls (.int v :: .ref a :: st) (G, I, J, R) K ↔ ((G.2.2 a).1 = 1 ∧ tm_in v (G.2.2 a).2) ∧ tm_A d 179 290 ls (.int (I a (tm_ix v)) :: st) (G, I, J, R) K := tm_iald o179_289
set_option maxRecDepth 20000 in
theorem o179_290 : tm_op 179 290 = some (.invokevirtual 40, (2, 135, 2, 10)) := rfl
theorem r179_290 (d : Nat) (v1 : Int32) (a : Nat) (ls : tm_Lo) (st : List Value) (h : tm_H) (K : Option Value → tm_H → Prop) : tm_A (d + 1) 179 290 ls (.int v1 :: .ref a :: st) h K ↔ (h.1.2.2 a = (0, 10) ∧ tm_cs st) ∧ tm_R d 135 [.ref a, .int v1] h (fun r h' => tm_A (d + 1) 179 293 ls (r.toList ++ st) h' K) := tm_callV (as := [.int v1]) o179_290 rfl rfl rfl rfl
set_option maxRecDepth 20000 in
theorem o179_293 : tm_op 179 293 = some (.if_icmp .eq 566, (0, 0, 0, 0)) := rfl
theorem r179_293 (d : Nat) (y x : Int32) (ls : tm_Lo) (st : List Value) (h : tm_H) (K : Option Value → tm_H → Prop) : tm_A d 179 293 ls (.int y :: .int x :: st) h K ↔ if x = y then tm_A d 179 859 ls st h K else tm_A d 179 296 ls st h K := tm_b o179_293 rfl rfl rfl rfl
set_option maxRecDepth 20000 in
theorem o179_296 : tm_op 179 296 = some (.iconst 0, (0, 0, 0, 0)) := rfl
theorem r179_296 (d : Nat) (ls : tm_Lo) (st : List Value) (h : tm_H) (K : Option Value → tm_H → Prop) : tm_A d 179 296 ls st h K ↔ tm_A d 179 297 ls (.int (0 : Int32) :: st) h K := tm_ic o179_296 (by decide)
set_option maxRecDepth 20000 in
theorem o179_297 : tm_op 179 297 = some (.ireturn, (0, 0, 0, 0)) := rfl
theorem r179_297 (d : Nat) (v : Int32) (ls : tm_Lo) (h : tm_H) (K : Option Value → tm_H → Prop) : tm_A d 179 297 ls [.int v] h K ↔ (v = 0 ∨ v = 1) ∧ K (some (.int v)) h := tm_retz o179_297 rfl
set_option maxRecDepth 20000 in
theorem o179_298 : tm_op 179 298 = some (.aload_n 1, (0, 0, 0, 0)) := rfl
theorem r179_298 (d : Nat) (v : Nat) (l0 l2 l3 : Option Value) (st : List Value) (h : tm_H) (K : Option Value → tm_H → Prop) : tm_A d 179 298 [l0, some (.ref v), l2, l3] st h K ↔ tm_A d 179 299 [l0, some (.ref v), l2, l3] (.ref v :: st) h K := tm_s o179_298 rfl rfl rfl
theorem r179_298n (d : Nat)  (l0 l2 l3 : Option Value) (st : List Value) (h : tm_H) (K : Option Value → tm_H → Prop) : tm_A d 179 298 [l0, some .null, l2, l3] st h K ↔ tm_A d 179 299 [l0, some .null, l2, l3] (.null :: st) h K := tm_s o179_298 rfl rfl rfl
set_option maxRecDepth 20000 in
theorem o179_299 : tm_op 179 299 = some (.aload_n 0, (0, 0, 0, 0)) := rfl
theorem r179_299 (d : Nat) (v : Nat) (l1 l2 l3 : Option Value) (st : List Value) (h : tm_H) (K : Option Value → tm_H → Prop) : tm_A d 179 299 [some (.ref v), l1, l2, l3] st h K ↔ tm_A d 179 300 [some (.ref v), l1, l2, l3] (.ref v :: st) h K := tm_s o179_299 rfl rfl rfl
set_option maxRecDepth 20000 in
theorem o179_300 : tm_op 179 300 = some (.iload_n 3, (0, 0, 0, 0)) := rfl
theorem r179_300 (d : Nat) (v : Int32) (l0 l1 l2 : Option Value) (st : List Value) (h : tm_H) (K : Option Value → tm_H → Prop) : tm_A d 179 300 [l0, l1, l2, some (.int v)] st h K ↔ tm_A d 179 301 [l0, l1, l2, some (.int v)] (.int v :: st) h K := tm_s o179_300 rfl rfl rfl
set_option maxRecDepth 20000 in
theorem o179_301 : tm_op 179 301 = some (.iconst 1, (0, 0, 0, 0)) := rfl
theorem r179_301 (d : Nat) (ls : tm_Lo) (st : List Value) (h : tm_H) (K : Option Value → tm_H → Prop) : tm_A d 179 301 ls st h K ↔ tm_A d 179 302 ls (.int (1 : Int32) :: st) h K := tm_ic o179_301 (by decide)
set_option maxRecDepth 20000 in
theorem o179_302 : tm_op 179 302 = some (.iadd, (0, 0, 0, 0)) := rfl
theorem r179_302 (d : Nat) (u v : Int32) (ls : tm_Lo) (st : List Value) (h : tm_H) (K : Option Value → tm_H → Prop) : tm_A d 179 302 ls (.int u :: .int v :: st) h K ↔ tm_A d 179 303 ls (.int (v + u) :: st) h K := tm_s o179_302 rfl rfl rfl
set_option maxRecDepth 20000 in
theorem o179_303 : tm_op 179 303 = some (.iaload, (0, 0, 0, 0)) := rfl
theorem r179_303 (d : Nat) (v : Int32) (a : Nat) (ls : tm_Lo) (st : List Value) (G : tm_G) (I : Nat → Nat → Int32) (J : Nat → Nat → Int64) (R : Nat → Nat → Option Nat) (K : Option Value → tm_H → Prop) : tm_A d 179 303 ls (.int v :: .ref a :: st) (G, I, J, R) K ↔ ((G.2.2 a).1 = 1 ∧ tm_in v (G.2.2 a).2) ∧ tm_A d 179 304 ls (.int (I a (tm_ix v)) :: st) (G, I, J, R) K := tm_iald o179_303
set_option maxRecDepth 20000 in
theorem o179_304 : tm_op 179 304 = some (.aload_n 0, (0, 0, 0, 0)) := rfl
theorem r179_304 (d : Nat) (v : Nat) (l1 l2 l3 : Option Value) (st : List Value) (h : tm_H) (K : Option Value → tm_H → Prop) : tm_A d 179 304 [some (.ref v), l1, l2, l3] st h K ↔ tm_A d 179 305 [some (.ref v), l1, l2, l3] (.ref v :: st) h K := tm_s o179_304 rfl rfl rfl
set_option maxRecDepth 20000 in
theorem o179_305 : tm_op 179 305 = some (.iload_n 3, (0, 0, 0, 0)) := rfl
theorem r179_305 (d : Nat) (v : Int32) (l0 l1 l2 : Option Value) (st : List Value) (h : tm_H) (K : Option Value → tm_H → Prop) : tm_A d 179 305 [l0, l1, l2, some (.int v)] st h K ↔ tm_A d 179 306 [l0, l1, l2, some (.int v)] (.int v :: st) h K := tm_s o179_305 rfl rfl rfl
set_option maxRecDepth 20000 in
theorem o179_306 : tm_op 179 306 = some (.iconst 2, (0, 0, 0, 0)) := rfl
theorem r179_306 (d : Nat) (ls : tm_Lo) (st : List Value) (h : tm_H) (K : Option Value → tm_H → Prop) : tm_A d 179 306 ls st h K ↔ tm_A d 179 307 ls (.int (2 : Int32) :: st) h K := tm_ic o179_306 (by decide)
set_option maxRecDepth 20000 in
theorem o179_307 : tm_op 179 307 = some (.iadd, (0, 0, 0, 0)) := rfl
theorem r179_307 (d : Nat) (u v : Int32) (ls : tm_Lo) (st : List Value) (h : tm_H) (K : Option Value → tm_H → Prop) : tm_A d 179 307 ls (.int u :: .int v :: st) h K ↔ tm_A d 179 308 ls (.int (v + u) :: st) h K := tm_s o179_307 rfl rfl rfl
set_option maxRecDepth 20000 in
theorem o179_308 : tm_op 179 308 = some (.iaload, (0, 0, 0, 0)) := rfl
theorem r179_308 (d : Nat) (v : Int32) (a : Nat) (ls : tm_Lo) (st : List Value) (G : tm_G) (I : Nat → Nat → Int32) (J : Nat → Nat → Int64) (R : Nat → Nat → Option Nat) (K : Option Value → tm_H → Prop) : tm_A d 179 308 ls (.int v :: .ref a :: st) (G, I, J, R) K ↔ ((G.2.2 a).1 = 1 ∧ tm_in v (G.2.2 a).2) ∧ tm_A d 179 309 ls (.int (I a (tm_ix v)) :: st) (G, I, J, R) K := tm_iald o179_308
set_option maxRecDepth 20000 in
theorem o179_309 : tm_op 179 309 = some (.invokevirtual 41, (2, 92, 3, 9)) := rfl
theorem r179_309 (d : Nat) (v1 : Int32) (v2 : Int32) (a : Nat) (ls : tm_Lo) (st : List Value) (h : tm_H) (K : Option Value → tm_H → Prop) : tm_A (d + 1) 179 309 ls (.int v2 :: .int v1 :: .ref a :: st) h K ↔ (h.1.2.2 a = (0, 9) ∧ tm_cs st) ∧ tm_R d 92 [.ref a, .int v1, .int v2] h (fun r h' => tm_A (d + 1) 179 312 ls (r.toList ++ st) h' K) := tm_callV (as := [.int v1, .int v2]) o179_309 rfl rfl rfl rfl
set_option maxRecDepth 20000 in
theorem o179_312 : tm_op 179 312 = some (.aload_n 2, (0, 0, 0, 0)) := rfl
theorem r179_312 (d : Nat) (v : Nat) (l0 l1 l3 : Option Value) (st : List Value) (h : tm_H) (K : Option Value → tm_H → Prop) : tm_A d 179 312 [l0, l1, some (.ref v), l3] st h K ↔ tm_A d 179 313 [l0, l1, some (.ref v), l3] (.ref v :: st) h K := tm_s o179_312 rfl rfl rfl
theorem r179_312n (d : Nat)  (l0 l1 l3 : Option Value) (st : List Value) (h : tm_H) (K : Option Value → tm_H → Prop) : tm_A d 179 312 [l0, l1, some .null, l3] st h K ↔ tm_A d 179 313 [l0, l1, some .null, l3] (.null :: st) h K := tm_s o179_312 rfl rfl rfl
set_option maxRecDepth 20000 in
theorem o179_313 : tm_op 179 313 = some (.aload_n 0, (0, 0, 0, 0)) := rfl
theorem r179_313 (d : Nat) (v : Nat) (l1 l2 l3 : Option Value) (st : List Value) (h : tm_H) (K : Option Value → tm_H → Prop) : tm_A d 179 313 [some (.ref v), l1, l2, l3] st h K ↔ tm_A d 179 314 [some (.ref v), l1, l2, l3] (.ref v :: st) h K := tm_s o179_313 rfl rfl rfl
set_option maxRecDepth 20000 in
theorem o179_314 : tm_op 179 314 = some (.iload_n 3, (0, 0, 0, 0)) := rfl
theorem r179_314 (d : Nat) (v : Int32) (l0 l1 l2 : Option Value) (st : List Value) (h : tm_H) (K : Option Value → tm_H → Prop) : tm_A d 179 314 [l0, l1, l2, some (.int v)] st h K ↔ tm_A d 179 315 [l0, l1, l2, some (.int v)] (.int v :: st) h K := tm_s o179_314 rfl rfl rfl
set_option maxRecDepth 20000 in
theorem o179_315 : tm_op 179 315 = some (.iconst 1, (0, 0, 0, 0)) := rfl
theorem r179_315 (d : Nat) (ls : tm_Lo) (st : List Value) (h : tm_H) (K : Option Value → tm_H → Prop) : tm_A d 179 315 ls st h K ↔ tm_A d 179 316 ls (.int (1 : Int32) :: st) h K := tm_ic o179_315 (by decide)
set_option maxRecDepth 20000 in
theorem o179_316 : tm_op 179 316 = some (.iadd, (0, 0, 0, 0)) := rfl
theorem r179_316 (d : Nat) (u v : Int32) (ls : tm_Lo) (st : List Value) (h : tm_H) (K : Option Value → tm_H → Prop) : tm_A d 179 316 ls (.int u :: .int v :: st) h K ↔ tm_A d 179 317 ls (.int (v + u) :: st) h K := tm_s o179_316 rfl rfl rfl
set_option maxRecDepth 20000 in
theorem o179_317 : tm_op 179 317 = some (.iaload, (0, 0, 0, 0)) := rfl
theorem r179_317 (d : Nat) (v : Int32) (a : Nat) (ls : tm_Lo) (st : List Value) (G : tm_G) (I : Nat → Nat → Int32) (J : Nat → Nat → Int64) (R : Nat → Nat → Option Nat) (K : Option Value → tm_H → Prop) : tm_A d 179 317 ls (.int v :: .ref a :: st) (G, I, J, R) K ↔ ((G.2.2 a).1 = 1 ∧ tm_in v (G.2.2 a).2) ∧ tm_A d 179 318 ls (.int (I a (tm_ix v)) :: st) (G, I, J, R) K := tm_iald o179_317
set_option maxRecDepth 20000 in
theorem o179_318 : tm_op 179 318 = some (.aload_n 0, (0, 0, 0, 0)) := rfl
theorem r179_318 (d : Nat) (v : Nat) (l1 l2 l3 : Option Value) (st : List Value) (h : tm_H) (K : Option Value → tm_H → Prop) : tm_A d 179 318 [some (.ref v), l1, l2, l3] st h K ↔ tm_A d 179 319 [some (.ref v), l1, l2, l3] (.ref v :: st) h K := tm_s o179_318 rfl rfl rfl
set_option maxRecDepth 20000 in
theorem o179_319 : tm_op 179 319 = some (.iload_n 3, (0, 0, 0, 0)) := rfl
theorem r179_319 (d : Nat) (v : Int32) (l0 l1 l2 : Option Value) (st : List Value) (h : tm_H) (K : Option Value → tm_H → Prop) : tm_A d 179 319 [l0, l1, l2, some (.int v)] st h K ↔ tm_A d 179 320 [l0, l1, l2, some (.int v)] (.int v :: st) h K := tm_s o179_319 rfl rfl rfl
set_option maxRecDepth 20000 in
theorem o179_320 : tm_op 179 320 = some (.iconst 2, (0, 0, 0, 0)) := rfl
theorem r179_320 (d : Nat) (ls : tm_Lo) (st : List Value) (h : tm_H) (K : Option Value → tm_H → Prop) : tm_A d 179 320 ls st h K ↔ tm_A d 179 321 ls (.int (2 : Int32) :: st) h K := tm_ic o179_320 (by decide)
set_option maxRecDepth 20000 in
theorem o179_321 : tm_op 179 321 = some (.iadd, (0, 0, 0, 0)) := rfl
theorem r179_321 (d : Nat) (u v : Int32) (ls : tm_Lo) (st : List Value) (h : tm_H) (K : Option Value → tm_H → Prop) : tm_A d 179 321 ls (.int u :: .int v :: st) h K ↔ tm_A d 179 322 ls (.int (v + u) :: st) h K := tm_s o179_321 rfl rfl rfl
set_option maxRecDepth 20000 in
theorem o179_322 : tm_op 179 322 = some (.iaload, (0, 0, 0, 0)) := rfl
theorem r179_322 (d : Nat) (v : Int32) (a : Nat) (ls : tm_Lo) (st : List Value) (G : tm_G) (I : Nat → Nat → Int32) (J : Nat → Nat → Int64) (R : Nat → Nat → Option Nat) (K : Option Value → tm_H → Prop) : tm_A d 179 322 ls (.int v :: .ref a :: st) (G, I, J, R) K ↔ ((G.2.2 a).1 = 1 ∧ tm_in v (G.2.2 a).2) ∧ tm_A d 179 323 ls (.int (I a (tm_ix v)) :: st) (G, I, J, R) K := tm_iald o179_322
set_option maxRecDepth 20000 in
theorem o179_323 : tm_op 179 323 = some (.invokevirtual 45, (2, 136, 3, 10)) := rfl
theorem r179_323 (d : Nat) (v1 : Int32) (v2 : Int32) (a : Nat) (ls : tm_Lo) (st : List Value) (h : tm_H) (K : Option Value → tm_H → Prop) : tm_A (d + 1) 179 323 ls (.int v2 :: .int v1 :: .ref a :: st) h K ↔ (h.1.2.2 a = (0, 10) ∧ tm_cs st) ∧ tm_R d 136 [.ref a, .int v1, .int v2] h (fun r h' => tm_A (d + 1) 179 326 ls (r.toList ++ st) h' K) := tm_callV (as := [.int v1, .int v2]) o179_323 rfl rfl rfl rfl
set_option maxRecDepth 20000 in
theorem o179_326 : tm_op 179 326 = some (.if_icmp .eq 533, (0, 0, 0, 0)) := rfl
theorem r179_326 (d : Nat) (y x : Int32) (ls : tm_Lo) (st : List Value) (h : tm_H) (K : Option Value → tm_H → Prop) : tm_A d 179 326 ls (.int y :: .int x :: st) h K ↔ if x = y then tm_A d 179 859 ls st h K else tm_A d 179 329 ls st h K := tm_b o179_326 rfl rfl rfl rfl
set_option maxRecDepth 20000 in
theorem o179_329 : tm_op 179 329 = some (.iconst 0, (0, 0, 0, 0)) := rfl
theorem r179_329 (d : Nat) (ls : tm_Lo) (st : List Value) (h : tm_H) (K : Option Value → tm_H → Prop) : tm_A d 179 329 ls st h K ↔ tm_A d 179 330 ls (.int (0 : Int32) :: st) h K := tm_ic o179_329 (by decide)
set_option maxRecDepth 20000 in
theorem o179_330 : tm_op 179 330 = some (.ireturn, (0, 0, 0, 0)) := rfl
theorem r179_330 (d : Nat) (v : Int32) (ls : tm_Lo) (h : tm_H) (K : Option Value → tm_H → Prop) : tm_A d 179 330 ls [.int v] h K ↔ (v = 0 ∨ v = 1) ∧ K (some (.int v)) h := tm_retz o179_330 rfl
set_option maxRecDepth 20000 in
theorem o179_331 : tm_op 179 331 = some (.aload_n 1, (0, 0, 0, 0)) := rfl
theorem r179_331 (d : Nat) (v : Nat) (l0 l2 l3 : Option Value) (st : List Value) (h : tm_H) (K : Option Value → tm_H → Prop) : tm_A d 179 331 [l0, some (.ref v), l2, l3] st h K ↔ tm_A d 179 332 [l0, some (.ref v), l2, l3] (.ref v :: st) h K := tm_s o179_331 rfl rfl rfl
theorem r179_331n (d : Nat)  (l0 l2 l3 : Option Value) (st : List Value) (h : tm_H) (K : Option Value → tm_H → Prop) : tm_A d 179 331 [l0, some .null, l2, l3] st h K ↔ tm_A d 179 332 [l0, some .null, l2, l3] (.null :: st) h K := tm_s o179_331 rfl rfl rfl
set_option maxRecDepth 20000 in
theorem o179_332 : tm_op 179 332 = some (.aload_n 0, (0, 0, 0, 0)) := rfl
theorem r179_332 (d : Nat) (v : Nat) (l1 l2 l3 : Option Value) (st : List Value) (h : tm_H) (K : Option Value → tm_H → Prop) : tm_A d 179 332 [some (.ref v), l1, l2, l3] st h K ↔ tm_A d 179 333 [some (.ref v), l1, l2, l3] (.ref v :: st) h K := tm_s o179_332 rfl rfl rfl
set_option maxRecDepth 20000 in
theorem o179_333 : tm_op 179 333 = some (.iload_n 3, (0, 0, 0, 0)) := rfl
theorem r179_333 (d : Nat) (v : Int32) (l0 l1 l2 : Option Value) (st : List Value) (h : tm_H) (K : Option Value → tm_H → Prop) : tm_A d 179 333 [l0, l1, l2, some (.int v)] st h K ↔ tm_A d 179 334 [l0, l1, l2, some (.int v)] (.int v :: st) h K := tm_s o179_333 rfl rfl rfl
set_option maxRecDepth 20000 in
theorem o179_334 : tm_op 179 334 = some (.iconst 1, (0, 0, 0, 0)) := rfl
theorem r179_334 (d : Nat) (ls : tm_Lo) (st : List Value) (h : tm_H) (K : Option Value → tm_H → Prop) : tm_A d 179 334 ls st h K ↔ tm_A d 179 335 ls (.int (1 : Int32) :: st) h K := tm_ic o179_334 (by decide)
set_option maxRecDepth 20000 in
theorem o179_335 : tm_op 179 335 = some (.iadd, (0, 0, 0, 0)) := rfl
theorem r179_335 (d : Nat) (u v : Int32) (ls : tm_Lo) (st : List Value) (h : tm_H) (K : Option Value → tm_H → Prop) : tm_A d 179 335 ls (.int u :: .int v :: st) h K ↔ tm_A d 179 336 ls (.int (v + u) :: st) h K := tm_s o179_335 rfl rfl rfl
set_option maxRecDepth 20000 in
theorem o179_336 : tm_op 179 336 = some (.iaload, (0, 0, 0, 0)) := rfl
theorem r179_336 (d : Nat) (v : Int32) (a : Nat) (ls : tm_Lo) (st : List Value) (G : tm_G) (I : Nat → Nat → Int32) (J : Nat → Nat → Int64) (R : Nat → Nat → Option Nat) (K : Option Value → tm_H → Prop) : tm_A d 179 336 ls (.int v :: .ref a :: st) (G, I, J, R) K ↔ ((G.2.2 a).1 = 1 ∧ tm_in v (G.2.2 a).2) ∧ tm_A d 179 337 ls (.int (I a (tm_ix v)) :: st) (G, I, J, R) K := tm_iald o179_336
set_option maxRecDepth 20000 in
theorem o179_337 : tm_op 179 337 = some (.aload_n 0, (0, 0, 0, 0)) := rfl
theorem r179_337 (d : Nat) (v : Nat) (l1 l2 l3 : Option Value) (st : List Value) (h : tm_H) (K : Option Value → tm_H → Prop) : tm_A d 179 337 [some (.ref v), l1, l2, l3] st h K ↔ tm_A d 179 338 [some (.ref v), l1, l2, l3] (.ref v :: st) h K := tm_s o179_337 rfl rfl rfl
set_option maxRecDepth 20000 in
theorem o179_338 : tm_op 179 338 = some (.iload_n 3, (0, 0, 0, 0)) := rfl
theorem r179_338 (d : Nat) (v : Int32) (l0 l1 l2 : Option Value) (st : List Value) (h : tm_H) (K : Option Value → tm_H → Prop) : tm_A d 179 338 [l0, l1, l2, some (.int v)] st h K ↔ tm_A d 179 339 [l0, l1, l2, some (.int v)] (.int v :: st) h K := tm_s o179_338 rfl rfl rfl
set_option maxRecDepth 20000 in
theorem o179_339 : tm_op 179 339 = some (.iconst 2, (0, 0, 0, 0)) := rfl
theorem r179_339 (d : Nat) (ls : tm_Lo) (st : List Value) (h : tm_H) (K : Option Value → tm_H → Prop) : tm_A d 179 339 ls st h K ↔ tm_A d 179 340 ls (.int (2 : Int32) :: st) h K := tm_ic o179_339 (by decide)
set_option maxRecDepth 20000 in
theorem o179_340 : tm_op 179 340 = some (.iadd, (0, 0, 0, 0)) := rfl
theorem r179_340 (d : Nat) (u v : Int32) (ls : tm_Lo) (st : List Value) (h : tm_H) (K : Option Value → tm_H → Prop) : tm_A d 179 340 ls (.int u :: .int v :: st) h K ↔ tm_A d 179 341 ls (.int (v + u) :: st) h K := tm_s o179_340 rfl rfl rfl
set_option maxRecDepth 20000 in
theorem o179_341 : tm_op 179 341 = some (.iaload, (0, 0, 0, 0)) := rfl
theorem r179_341 (d : Nat) (v : Int32) (a : Nat) (ls : tm_Lo) (st : List Value) (G : tm_G) (I : Nat → Nat → Int32) (J : Nat → Nat → Int64) (R : Nat → Nat → Option Nat) (K : Option Value → tm_H → Prop) : tm_A d 179 341 ls (.int v :: .ref a :: st) (G, I, J, R) K ↔ ((G.2.2 a).1 = 1 ∧ tm_in v (G.2.2 a).2) ∧ tm_A d 179 342 ls (.int (I a (tm_ix v)) :: st) (G, I, J, R) K := tm_iald o179_341
set_option maxRecDepth 20000 in
theorem o179_342 : tm_op 179 342 = some (.aload_n 0, (0, 0, 0, 0)) := rfl
theorem r179_342 (d : Nat) (v : Nat) (l1 l2 l3 : Option Value) (st : List Value) (h : tm_H) (K : Option Value → tm_H → Prop) : tm_A d 179 342 [some (.ref v), l1, l2, l3] st h K ↔ tm_A d 179 343 [some (.ref v), l1, l2, l3] (.ref v :: st) h K := tm_s o179_342 rfl rfl rfl
set_option maxRecDepth 20000 in
theorem o179_343 : tm_op 179 343 = some (.iload_n 3, (0, 0, 0, 0)) := rfl
theorem r179_343 (d : Nat) (v : Int32) (l0 l1 l2 : Option Value) (st : List Value) (h : tm_H) (K : Option Value → tm_H → Prop) : tm_A d 179 343 [l0, l1, l2, some (.int v)] st h K ↔ tm_A d 179 344 [l0, l1, l2, some (.int v)] (.int v :: st) h K := tm_s o179_343 rfl rfl rfl
set_option maxRecDepth 20000 in
theorem o179_344 : tm_op 179 344 = some (.iconst 3, (0, 0, 0, 0)) := rfl
theorem r179_344 (d : Nat) (ls : tm_Lo) (st : List Value) (h : tm_H) (K : Option Value → tm_H → Prop) : tm_A d 179 344 ls st h K ↔ tm_A d 179 345 ls (.int (3 : Int32) :: st) h K := tm_ic o179_344 (by decide)
set_option maxRecDepth 20000 in
theorem o179_345 : tm_op 179 345 = some (.iadd, (0, 0, 0, 0)) := rfl
theorem r179_345 (d : Nat) (u v : Int32) (ls : tm_Lo) (st : List Value) (h : tm_H) (K : Option Value → tm_H → Prop) : tm_A d 179 345 ls (.int u :: .int v :: st) h K ↔ tm_A d 179 346 ls (.int (v + u) :: st) h K := tm_s o179_345 rfl rfl rfl
set_option maxRecDepth 20000 in
theorem o179_346 : tm_op 179 346 = some (.iaload, (0, 0, 0, 0)) := rfl
theorem r179_346 (d : Nat) (v : Int32) (a : Nat) (ls : tm_Lo) (st : List Value) (G : tm_G) (I : Nat → Nat → Int32) (J : Nat → Nat → Int64) (R : Nat → Nat → Option Nat) (K : Option Value → tm_H → Prop) : tm_A d 179 346 ls (.int v :: .ref a :: st) (G, I, J, R) K ↔ ((G.2.2 a).1 = 1 ∧ tm_in v (G.2.2 a).2) ∧ tm_A d 179 347 ls (.int (I a (tm_ix v)) :: st) (G, I, J, R) K := tm_iald o179_346
set_option maxRecDepth 20000 in
theorem o179_347 : tm_op 179 347 = some (.invokevirtual 46, (2, 93, 4, 9)) := rfl
theorem r179_347 (d : Nat) (v1 : Int32) (v2 : Int32) (v3 : Int32) (a : Nat) (ls : tm_Lo) (st : List Value) (h : tm_H) (K : Option Value → tm_H → Prop) : tm_A (d + 1) 179 347 ls (.int v3 :: .int v2 :: .int v1 :: .ref a :: st) h K ↔ (h.1.2.2 a = (0, 9) ∧ tm_cs st) ∧ tm_R d 93 [.ref a, .int v1, .int v2, .int v3] h (fun r h' => tm_A (d + 1) 179 350 ls (r.toList ++ st) h' K) := tm_callV (as := [.int v1, .int v2, .int v3]) o179_347 rfl rfl rfl rfl
set_option maxRecDepth 20000 in
theorem o179_350 : tm_op 179 350 = some (.aload_n 2, (0, 0, 0, 0)) := rfl
theorem r179_350 (d : Nat) (v : Nat) (l0 l1 l3 : Option Value) (st : List Value) (h : tm_H) (K : Option Value → tm_H → Prop) : tm_A d 179 350 [l0, l1, some (.ref v), l3] st h K ↔ tm_A d 179 351 [l0, l1, some (.ref v), l3] (.ref v :: st) h K := tm_s o179_350 rfl rfl rfl
theorem r179_350n (d : Nat)  (l0 l1 l3 : Option Value) (st : List Value) (h : tm_H) (K : Option Value → tm_H → Prop) : tm_A d 179 350 [l0, l1, some .null, l3] st h K ↔ tm_A d 179 351 [l0, l1, some .null, l3] (.null :: st) h K := tm_s o179_350 rfl rfl rfl
set_option maxRecDepth 20000 in
theorem o179_351 : tm_op 179 351 = some (.aload_n 0, (0, 0, 0, 0)) := rfl
theorem r179_351 (d : Nat) (v : Nat) (l1 l2 l3 : Option Value) (st : List Value) (h : tm_H) (K : Option Value → tm_H → Prop) : tm_A d 179 351 [some (.ref v), l1, l2, l3] st h K ↔ tm_A d 179 352 [some (.ref v), l1, l2, l3] (.ref v :: st) h K := tm_s o179_351 rfl rfl rfl
set_option maxRecDepth 20000 in
theorem o179_352 : tm_op 179 352 = some (.iload_n 3, (0, 0, 0, 0)) := rfl
theorem r179_352 (d : Nat) (v : Int32) (l0 l1 l2 : Option Value) (st : List Value) (h : tm_H) (K : Option Value → tm_H → Prop) : tm_A d 179 352 [l0, l1, l2, some (.int v)] st h K ↔ tm_A d 179 353 [l0, l1, l2, some (.int v)] (.int v :: st) h K := tm_s o179_352 rfl rfl rfl
set_option maxRecDepth 20000 in
theorem o179_353 : tm_op 179 353 = some (.iconst 1, (0, 0, 0, 0)) := rfl
theorem r179_353 (d : Nat) (ls : tm_Lo) (st : List Value) (h : tm_H) (K : Option Value → tm_H → Prop) : tm_A d 179 353 ls st h K ↔ tm_A d 179 354 ls (.int (1 : Int32) :: st) h K := tm_ic o179_353 (by decide)
set_option maxRecDepth 20000 in
theorem o179_354 : tm_op 179 354 = some (.iadd, (0, 0, 0, 0)) := rfl
theorem r179_354 (d : Nat) (u v : Int32) (ls : tm_Lo) (st : List Value) (h : tm_H) (K : Option Value → tm_H → Prop) : tm_A d 179 354 ls (.int u :: .int v :: st) h K ↔ tm_A d 179 355 ls (.int (v + u) :: st) h K := tm_s o179_354 rfl rfl rfl
set_option maxRecDepth 20000 in
theorem o179_355 : tm_op 179 355 = some (.iaload, (0, 0, 0, 0)) := rfl
theorem r179_355 (d : Nat) (v : Int32) (a : Nat) (ls : tm_Lo) (st : List Value) (G : tm_G) (I : Nat → Nat → Int32) (J : Nat → Nat → Int64) (R : Nat → Nat → Option Nat) (K : Option Value → tm_H → Prop) : tm_A d 179 355 ls (.int v :: .ref a :: st) (G, I, J, R) K ↔ ((G.2.2 a).1 = 1 ∧ tm_in v (G.2.2 a).2) ∧ tm_A d 179 356 ls (.int (I a (tm_ix v)) :: st) (G, I, J, R) K := tm_iald o179_355
set_option maxRecDepth 20000 in
theorem o179_356 : tm_op 179 356 = some (.aload_n 0, (0, 0, 0, 0)) := rfl
theorem r179_356 (d : Nat) (v : Nat) (l1 l2 l3 : Option Value) (st : List Value) (h : tm_H) (K : Option Value → tm_H → Prop) : tm_A d 179 356 [some (.ref v), l1, l2, l3] st h K ↔ tm_A d 179 357 [some (.ref v), l1, l2, l3] (.ref v :: st) h K := tm_s o179_356 rfl rfl rfl
set_option maxRecDepth 20000 in
theorem o179_357 : tm_op 179 357 = some (.iload_n 3, (0, 0, 0, 0)) := rfl
theorem r179_357 (d : Nat) (v : Int32) (l0 l1 l2 : Option Value) (st : List Value) (h : tm_H) (K : Option Value → tm_H → Prop) : tm_A d 179 357 [l0, l1, l2, some (.int v)] st h K ↔ tm_A d 179 358 [l0, l1, l2, some (.int v)] (.int v :: st) h K := tm_s o179_357 rfl rfl rfl
set_option maxRecDepth 20000 in
theorem o179_358 : tm_op 179 358 = some (.iconst 2, (0, 0, 0, 0)) := rfl
theorem r179_358 (d : Nat) (ls : tm_Lo) (st : List Value) (h : tm_H) (K : Option Value → tm_H → Prop) : tm_A d 179 358 ls st h K ↔ tm_A d 179 359 ls (.int (2 : Int32) :: st) h K := tm_ic o179_358 (by decide)
set_option maxRecDepth 20000 in
theorem o179_359 : tm_op 179 359 = some (.iadd, (0, 0, 0, 0)) := rfl
theorem r179_359 (d : Nat) (u v : Int32) (ls : tm_Lo) (st : List Value) (h : tm_H) (K : Option Value → tm_H → Prop) : tm_A d 179 359 ls (.int u :: .int v :: st) h K ↔ tm_A d 179 360 ls (.int (v + u) :: st) h K := tm_s o179_359 rfl rfl rfl
set_option maxRecDepth 20000 in
theorem o179_360 : tm_op 179 360 = some (.iaload, (0, 0, 0, 0)) := rfl
theorem r179_360 (d : Nat) (v : Int32) (a : Nat) (ls : tm_Lo) (st : List Value) (G : tm_G) (I : Nat → Nat → Int32) (J : Nat → Nat → Int64) (R : Nat → Nat → Option Nat) (K : Option Value → tm_H → Prop) : tm_A d 179 360 ls (.int v :: .ref a :: st) (G, I, J, R) K ↔ ((G.2.2 a).1 = 1 ∧ tm_in v (G.2.2 a).2) ∧ tm_A d 179 361 ls (.int (I a (tm_ix v)) :: st) (G, I, J, R) K := tm_iald o179_360
set_option maxRecDepth 20000 in
theorem o179_361 : tm_op 179 361 = some (.aload_n 0, (0, 0, 0, 0)) := rfl
theorem r179_361 (d : Nat) (v : Nat) (l1 l2 l3 : Option Value) (st : List Value) (h : tm_H) (K : Option Value → tm_H → Prop) : tm_A d 179 361 [some (.ref v), l1, l2, l3] st h K ↔ tm_A d 179 362 [some (.ref v), l1, l2, l3] (.ref v :: st) h K := tm_s o179_361 rfl rfl rfl
set_option maxRecDepth 20000 in
theorem o179_362 : tm_op 179 362 = some (.iload_n 3, (0, 0, 0, 0)) := rfl
theorem r179_362 (d : Nat) (v : Int32) (l0 l1 l2 : Option Value) (st : List Value) (h : tm_H) (K : Option Value → tm_H → Prop) : tm_A d 179 362 [l0, l1, l2, some (.int v)] st h K ↔ tm_A d 179 363 [l0, l1, l2, some (.int v)] (.int v :: st) h K := tm_s o179_362 rfl rfl rfl
set_option maxRecDepth 20000 in
theorem o179_363 : tm_op 179 363 = some (.iconst 3, (0, 0, 0, 0)) := rfl
theorem r179_363 (d : Nat) (ls : tm_Lo) (st : List Value) (h : tm_H) (K : Option Value → tm_H → Prop) : tm_A d 179 363 ls st h K ↔ tm_A d 179 364 ls (.int (3 : Int32) :: st) h K := tm_ic o179_363 (by decide)
set_option maxRecDepth 20000 in
theorem o179_364 : tm_op 179 364 = some (.iadd, (0, 0, 0, 0)) := rfl
theorem r179_364 (d : Nat) (u v : Int32) (ls : tm_Lo) (st : List Value) (h : tm_H) (K : Option Value → tm_H → Prop) : tm_A d 179 364 ls (.int u :: .int v :: st) h K ↔ tm_A d 179 365 ls (.int (v + u) :: st) h K := tm_s o179_364 rfl rfl rfl
set_option maxRecDepth 20000 in
theorem o179_365 : tm_op 179 365 = some (.iaload, (0, 0, 0, 0)) := rfl
theorem r179_365 (d : Nat) (v : Int32) (a : Nat) (ls : tm_Lo) (st : List Value) (G : tm_G) (I : Nat → Nat → Int32) (J : Nat → Nat → Int64) (R : Nat → Nat → Option Nat) (K : Option Value → tm_H → Prop) : tm_A d 179 365 ls (.int v :: .ref a :: st) (G, I, J, R) K ↔ ((G.2.2 a).1 = 1 ∧ tm_in v (G.2.2 a).2) ∧ tm_A d 179 366 ls (.int (I a (tm_ix v)) :: st) (G, I, J, R) K := tm_iald o179_365
set_option maxRecDepth 20000 in
theorem o179_366 : tm_op 179 366 = some (.invokevirtual 50, (2, 146, 4, 10)) := rfl
theorem r179_366 (d : Nat) (v1 : Int32) (v2 : Int32) (v3 : Int32) (a : Nat) (ls : tm_Lo) (st : List Value) (h : tm_H) (K : Option Value → tm_H → Prop) : tm_A (d + 1) 179 366 ls (.int v3 :: .int v2 :: .int v1 :: .ref a :: st) h K ↔ (h.1.2.2 a = (0, 10) ∧ tm_cs st) ∧ tm_R d 146 [.ref a, .int v1, .int v2, .int v3] h (fun r h' => tm_A (d + 1) 179 369 ls (r.toList ++ st) h' K) := tm_callV (as := [.int v1, .int v2, .int v3]) o179_366 rfl rfl rfl rfl
set_option maxRecDepth 20000 in
theorem o179_369 : tm_op 179 369 = some (.if_icmp .eq 490, (0, 0, 0, 0)) := rfl
theorem r179_369 (d : Nat) (y x : Int32) (ls : tm_Lo) (st : List Value) (h : tm_H) (K : Option Value → tm_H → Prop) : tm_A d 179 369 ls (.int y :: .int x :: st) h K ↔ if x = y then tm_A d 179 859 ls st h K else tm_A d 179 372 ls st h K := tm_b o179_369 rfl rfl rfl rfl
set_option maxRecDepth 20000 in
theorem o179_372 : tm_op 179 372 = some (.iconst 0, (0, 0, 0, 0)) := rfl
theorem r179_372 (d : Nat) (ls : tm_Lo) (st : List Value) (h : tm_H) (K : Option Value → tm_H → Prop) : tm_A d 179 372 ls st h K ↔ tm_A d 179 373 ls (.int (0 : Int32) :: st) h K := tm_ic o179_372 (by decide)
set_option maxRecDepth 20000 in
theorem o179_373 : tm_op 179 373 = some (.ireturn, (0, 0, 0, 0)) := rfl
theorem r179_373 (d : Nat) (v : Int32) (ls : tm_Lo) (h : tm_H) (K : Option Value → tm_H → Prop) : tm_A d 179 373 ls [.int v] h K ↔ (v = 0 ∨ v = 1) ∧ K (some (.int v)) h := tm_retz o179_373 rfl
set_option maxRecDepth 20000 in
theorem o179_374 : tm_op 179 374 = some (.aload_n 1, (0, 0, 0, 0)) := rfl
theorem r179_374 (d : Nat) (v : Nat) (l0 l2 l3 : Option Value) (st : List Value) (h : tm_H) (K : Option Value → tm_H → Prop) : tm_A d 179 374 [l0, some (.ref v), l2, l3] st h K ↔ tm_A d 179 375 [l0, some (.ref v), l2, l3] (.ref v :: st) h K := tm_s o179_374 rfl rfl rfl
theorem r179_374n (d : Nat)  (l0 l2 l3 : Option Value) (st : List Value) (h : tm_H) (K : Option Value → tm_H → Prop) : tm_A d 179 374 [l0, some .null, l2, l3] st h K ↔ tm_A d 179 375 [l0, some .null, l2, l3] (.null :: st) h K := tm_s o179_374 rfl rfl rfl
set_option maxRecDepth 20000 in
theorem o179_375 : tm_op 179 375 = some (.aload_n 0, (0, 0, 0, 0)) := rfl
theorem r179_375 (d : Nat) (v : Nat) (l1 l2 l3 : Option Value) (st : List Value) (h : tm_H) (K : Option Value → tm_H → Prop) : tm_A d 179 375 [some (.ref v), l1, l2, l3] st h K ↔ tm_A d 179 376 [some (.ref v), l1, l2, l3] (.ref v :: st) h K := tm_s o179_375 rfl rfl rfl
set_option maxRecDepth 20000 in
theorem o179_376 : tm_op 179 376 = some (.iload_n 3, (0, 0, 0, 0)) := rfl
theorem r179_376 (d : Nat) (v : Int32) (l0 l1 l2 : Option Value) (st : List Value) (h : tm_H) (K : Option Value → tm_H → Prop) : tm_A d 179 376 [l0, l1, l2, some (.int v)] st h K ↔ tm_A d 179 377 [l0, l1, l2, some (.int v)] (.int v :: st) h K := tm_s o179_376 rfl rfl rfl
set_option maxRecDepth 20000 in
theorem o179_377 : tm_op 179 377 = some (.iconst 1, (0, 0, 0, 0)) := rfl
theorem r179_377 (d : Nat) (ls : tm_Lo) (st : List Value) (h : tm_H) (K : Option Value → tm_H → Prop) : tm_A d 179 377 ls st h K ↔ tm_A d 179 378 ls (.int (1 : Int32) :: st) h K := tm_ic o179_377 (by decide)
set_option maxRecDepth 20000 in
theorem o179_378 : tm_op 179 378 = some (.iadd, (0, 0, 0, 0)) := rfl
theorem r179_378 (d : Nat) (u v : Int32) (ls : tm_Lo) (st : List Value) (h : tm_H) (K : Option Value → tm_H → Prop) : tm_A d 179 378 ls (.int u :: .int v :: st) h K ↔ tm_A d 179 379 ls (.int (v + u) :: st) h K := tm_s o179_378 rfl rfl rfl
set_option maxRecDepth 20000 in
theorem o179_379 : tm_op 179 379 = some (.iaload, (0, 0, 0, 0)) := rfl
theorem r179_379 (d : Nat) (v : Int32) (a : Nat) (ls : tm_Lo) (st : List Value) (G : tm_G) (I : Nat → Nat → Int32) (J : Nat → Nat → Int64) (R : Nat → Nat → Option Nat) (K : Option Value → tm_H → Prop) : tm_A d 179 379 ls (.int v :: .ref a :: st) (G, I, J, R) K ↔ ((G.2.2 a).1 = 1 ∧ tm_in v (G.2.2 a).2) ∧ tm_A d 179 380 ls (.int (I a (tm_ix v)) :: st) (G, I, J, R) K := tm_iald o179_379
set_option maxRecDepth 20000 in
theorem o179_380 : tm_op 179 380 = some (.invokevirtual 51, (2, 94, 2, 9)) := rfl
theorem r179_380 (d : Nat) (v1 : Int32) (a : Nat) (ls : tm_Lo) (st : List Value) (h : tm_H) (K : Option Value → tm_H → Prop) : tm_A (d + 1) 179 380 ls (.int v1 :: .ref a :: st) h K ↔ (h.1.2.2 a = (0, 9) ∧ tm_cs st) ∧ tm_R d 94 [.ref a, .int v1] h (fun r h' => tm_A (d + 1) 179 383 ls (r.toList ++ st) h' K) := tm_callV (as := [.int v1]) o179_380 rfl rfl rfl rfl
set_option maxRecDepth 20000 in
theorem o179_383 : tm_op 179 383 = some (.aload_n 2, (0, 0, 0, 0)) := rfl
theorem r179_383 (d : Nat) (v : Nat) (l0 l1 l3 : Option Value) (st : List Value) (h : tm_H) (K : Option Value → tm_H → Prop) : tm_A d 179 383 [l0, l1, some (.ref v), l3] st h K ↔ tm_A d 179 384 [l0, l1, some (.ref v), l3] (.ref v :: st) h K := tm_s o179_383 rfl rfl rfl
theorem r179_383n (d : Nat)  (l0 l1 l3 : Option Value) (st : List Value) (h : tm_H) (K : Option Value → tm_H → Prop) : tm_A d 179 383 [l0, l1, some .null, l3] st h K ↔ tm_A d 179 384 [l0, l1, some .null, l3] (.null :: st) h K := tm_s o179_383 rfl rfl rfl
set_option maxRecDepth 20000 in
theorem o179_384 : tm_op 179 384 = some (.aload_n 0, (0, 0, 0, 0)) := rfl
theorem r179_384 (d : Nat) (v : Nat) (l1 l2 l3 : Option Value) (st : List Value) (h : tm_H) (K : Option Value → tm_H → Prop) : tm_A d 179 384 [some (.ref v), l1, l2, l3] st h K ↔ tm_A d 179 385 [some (.ref v), l1, l2, l3] (.ref v :: st) h K := tm_s o179_384 rfl rfl rfl
set_option maxRecDepth 20000 in
theorem o179_385 : tm_op 179 385 = some (.iload_n 3, (0, 0, 0, 0)) := rfl
theorem r179_385 (d : Nat) (v : Int32) (l0 l1 l2 : Option Value) (st : List Value) (h : tm_H) (K : Option Value → tm_H → Prop) : tm_A d 179 385 [l0, l1, l2, some (.int v)] st h K ↔ tm_A d 179 386 [l0, l1, l2, some (.int v)] (.int v :: st) h K := tm_s o179_385 rfl rfl rfl
set_option maxRecDepth 20000 in
theorem o179_386 : tm_op 179 386 = some (.iconst 1, (0, 0, 0, 0)) := rfl
theorem r179_386 (d : Nat) (ls : tm_Lo) (st : List Value) (h : tm_H) (K : Option Value → tm_H → Prop) : tm_A d 179 386 ls st h K ↔ tm_A d 179 387 ls (.int (1 : Int32) :: st) h K := tm_ic o179_386 (by decide)
set_option maxRecDepth 20000 in
theorem o179_387 : tm_op 179 387 = some (.iadd, (0, 0, 0, 0)) := rfl
theorem r179_387 (d : Nat) (u v : Int32) (ls : tm_Lo) (st : List Value) (h : tm_H) (K : Option Value → tm_H → Prop) : tm_A d 179 387 ls (.int u :: .int v :: st) h K ↔ tm_A d 179 388 ls (.int (v + u) :: st) h K := tm_s o179_387 rfl rfl rfl
set_option maxRecDepth 20000 in
theorem o179_388 : tm_op 179 388 = some (.iaload, (0, 0, 0, 0)) := rfl
theorem r179_388 (d : Nat) (v : Int32) (a : Nat) (ls : tm_Lo) (st : List Value) (G : tm_G) (I : Nat → Nat → Int32) (J : Nat → Nat → Int64) (R : Nat → Nat → Option Nat) (K : Option Value → tm_H → Prop) : tm_A d 179 388 ls (.int v :: .ref a :: st) (G, I, J, R) K ↔ ((G.2.2 a).1 = 1 ∧ tm_in v (G.2.2 a).2) ∧ tm_A d 179 389 ls (.int (I a (tm_ix v)) :: st) (G, I, J, R) K := tm_iald o179_388
set_option maxRecDepth 20000 in
theorem o179_389 : tm_op 179 389 = some (.invokevirtual 54, (2, 147, 2, 10)) := rfl
theorem r179_389 (d : Nat) (v1 : Int32) (a : Nat) (ls : tm_Lo) (st : List Value) (h : tm_H) (K : Option Value → tm_H → Prop) : tm_A (d + 1) 179 389 ls (.int v1 :: .ref a :: st) h K ↔ (h.1.2.2 a = (0, 10) ∧ tm_cs st) ∧ tm_R d 147 [.ref a, .int v1] h (fun r h' => tm_A (d + 1) 179 392 ls (r.toList ++ st) h' K) := tm_callV (as := [.int v1]) o179_389 rfl rfl rfl rfl
set_option maxRecDepth 20000 in
theorem o179_392 : tm_op 179 392 = some (.if_icmp .eq 467, (0, 0, 0, 0)) := rfl
theorem r179_392 (d : Nat) (y x : Int32) (ls : tm_Lo) (st : List Value) (h : tm_H) (K : Option Value → tm_H → Prop) : tm_A d 179 392 ls (.int y :: .int x :: st) h K ↔ if x = y then tm_A d 179 859 ls st h K else tm_A d 179 395 ls st h K := tm_b o179_392 rfl rfl rfl rfl
set_option maxRecDepth 20000 in
theorem o179_395 : tm_op 179 395 = some (.iconst 0, (0, 0, 0, 0)) := rfl
theorem r179_395 (d : Nat) (ls : tm_Lo) (st : List Value) (h : tm_H) (K : Option Value → tm_H → Prop) : tm_A d 179 395 ls st h K ↔ tm_A d 179 396 ls (.int (0 : Int32) :: st) h K := tm_ic o179_395 (by decide)
set_option maxRecDepth 20000 in
theorem o179_396 : tm_op 179 396 = some (.ireturn, (0, 0, 0, 0)) := rfl
theorem r179_396 (d : Nat) (v : Int32) (ls : tm_Lo) (h : tm_H) (K : Option Value → tm_H → Prop) : tm_A d 179 396 ls [.int v] h K ↔ (v = 0 ∨ v = 1) ∧ K (some (.int v)) h := tm_retz o179_396 rfl
set_option maxRecDepth 20000 in
theorem o179_397 : tm_op 179 397 = some (.aload_n 1, (0, 0, 0, 0)) := rfl
theorem r179_397 (d : Nat) (v : Nat) (l0 l2 l3 : Option Value) (st : List Value) (h : tm_H) (K : Option Value → tm_H → Prop) : tm_A d 179 397 [l0, some (.ref v), l2, l3] st h K ↔ tm_A d 179 398 [l0, some (.ref v), l2, l3] (.ref v :: st) h K := tm_s o179_397 rfl rfl rfl
theorem r179_397n (d : Nat)  (l0 l2 l3 : Option Value) (st : List Value) (h : tm_H) (K : Option Value → tm_H → Prop) : tm_A d 179 397 [l0, some .null, l2, l3] st h K ↔ tm_A d 179 398 [l0, some .null, l2, l3] (.null :: st) h K := tm_s o179_397 rfl rfl rfl
set_option maxRecDepth 20000 in
theorem o179_398 : tm_op 179 398 = some (.aload_n 0, (0, 0, 0, 0)) := rfl
theorem r179_398 (d : Nat) (v : Nat) (l1 l2 l3 : Option Value) (st : List Value) (h : tm_H) (K : Option Value → tm_H → Prop) : tm_A d 179 398 [some (.ref v), l1, l2, l3] st h K ↔ tm_A d 179 399 [some (.ref v), l1, l2, l3] (.ref v :: st) h K := tm_s o179_398 rfl rfl rfl
set_option maxRecDepth 20000 in
theorem o179_399 : tm_op 179 399 = some (.iload_n 3, (0, 0, 0, 0)) := rfl
theorem r179_399 (d : Nat) (v : Int32) (l0 l1 l2 : Option Value) (st : List Value) (h : tm_H) (K : Option Value → tm_H → Prop) : tm_A d 179 399 [l0, l1, l2, some (.int v)] st h K ↔ tm_A d 179 400 [l0, l1, l2, some (.int v)] (.int v :: st) h K := tm_s o179_399 rfl rfl rfl
set_option maxRecDepth 20000 in
theorem o179_400 : tm_op 179 400 = some (.iconst 1, (0, 0, 0, 0)) := rfl
theorem r179_400 (d : Nat) (ls : tm_Lo) (st : List Value) (h : tm_H) (K : Option Value → tm_H → Prop) : tm_A d 179 400 ls st h K ↔ tm_A d 179 401 ls (.int (1 : Int32) :: st) h K := tm_ic o179_400 (by decide)
set_option maxRecDepth 20000 in
theorem o179_401 : tm_op 179 401 = some (.iadd, (0, 0, 0, 0)) := rfl
theorem r179_401 (d : Nat) (u v : Int32) (ls : tm_Lo) (st : List Value) (h : tm_H) (K : Option Value → tm_H → Prop) : tm_A d 179 401 ls (.int u :: .int v :: st) h K ↔ tm_A d 179 402 ls (.int (v + u) :: st) h K := tm_s o179_401 rfl rfl rfl
set_option maxRecDepth 20000 in
theorem o179_402 : tm_op 179 402 = some (.iaload, (0, 0, 0, 0)) := rfl
theorem r179_402 (d : Nat) (v : Int32) (a : Nat) (ls : tm_Lo) (st : List Value) (G : tm_G) (I : Nat → Nat → Int32) (J : Nat → Nat → Int64) (R : Nat → Nat → Option Nat) (K : Option Value → tm_H → Prop) : tm_A d 179 402 ls (.int v :: .ref a :: st) (G, I, J, R) K ↔ ((G.2.2 a).1 = 1 ∧ tm_in v (G.2.2 a).2) ∧ tm_A d 179 403 ls (.int (I a (tm_ix v)) :: st) (G, I, J, R) K := tm_iald o179_402
set_option maxRecDepth 20000 in
theorem o179_403 : tm_op 179 403 = some (.invokevirtual 55, (2, 95, 2, 9)) := rfl
theorem r179_403 (d : Nat) (v1 : Int32) (a : Nat) (ls : tm_Lo) (st : List Value) (h : tm_H) (K : Option Value → tm_H → Prop) : tm_A (d + 1) 179 403 ls (.int v1 :: .ref a :: st) h K ↔ (h.1.2.2 a = (0, 9) ∧ tm_cs st) ∧ tm_R d 95 [.ref a, .int v1] h (fun r h' => tm_A (d + 1) 179 406 ls (r.toList ++ st) h' K) := tm_callV (as := [.int v1]) o179_403 rfl rfl rfl rfl
set_option maxRecDepth 20000 in
theorem o179_406 : tm_op 179 406 = some (.aload_n 2, (0, 0, 0, 0)) := rfl
theorem r179_406 (d : Nat) (v : Nat) (l0 l1 l3 : Option Value) (st : List Value) (h : tm_H) (K : Option Value → tm_H → Prop) : tm_A d 179 406 [l0, l1, some (.ref v), l3] st h K ↔ tm_A d 179 407 [l0, l1, some (.ref v), l3] (.ref v :: st) h K := tm_s o179_406 rfl rfl rfl
theorem r179_406n (d : Nat)  (l0 l1 l3 : Option Value) (st : List Value) (h : tm_H) (K : Option Value → tm_H → Prop) : tm_A d 179 406 [l0, l1, some .null, l3] st h K ↔ tm_A d 179 407 [l0, l1, some .null, l3] (.null :: st) h K := tm_s o179_406 rfl rfl rfl
set_option maxRecDepth 20000 in
theorem o179_407 : tm_op 179 407 = some (.aload_n 0, (0, 0, 0, 0)) := rfl
theorem r179_407 (d : Nat) (v : Nat) (l1 l2 l3 : Option Value) (st : List Value) (h : tm_H) (K : Option Value → tm_H → Prop) : tm_A d 179 407 [some (.ref v), l1, l2, l3] st h K ↔ tm_A d 179 408 [some (.ref v), l1, l2, l3] (.ref v :: st) h K := tm_s o179_407 rfl rfl rfl
set_option maxRecDepth 20000 in
theorem o179_408 : tm_op 179 408 = some (.iload_n 3, (0, 0, 0, 0)) := rfl
theorem r179_408 (d : Nat) (v : Int32) (l0 l1 l2 : Option Value) (st : List Value) (h : tm_H) (K : Option Value → tm_H → Prop) : tm_A d 179 408 [l0, l1, l2, some (.int v)] st h K ↔ tm_A d 179 409 [l0, l1, l2, some (.int v)] (.int v :: st) h K := tm_s o179_408 rfl rfl rfl
set_option maxRecDepth 20000 in
theorem o179_409 : tm_op 179 409 = some (.iconst 1, (0, 0, 0, 0)) := rfl
theorem r179_409 (d : Nat) (ls : tm_Lo) (st : List Value) (h : tm_H) (K : Option Value → tm_H → Prop) : tm_A d 179 409 ls st h K ↔ tm_A d 179 410 ls (.int (1 : Int32) :: st) h K := tm_ic o179_409 (by decide)
set_option maxRecDepth 20000 in
theorem o179_410 : tm_op 179 410 = some (.iadd, (0, 0, 0, 0)) := rfl
theorem r179_410 (d : Nat) (u v : Int32) (ls : tm_Lo) (st : List Value) (h : tm_H) (K : Option Value → tm_H → Prop) : tm_A d 179 410 ls (.int u :: .int v :: st) h K ↔ tm_A d 179 411 ls (.int (v + u) :: st) h K := tm_s o179_410 rfl rfl rfl
set_option maxRecDepth 20000 in
theorem o179_411 : tm_op 179 411 = some (.iaload, (0, 0, 0, 0)) := rfl
theorem r179_411 (d : Nat) (v : Int32) (a : Nat) (ls : tm_Lo) (st : List Value) (G : tm_G) (I : Nat → Nat → Int32) (J : Nat → Nat → Int64) (R : Nat → Nat → Option Nat) (K : Option Value → tm_H → Prop) : tm_A d 179 411 ls (.int v :: .ref a :: st) (G, I, J, R) K ↔ ((G.2.2 a).1 = 1 ∧ tm_in v (G.2.2 a).2) ∧ tm_A d 179 412 ls (.int (I a (tm_ix v)) :: st) (G, I, J, R) K := tm_iald o179_411
set_option maxRecDepth 20000 in
theorem o179_412 : tm_op 179 412 = some (.invokevirtual 58, (2, 148, 2, 10)) := rfl
theorem r179_412 (d : Nat) (v1 : Int32) (a : Nat) (ls : tm_Lo) (st : List Value) (h : tm_H) (K : Option Value → tm_H → Prop) : tm_A (d + 1) 179 412 ls (.int v1 :: .ref a :: st) h K ↔ (h.1.2.2 a = (0, 10) ∧ tm_cs st) ∧ tm_R d 148 [.ref a, .int v1] h (fun r h' => tm_A (d + 1) 179 415 ls (r.toList ++ st) h' K) := tm_callV (as := [.int v1]) o179_412 rfl rfl rfl rfl
set_option maxRecDepth 20000 in
theorem o179_415 : tm_op 179 415 = some (.if_icmp .eq 444, (0, 0, 0, 0)) := rfl
theorem r179_415 (d : Nat) (y x : Int32) (ls : tm_Lo) (st : List Value) (h : tm_H) (K : Option Value → tm_H → Prop) : tm_A d 179 415 ls (.int y :: .int x :: st) h K ↔ if x = y then tm_A d 179 859 ls st h K else tm_A d 179 418 ls st h K := tm_b o179_415 rfl rfl rfl rfl
set_option maxRecDepth 20000 in
theorem o179_418 : tm_op 179 418 = some (.iconst 0, (0, 0, 0, 0)) := rfl
theorem r179_418 (d : Nat) (ls : tm_Lo) (st : List Value) (h : tm_H) (K : Option Value → tm_H → Prop) : tm_A d 179 418 ls st h K ↔ tm_A d 179 419 ls (.int (0 : Int32) :: st) h K := tm_ic o179_418 (by decide)
set_option maxRecDepth 20000 in
theorem o179_419 : tm_op 179 419 = some (.ireturn, (0, 0, 0, 0)) := rfl
theorem r179_419 (d : Nat) (v : Int32) (ls : tm_Lo) (h : tm_H) (K : Option Value → tm_H → Prop) : tm_A d 179 419 ls [.int v] h K ↔ (v = 0 ∨ v = 1) ∧ K (some (.int v)) h := tm_retz o179_419 rfl
set_option maxRecDepth 20000 in
theorem o179_420 : tm_op 179 420 = some (.aload_n 1, (0, 0, 0, 0)) := rfl
theorem r179_420 (d : Nat) (v : Nat) (l0 l2 l3 : Option Value) (st : List Value) (h : tm_H) (K : Option Value → tm_H → Prop) : tm_A d 179 420 [l0, some (.ref v), l2, l3] st h K ↔ tm_A d 179 421 [l0, some (.ref v), l2, l3] (.ref v :: st) h K := tm_s o179_420 rfl rfl rfl
theorem r179_420n (d : Nat)  (l0 l2 l3 : Option Value) (st : List Value) (h : tm_H) (K : Option Value → tm_H → Prop) : tm_A d 179 420 [l0, some .null, l2, l3] st h K ↔ tm_A d 179 421 [l0, some .null, l2, l3] (.null :: st) h K := tm_s o179_420 rfl rfl rfl
set_option maxRecDepth 20000 in
theorem o179_421 : tm_op 179 421 = some (.aload_n 0, (0, 0, 0, 0)) := rfl
theorem r179_421 (d : Nat) (v : Nat) (l1 l2 l3 : Option Value) (st : List Value) (h : tm_H) (K : Option Value → tm_H → Prop) : tm_A d 179 421 [some (.ref v), l1, l2, l3] st h K ↔ tm_A d 179 422 [some (.ref v), l1, l2, l3] (.ref v :: st) h K := tm_s o179_421 rfl rfl rfl
set_option maxRecDepth 20000 in
theorem o179_422 : tm_op 179 422 = some (.iload_n 3, (0, 0, 0, 0)) := rfl
theorem r179_422 (d : Nat) (v : Int32) (l0 l1 l2 : Option Value) (st : List Value) (h : tm_H) (K : Option Value → tm_H → Prop) : tm_A d 179 422 [l0, l1, l2, some (.int v)] st h K ↔ tm_A d 179 423 [l0, l1, l2, some (.int v)] (.int v :: st) h K := tm_s o179_422 rfl rfl rfl
set_option maxRecDepth 20000 in
theorem o179_423 : tm_op 179 423 = some (.iconst 1, (0, 0, 0, 0)) := rfl
theorem r179_423 (d : Nat) (ls : tm_Lo) (st : List Value) (h : tm_H) (K : Option Value → tm_H → Prop) : tm_A d 179 423 ls st h K ↔ tm_A d 179 424 ls (.int (1 : Int32) :: st) h K := tm_ic o179_423 (by decide)
set_option maxRecDepth 20000 in
theorem o179_424 : tm_op 179 424 = some (.iadd, (0, 0, 0, 0)) := rfl
theorem r179_424 (d : Nat) (u v : Int32) (ls : tm_Lo) (st : List Value) (h : tm_H) (K : Option Value → tm_H → Prop) : tm_A d 179 424 ls (.int u :: .int v :: st) h K ↔ tm_A d 179 425 ls (.int (v + u) :: st) h K := tm_s o179_424 rfl rfl rfl
set_option maxRecDepth 20000 in
theorem o179_425 : tm_op 179 425 = some (.iaload, (0, 0, 0, 0)) := rfl
theorem r179_425 (d : Nat) (v : Int32) (a : Nat) (ls : tm_Lo) (st : List Value) (G : tm_G) (I : Nat → Nat → Int32) (J : Nat → Nat → Int64) (R : Nat → Nat → Option Nat) (K : Option Value → tm_H → Prop) : tm_A d 179 425 ls (.int v :: .ref a :: st) (G, I, J, R) K ↔ ((G.2.2 a).1 = 1 ∧ tm_in v (G.2.2 a).2) ∧ tm_A d 179 426 ls (.int (I a (tm_ix v)) :: st) (G, I, J, R) K := tm_iald o179_425
set_option maxRecDepth 20000 in
theorem o179_426 : tm_op 179 426 = some (.aload_n 0, (0, 0, 0, 0)) := rfl
theorem r179_426 (d : Nat) (v : Nat) (l1 l2 l3 : Option Value) (st : List Value) (h : tm_H) (K : Option Value → tm_H → Prop) : tm_A d 179 426 [some (.ref v), l1, l2, l3] st h K ↔ tm_A d 179 427 [some (.ref v), l1, l2, l3] (.ref v :: st) h K := tm_s o179_426 rfl rfl rfl
set_option maxRecDepth 20000 in
theorem o179_427 : tm_op 179 427 = some (.iload_n 3, (0, 0, 0, 0)) := rfl
theorem r179_427 (d : Nat) (v : Int32) (l0 l1 l2 : Option Value) (st : List Value) (h : tm_H) (K : Option Value → tm_H → Prop) : tm_A d 179 427 [l0, l1, l2, some (.int v)] st h K ↔ tm_A d 179 428 [l0, l1, l2, some (.int v)] (.int v :: st) h K := tm_s o179_427 rfl rfl rfl
set_option maxRecDepth 20000 in
theorem o179_428 : tm_op 179 428 = some (.iconst 2, (0, 0, 0, 0)) := rfl
theorem r179_428 (d : Nat) (ls : tm_Lo) (st : List Value) (h : tm_H) (K : Option Value → tm_H → Prop) : tm_A d 179 428 ls st h K ↔ tm_A d 179 429 ls (.int (2 : Int32) :: st) h K := tm_ic o179_428 (by decide)
set_option maxRecDepth 20000 in
theorem o179_429 : tm_op 179 429 = some (.iadd, (0, 0, 0, 0)) := rfl
theorem r179_429 (d : Nat) (u v : Int32) (ls : tm_Lo) (st : List Value) (h : tm_H) (K : Option Value → tm_H → Prop) : tm_A d 179 429 ls (.int u :: .int v :: st) h K ↔ tm_A d 179 430 ls (.int (v + u) :: st) h K := tm_s o179_429 rfl rfl rfl
set_option maxRecDepth 20000 in
theorem o179_430 : tm_op 179 430 = some (.iaload, (0, 0, 0, 0)) := rfl
theorem r179_430 (d : Nat) (v : Int32) (a : Nat) (ls : tm_Lo) (st : List Value) (G : tm_G) (I : Nat → Nat → Int32) (J : Nat → Nat → Int64) (R : Nat → Nat → Option Nat) (K : Option Value → tm_H → Prop) : tm_A d 179 430 ls (.int v :: .ref a :: st) (G, I, J, R) K ↔ ((G.2.2 a).1 = 1 ∧ tm_in v (G.2.2 a).2) ∧ tm_A d 179 431 ls (.int (I a (tm_ix v)) :: st) (G, I, J, R) K := tm_iald o179_430
set_option maxRecDepth 20000 in
theorem o179_431 : tm_op 179 431 = some (.aload_n 0, (0, 0, 0, 0)) := rfl
theorem r179_431 (d : Nat) (v : Nat) (l1 l2 l3 : Option Value) (st : List Value) (h : tm_H) (K : Option Value → tm_H → Prop) : tm_A d 179 431 [some (.ref v), l1, l2, l3] st h K ↔ tm_A d 179 432 [some (.ref v), l1, l2, l3] (.ref v :: st) h K := tm_s o179_431 rfl rfl rfl
set_option maxRecDepth 20000 in
theorem o179_432 : tm_op 179 432 = some (.iload_n 3, (0, 0, 0, 0)) := rfl
theorem r179_432 (d : Nat) (v : Int32) (l0 l1 l2 : Option Value) (st : List Value) (h : tm_H) (K : Option Value → tm_H → Prop) : tm_A d 179 432 [l0, l1, l2, some (.int v)] st h K ↔ tm_A d 179 433 [l0, l1, l2, some (.int v)] (.int v :: st) h K := tm_s o179_432 rfl rfl rfl
set_option maxRecDepth 20000 in
theorem o179_433 : tm_op 179 433 = some (.iconst 3, (0, 0, 0, 0)) := rfl
theorem r179_433 (d : Nat) (ls : tm_Lo) (st : List Value) (h : tm_H) (K : Option Value → tm_H → Prop) : tm_A d 179 433 ls st h K ↔ tm_A d 179 434 ls (.int (3 : Int32) :: st) h K := tm_ic o179_433 (by decide)
set_option maxRecDepth 20000 in
theorem o179_434 : tm_op 179 434 = some (.iadd, (0, 0, 0, 0)) := rfl
theorem r179_434 (d : Nat) (u v : Int32) (ls : tm_Lo) (st : List Value) (h : tm_H) (K : Option Value → tm_H → Prop) : tm_A d 179 434 ls (.int u :: .int v :: st) h K ↔ tm_A d 179 435 ls (.int (v + u) :: st) h K := tm_s o179_434 rfl rfl rfl
set_option maxRecDepth 20000 in
theorem o179_435 : tm_op 179 435 = some (.iaload, (0, 0, 0, 0)) := rfl
theorem r179_435 (d : Nat) (v : Int32) (a : Nat) (ls : tm_Lo) (st : List Value) (G : tm_G) (I : Nat → Nat → Int32) (J : Nat → Nat → Int64) (R : Nat → Nat → Option Nat) (K : Option Value → tm_H → Prop) : tm_A d 179 435 ls (.int v :: .ref a :: st) (G, I, J, R) K ↔ ((G.2.2 a).1 = 1 ∧ tm_in v (G.2.2 a).2) ∧ tm_A d 179 436 ls (.int (I a (tm_ix v)) :: st) (G, I, J, R) K := tm_iald o179_435
set_option maxRecDepth 20000 in
theorem o179_436 : tm_op 179 436 = some (.invokevirtual 59, (2, 96, 4, 9)) := rfl
theorem r179_436 (d : Nat) (v1 : Int32) (v2 : Int32) (v3 : Int32) (a : Nat) (ls : tm_Lo) (st : List Value) (h : tm_H) (K : Option Value → tm_H → Prop) : tm_A (d + 1) 179 436 ls (.int v3 :: .int v2 :: .int v1 :: .ref a :: st) h K ↔ (h.1.2.2 a = (0, 9) ∧ tm_cs st) ∧ tm_R d 96 [.ref a, .int v1, .int v2, .int v3] h (fun r h' => tm_A (d + 1) 179 439 ls (r.toList ++ st) h' K) := tm_callV (as := [.int v1, .int v2, .int v3]) o179_436 rfl rfl rfl rfl
set_option maxRecDepth 20000 in
theorem o179_439 : tm_op 179 439 = some (.aload_n 2, (0, 0, 0, 0)) := rfl
theorem r179_439 (d : Nat) (v : Nat) (l0 l1 l3 : Option Value) (st : List Value) (h : tm_H) (K : Option Value → tm_H → Prop) : tm_A d 179 439 [l0, l1, some (.ref v), l3] st h K ↔ tm_A d 179 440 [l0, l1, some (.ref v), l3] (.ref v :: st) h K := tm_s o179_439 rfl rfl rfl
theorem r179_439n (d : Nat)  (l0 l1 l3 : Option Value) (st : List Value) (h : tm_H) (K : Option Value → tm_H → Prop) : tm_A d 179 439 [l0, l1, some .null, l3] st h K ↔ tm_A d 179 440 [l0, l1, some .null, l3] (.null :: st) h K := tm_s o179_439 rfl rfl rfl
set_option maxRecDepth 20000 in
theorem o179_440 : tm_op 179 440 = some (.aload_n 0, (0, 0, 0, 0)) := rfl
theorem r179_440 (d : Nat) (v : Nat) (l1 l2 l3 : Option Value) (st : List Value) (h : tm_H) (K : Option Value → tm_H → Prop) : tm_A d 179 440 [some (.ref v), l1, l2, l3] st h K ↔ tm_A d 179 441 [some (.ref v), l1, l2, l3] (.ref v :: st) h K := tm_s o179_440 rfl rfl rfl
set_option maxRecDepth 20000 in
theorem o179_441 : tm_op 179 441 = some (.iload_n 3, (0, 0, 0, 0)) := rfl
theorem r179_441 (d : Nat) (v : Int32) (l0 l1 l2 : Option Value) (st : List Value) (h : tm_H) (K : Option Value → tm_H → Prop) : tm_A d 179 441 [l0, l1, l2, some (.int v)] st h K ↔ tm_A d 179 442 [l0, l1, l2, some (.int v)] (.int v :: st) h K := tm_s o179_441 rfl rfl rfl
set_option maxRecDepth 20000 in
theorem o179_442 : tm_op 179 442 = some (.iconst 1, (0, 0, 0, 0)) := rfl
theorem r179_442 (d : Nat) (ls : tm_Lo) (st : List Value) (h : tm_H) (K : Option Value → tm_H → Prop) : tm_A d 179 442 ls st h K ↔ tm_A d 179 443 ls (.int (1 : Int32) :: st) h K := tm_ic o179_442 (by decide)
set_option maxRecDepth 20000 in
theorem o179_443 : tm_op 179 443 = some (.iadd, (0, 0, 0, 0)) := rfl
theorem r179_443 (d : Nat) (u v : Int32) (ls : tm_Lo) (st : List Value) (h : tm_H) (K : Option Value → tm_H → Prop) : tm_A d 179 443 ls (.int u :: .int v :: st) h K ↔ tm_A d 179 444 ls (.int (v + u) :: st) h K := tm_s o179_443 rfl rfl rfl
set_option maxRecDepth 20000 in
theorem o179_444 : tm_op 179 444 = some (.iaload, (0, 0, 0, 0)) := rfl
theorem r179_444 (d : Nat) (v : Int32) (a : Nat) (ls : tm_Lo) (st : List Value) (G : tm_G) (I : Nat → Nat → Int32) (J : Nat → Nat → Int64) (R : Nat → Nat → Option Nat) (K : Option Value → tm_H → Prop) : tm_A d 179 444 ls (.int v :: .ref a :: st) (G, I, J, R) K ↔ ((G.2.2 a).1 = 1 ∧ tm_in v (G.2.2 a).2) ∧ tm_A d 179 445 ls (.int (I a (tm_ix v)) :: st) (G, I, J, R) K := tm_iald o179_444
set_option maxRecDepth 20000 in
theorem o179_445 : tm_op 179 445 = some (.aload_n 0, (0, 0, 0, 0)) := rfl
theorem r179_445 (d : Nat) (v : Nat) (l1 l2 l3 : Option Value) (st : List Value) (h : tm_H) (K : Option Value → tm_H → Prop) : tm_A d 179 445 [some (.ref v), l1, l2, l3] st h K ↔ tm_A d 179 446 [some (.ref v), l1, l2, l3] (.ref v :: st) h K := tm_s o179_445 rfl rfl rfl
set_option maxRecDepth 20000 in
theorem o179_446 : tm_op 179 446 = some (.iload_n 3, (0, 0, 0, 0)) := rfl
theorem r179_446 (d : Nat) (v : Int32) (l0 l1 l2 : Option Value) (st : List Value) (h : tm_H) (K : Option Value → tm_H → Prop) : tm_A d 179 446 [l0, l1, l2, some (.int v)] st h K ↔ tm_A d 179 447 [l0, l1, l2, some (.int v)] (.int v :: st) h K := tm_s o179_446 rfl rfl rfl
set_option maxRecDepth 20000 in
theorem o179_447 : tm_op 179 447 = some (.iconst 2, (0, 0, 0, 0)) := rfl
theorem r179_447 (d : Nat) (ls : tm_Lo) (st : List Value) (h : tm_H) (K : Option Value → tm_H → Prop) : tm_A d 179 447 ls st h K ↔ tm_A d 179 448 ls (.int (2 : Int32) :: st) h K := tm_ic o179_447 (by decide)
set_option maxRecDepth 20000 in
theorem o179_448 : tm_op 179 448 = some (.iadd, (0, 0, 0, 0)) := rfl
theorem r179_448 (d : Nat) (u v : Int32) (ls : tm_Lo) (st : List Value) (h : tm_H) (K : Option Value → tm_H → Prop) : tm_A d 179 448 ls (.int u :: .int v :: st) h K ↔ tm_A d 179 449 ls (.int (v + u) :: st) h K := tm_s o179_448 rfl rfl rfl
set_option maxRecDepth 20000 in
theorem o179_449 : tm_op 179 449 = some (.iaload, (0, 0, 0, 0)) := rfl
theorem r179_449 (d : Nat) (v : Int32) (a : Nat) (ls : tm_Lo) (st : List Value) (G : tm_G) (I : Nat → Nat → Int32) (J : Nat → Nat → Int64) (R : Nat → Nat → Option Nat) (K : Option Value → tm_H → Prop) : tm_A d 179 449 ls (.int v :: .ref a :: st) (G, I, J, R) K ↔ ((G.2.2 a).1 = 1 ∧ tm_in v (G.2.2 a).2) ∧ tm_A d 179 450 ls (.int (I a (tm_ix v)) :: st) (G, I, J, R) K := tm_iald o179_449
set_option maxRecDepth 20000 in
theorem o179_450 : tm_op 179 450 = some (.aload_n 0, (0, 0, 0, 0)) := rfl
theorem r179_450 (d : Nat) (v : Nat) (l1 l2 l3 : Option Value) (st : List Value) (h : tm_H) (K : Option Value → tm_H → Prop) : tm_A d 179 450 [some (.ref v), l1, l2, l3] st h K ↔ tm_A d 179 451 [some (.ref v), l1, l2, l3] (.ref v :: st) h K := tm_s o179_450 rfl rfl rfl
set_option maxRecDepth 20000 in
theorem o179_451 : tm_op 179 451 = some (.iload_n 3, (0, 0, 0, 0)) := rfl
theorem r179_451 (d : Nat) (v : Int32) (l0 l1 l2 : Option Value) (st : List Value) (h : tm_H) (K : Option Value → tm_H → Prop) : tm_A d 179 451 [l0, l1, l2, some (.int v)] st h K ↔ tm_A d 179 452 [l0, l1, l2, some (.int v)] (.int v :: st) h K := tm_s o179_451 rfl rfl rfl
set_option maxRecDepth 20000 in
theorem o179_452 : tm_op 179 452 = some (.iconst 3, (0, 0, 0, 0)) := rfl
theorem r179_452 (d : Nat) (ls : tm_Lo) (st : List Value) (h : tm_H) (K : Option Value → tm_H → Prop) : tm_A d 179 452 ls st h K ↔ tm_A d 179 453 ls (.int (3 : Int32) :: st) h K := tm_ic o179_452 (by decide)
set_option maxRecDepth 20000 in
theorem o179_453 : tm_op 179 453 = some (.iadd, (0, 0, 0, 0)) := rfl
theorem r179_453 (d : Nat) (u v : Int32) (ls : tm_Lo) (st : List Value) (h : tm_H) (K : Option Value → tm_H → Prop) : tm_A d 179 453 ls (.int u :: .int v :: st) h K ↔ tm_A d 179 454 ls (.int (v + u) :: st) h K := tm_s o179_453 rfl rfl rfl
set_option maxRecDepth 20000 in
theorem o179_454 : tm_op 179 454 = some (.iaload, (0, 0, 0, 0)) := rfl
theorem r179_454 (d : Nat) (v : Int32) (a : Nat) (ls : tm_Lo) (st : List Value) (G : tm_G) (I : Nat → Nat → Int32) (J : Nat → Nat → Int64) (R : Nat → Nat → Option Nat) (K : Option Value → tm_H → Prop) : tm_A d 179 454 ls (.int v :: .ref a :: st) (G, I, J, R) K ↔ ((G.2.2 a).1 = 1 ∧ tm_in v (G.2.2 a).2) ∧ tm_A d 179 455 ls (.int (I a (tm_ix v)) :: st) (G, I, J, R) K := tm_iald o179_454
set_option maxRecDepth 20000 in
theorem o179_455 : tm_op 179 455 = some (.invokevirtual 63, (2, 143, 4, 10)) := rfl
theorem r179_455 (d : Nat) (v1 : Int32) (v2 : Int32) (v3 : Int32) (a : Nat) (ls : tm_Lo) (st : List Value) (h : tm_H) (K : Option Value → tm_H → Prop) : tm_A (d + 1) 179 455 ls (.int v3 :: .int v2 :: .int v1 :: .ref a :: st) h K ↔ (h.1.2.2 a = (0, 10) ∧ tm_cs st) ∧ tm_R d 143 [.ref a, .int v1, .int v2, .int v3] h (fun r h' => tm_A (d + 1) 179 458 ls (r.toList ++ st) h' K) := tm_callV (as := [.int v1, .int v2, .int v3]) o179_455 rfl rfl rfl rfl
set_option maxRecDepth 20000 in
theorem o179_458 : tm_op 179 458 = some (.if_icmp .eq 401, (0, 0, 0, 0)) := rfl
theorem r179_458 (d : Nat) (y x : Int32) (ls : tm_Lo) (st : List Value) (h : tm_H) (K : Option Value → tm_H → Prop) : tm_A d 179 458 ls (.int y :: .int x :: st) h K ↔ if x = y then tm_A d 179 859 ls st h K else tm_A d 179 461 ls st h K := tm_b o179_458 rfl rfl rfl rfl
set_option maxRecDepth 20000 in
theorem o179_461 : tm_op 179 461 = some (.iconst 0, (0, 0, 0, 0)) := rfl
theorem r179_461 (d : Nat) (ls : tm_Lo) (st : List Value) (h : tm_H) (K : Option Value → tm_H → Prop) : tm_A d 179 461 ls st h K ↔ tm_A d 179 462 ls (.int (0 : Int32) :: st) h K := tm_ic o179_461 (by decide)
set_option maxRecDepth 20000 in
theorem o179_462 : tm_op 179 462 = some (.ireturn, (0, 0, 0, 0)) := rfl
theorem r179_462 (d : Nat) (v : Int32) (ls : tm_Lo) (h : tm_H) (K : Option Value → tm_H → Prop) : tm_A d 179 462 ls [.int v] h K ↔ (v = 0 ∨ v = 1) ∧ K (some (.int v)) h := tm_retz o179_462 rfl
set_option maxRecDepth 20000 in
theorem o179_463 : tm_op 179 463 = some (.aload_n 1, (0, 0, 0, 0)) := rfl
theorem r179_463 (d : Nat) (v : Nat) (l0 l2 l3 : Option Value) (st : List Value) (h : tm_H) (K : Option Value → tm_H → Prop) : tm_A d 179 463 [l0, some (.ref v), l2, l3] st h K ↔ tm_A d 179 464 [l0, some (.ref v), l2, l3] (.ref v :: st) h K := tm_s o179_463 rfl rfl rfl
theorem r179_463n (d : Nat)  (l0 l2 l3 : Option Value) (st : List Value) (h : tm_H) (K : Option Value → tm_H → Prop) : tm_A d 179 463 [l0, some .null, l2, l3] st h K ↔ tm_A d 179 464 [l0, some .null, l2, l3] (.null :: st) h K := tm_s o179_463 rfl rfl rfl
set_option maxRecDepth 20000 in
theorem o179_464 : tm_op 179 464 = some (.aload_n 0, (0, 0, 0, 0)) := rfl
theorem r179_464 (d : Nat) (v : Nat) (l1 l2 l3 : Option Value) (st : List Value) (h : tm_H) (K : Option Value → tm_H → Prop) : tm_A d 179 464 [some (.ref v), l1, l2, l3] st h K ↔ tm_A d 179 465 [some (.ref v), l1, l2, l3] (.ref v :: st) h K := tm_s o179_464 rfl rfl rfl
set_option maxRecDepth 20000 in
theorem o179_465 : tm_op 179 465 = some (.iload_n 3, (0, 0, 0, 0)) := rfl
theorem r179_465 (d : Nat) (v : Int32) (l0 l1 l2 : Option Value) (st : List Value) (h : tm_H) (K : Option Value → tm_H → Prop) : tm_A d 179 465 [l0, l1, l2, some (.int v)] st h K ↔ tm_A d 179 466 [l0, l1, l2, some (.int v)] (.int v :: st) h K := tm_s o179_465 rfl rfl rfl
set_option maxRecDepth 20000 in
theorem o179_466 : tm_op 179 466 = some (.iconst 1, (0, 0, 0, 0)) := rfl
theorem r179_466 (d : Nat) (ls : tm_Lo) (st : List Value) (h : tm_H) (K : Option Value → tm_H → Prop) : tm_A d 179 466 ls st h K ↔ tm_A d 179 467 ls (.int (1 : Int32) :: st) h K := tm_ic o179_466 (by decide)
set_option maxRecDepth 20000 in
theorem o179_467 : tm_op 179 467 = some (.iadd, (0, 0, 0, 0)) := rfl
theorem r179_467 (d : Nat) (u v : Int32) (ls : tm_Lo) (st : List Value) (h : tm_H) (K : Option Value → tm_H → Prop) : tm_A d 179 467 ls (.int u :: .int v :: st) h K ↔ tm_A d 179 468 ls (.int (v + u) :: st) h K := tm_s o179_467 rfl rfl rfl
set_option maxRecDepth 20000 in
theorem o179_468 : tm_op 179 468 = some (.iaload, (0, 0, 0, 0)) := rfl
theorem r179_468 (d : Nat) (v : Int32) (a : Nat) (ls : tm_Lo) (st : List Value) (G : tm_G) (I : Nat → Nat → Int32) (J : Nat → Nat → Int64) (R : Nat → Nat → Option Nat) (K : Option Value → tm_H → Prop) : tm_A d 179 468 ls (.int v :: .ref a :: st) (G, I, J, R) K ↔ ((G.2.2 a).1 = 1 ∧ tm_in v (G.2.2 a).2) ∧ tm_A d 179 469 ls (.int (I a (tm_ix v)) :: st) (G, I, J, R) K := tm_iald o179_468
set_option maxRecDepth 20000 in
theorem o179_469 : tm_op 179 469 = some (.aload_n 0, (0, 0, 0, 0)) := rfl
theorem r179_469 (d : Nat) (v : Nat) (l1 l2 l3 : Option Value) (st : List Value) (h : tm_H) (K : Option Value → tm_H → Prop) : tm_A d 179 469 [some (.ref v), l1, l2, l3] st h K ↔ tm_A d 179 470 [some (.ref v), l1, l2, l3] (.ref v :: st) h K := tm_s o179_469 rfl rfl rfl
set_option maxRecDepth 20000 in
theorem o179_470 : tm_op 179 470 = some (.iload_n 3, (0, 0, 0, 0)) := rfl
theorem r179_470 (d : Nat) (v : Int32) (l0 l1 l2 : Option Value) (st : List Value) (h : tm_H) (K : Option Value → tm_H → Prop) : tm_A d 179 470 [l0, l1, l2, some (.int v)] st h K ↔ tm_A d 179 471 [l0, l1, l2, some (.int v)] (.int v :: st) h K := tm_s o179_470 rfl rfl rfl
set_option maxRecDepth 20000 in
theorem o179_471 : tm_op 179 471 = some (.iconst 2, (0, 0, 0, 0)) := rfl
theorem r179_471 (d : Nat) (ls : tm_Lo) (st : List Value) (h : tm_H) (K : Option Value → tm_H → Prop) : tm_A d 179 471 ls st h K ↔ tm_A d 179 472 ls (.int (2 : Int32) :: st) h K := tm_ic o179_471 (by decide)
set_option maxRecDepth 20000 in
theorem o179_472 : tm_op 179 472 = some (.iadd, (0, 0, 0, 0)) := rfl
theorem r179_472 (d : Nat) (u v : Int32) (ls : tm_Lo) (st : List Value) (h : tm_H) (K : Option Value → tm_H → Prop) : tm_A d 179 472 ls (.int u :: .int v :: st) h K ↔ tm_A d 179 473 ls (.int (v + u) :: st) h K := tm_s o179_472 rfl rfl rfl
set_option maxRecDepth 20000 in
theorem o179_473 : tm_op 179 473 = some (.iaload, (0, 0, 0, 0)) := rfl
theorem r179_473 (d : Nat) (v : Int32) (a : Nat) (ls : tm_Lo) (st : List Value) (G : tm_G) (I : Nat → Nat → Int32) (J : Nat → Nat → Int64) (R : Nat → Nat → Option Nat) (K : Option Value → tm_H → Prop) : tm_A d 179 473 ls (.int v :: .ref a :: st) (G, I, J, R) K ↔ ((G.2.2 a).1 = 1 ∧ tm_in v (G.2.2 a).2) ∧ tm_A d 179 474 ls (.int (I a (tm_ix v)) :: st) (G, I, J, R) K := tm_iald o179_473
set_option maxRecDepth 20000 in
theorem o179_474 : tm_op 179 474 = some (.invokevirtual 64, (2, 97, 3, 9)) := rfl
theorem r179_474 (d : Nat) (v1 : Int32) (v2 : Int32) (a : Nat) (ls : tm_Lo) (st : List Value) (h : tm_H) (K : Option Value → tm_H → Prop) : tm_A (d + 1) 179 474 ls (.int v2 :: .int v1 :: .ref a :: st) h K ↔ (h.1.2.2 a = (0, 9) ∧ tm_cs st) ∧ tm_R d 97 [.ref a, .int v1, .int v2] h (fun r h' => tm_A (d + 1) 179 477 ls (r.toList ++ st) h' K) := tm_callV (as := [.int v1, .int v2]) o179_474 rfl rfl rfl rfl
set_option maxRecDepth 20000 in
theorem o179_477 : tm_op 179 477 = some (.aload_n 2, (0, 0, 0, 0)) := rfl
theorem r179_477 (d : Nat) (v : Nat) (l0 l1 l3 : Option Value) (st : List Value) (h : tm_H) (K : Option Value → tm_H → Prop) : tm_A d 179 477 [l0, l1, some (.ref v), l3] st h K ↔ tm_A d 179 478 [l0, l1, some (.ref v), l3] (.ref v :: st) h K := tm_s o179_477 rfl rfl rfl
theorem r179_477n (d : Nat)  (l0 l1 l3 : Option Value) (st : List Value) (h : tm_H) (K : Option Value → tm_H → Prop) : tm_A d 179 477 [l0, l1, some .null, l3] st h K ↔ tm_A d 179 478 [l0, l1, some .null, l3] (.null :: st) h K := tm_s o179_477 rfl rfl rfl
set_option maxRecDepth 20000 in
theorem o179_478 : tm_op 179 478 = some (.aload_n 0, (0, 0, 0, 0)) := rfl
theorem r179_478 (d : Nat) (v : Nat) (l1 l2 l3 : Option Value) (st : List Value) (h : tm_H) (K : Option Value → tm_H → Prop) : tm_A d 179 478 [some (.ref v), l1, l2, l3] st h K ↔ tm_A d 179 479 [some (.ref v), l1, l2, l3] (.ref v :: st) h K := tm_s o179_478 rfl rfl rfl
set_option maxRecDepth 20000 in
theorem o179_479 : tm_op 179 479 = some (.iload_n 3, (0, 0, 0, 0)) := rfl
theorem r179_479 (d : Nat) (v : Int32) (l0 l1 l2 : Option Value) (st : List Value) (h : tm_H) (K : Option Value → tm_H → Prop) : tm_A d 179 479 [l0, l1, l2, some (.int v)] st h K ↔ tm_A d 179 480 [l0, l1, l2, some (.int v)] (.int v :: st) h K := tm_s o179_479 rfl rfl rfl
set_option maxRecDepth 20000 in
theorem o179_480 : tm_op 179 480 = some (.iconst 1, (0, 0, 0, 0)) := rfl
theorem r179_480 (d : Nat) (ls : tm_Lo) (st : List Value) (h : tm_H) (K : Option Value → tm_H → Prop) : tm_A d 179 480 ls st h K ↔ tm_A d 179 481 ls (.int (1 : Int32) :: st) h K := tm_ic o179_480 (by decide)
set_option maxRecDepth 20000 in
theorem o179_481 : tm_op 179 481 = some (.iadd, (0, 0, 0, 0)) := rfl
theorem r179_481 (d : Nat) (u v : Int32) (ls : tm_Lo) (st : List Value) (h : tm_H) (K : Option Value → tm_H → Prop) : tm_A d 179 481 ls (.int u :: .int v :: st) h K ↔ tm_A d 179 482 ls (.int (v + u) :: st) h K := tm_s o179_481 rfl rfl rfl
set_option maxRecDepth 20000 in
theorem o179_482 : tm_op 179 482 = some (.iaload, (0, 0, 0, 0)) := rfl
theorem r179_482 (d : Nat) (v : Int32) (a : Nat) (ls : tm_Lo) (st : List Value) (G : tm_G) (I : Nat → Nat → Int32) (J : Nat → Nat → Int64) (R : Nat → Nat → Option Nat) (K : Option Value → tm_H → Prop) : tm_A d 179 482 ls (.int v :: .ref a :: st) (G, I, J, R) K ↔ ((G.2.2 a).1 = 1 ∧ tm_in v (G.2.2 a).2) ∧ tm_A d 179 483 ls (.int (I a (tm_ix v)) :: st) (G, I, J, R) K := tm_iald o179_482
set_option maxRecDepth 20000 in
theorem o179_483 : tm_op 179 483 = some (.aload_n 0, (0, 0, 0, 0)) := rfl
theorem r179_483 (d : Nat) (v : Nat) (l1 l2 l3 : Option Value) (st : List Value) (h : tm_H) (K : Option Value → tm_H → Prop) : tm_A d 179 483 [some (.ref v), l1, l2, l3] st h K ↔ tm_A d 179 484 [some (.ref v), l1, l2, l3] (.ref v :: st) h K := tm_s o179_483 rfl rfl rfl
set_option maxRecDepth 20000 in
theorem o179_484 : tm_op 179 484 = some (.iload_n 3, (0, 0, 0, 0)) := rfl
theorem r179_484 (d : Nat) (v : Int32) (l0 l1 l2 : Option Value) (st : List Value) (h : tm_H) (K : Option Value → tm_H → Prop) : tm_A d 179 484 [l0, l1, l2, some (.int v)] st h K ↔ tm_A d 179 485 [l0, l1, l2, some (.int v)] (.int v :: st) h K := tm_s o179_484 rfl rfl rfl
set_option maxRecDepth 20000 in
theorem o179_485 : tm_op 179 485 = some (.iconst 2, (0, 0, 0, 0)) := rfl
theorem r179_485 (d : Nat) (ls : tm_Lo) (st : List Value) (h : tm_H) (K : Option Value → tm_H → Prop) : tm_A d 179 485 ls st h K ↔ tm_A d 179 486 ls (.int (2 : Int32) :: st) h K := tm_ic o179_485 (by decide)
set_option maxRecDepth 20000 in
theorem o179_486 : tm_op 179 486 = some (.iadd, (0, 0, 0, 0)) := rfl
theorem r179_486 (d : Nat) (u v : Int32) (ls : tm_Lo) (st : List Value) (h : tm_H) (K : Option Value → tm_H → Prop) : tm_A d 179 486 ls (.int u :: .int v :: st) h K ↔ tm_A d 179 487 ls (.int (v + u) :: st) h K := tm_s o179_486 rfl rfl rfl
set_option maxRecDepth 20000 in
theorem o179_487 : tm_op 179 487 = some (.iaload, (0, 0, 0, 0)) := rfl
theorem r179_487 (d : Nat) (v : Int32) (a : Nat) (ls : tm_Lo) (st : List Value) (G : tm_G) (I : Nat → Nat → Int32) (J : Nat → Nat → Int64) (R : Nat → Nat → Option Nat) (K : Option Value → tm_H → Prop) : tm_A d 179 487 ls (.int v :: .ref a :: st) (G, I, J, R) K ↔ ((G.2.2 a).1 = 1 ∧ tm_in v (G.2.2 a).2) ∧ tm_A d 179 488 ls (.int (I a (tm_ix v)) :: st) (G, I, J, R) K := tm_iald o179_487
set_option maxRecDepth 20000 in
theorem o179_488 : tm_op 179 488 = some (.invokevirtual 68, (2, 144, 3, 10)) := rfl
theorem r179_488 (d : Nat) (v1 : Int32) (v2 : Int32) (a : Nat) (ls : tm_Lo) (st : List Value) (h : tm_H) (K : Option Value → tm_H → Prop) : tm_A (d + 1) 179 488 ls (.int v2 :: .int v1 :: .ref a :: st) h K ↔ (h.1.2.2 a = (0, 10) ∧ tm_cs st) ∧ tm_R d 144 [.ref a, .int v1, .int v2] h (fun r h' => tm_A (d + 1) 179 491 ls (r.toList ++ st) h' K) := tm_callV (as := [.int v1, .int v2]) o179_488 rfl rfl rfl rfl
set_option maxRecDepth 20000 in
theorem o179_491 : tm_op 179 491 = some (.if_icmp .eq 368, (0, 0, 0, 0)) := rfl
theorem r179_491 (d : Nat) (y x : Int32) (ls : tm_Lo) (st : List Value) (h : tm_H) (K : Option Value → tm_H → Prop) : tm_A d 179 491 ls (.int y :: .int x :: st) h K ↔ if x = y then tm_A d 179 859 ls st h K else tm_A d 179 494 ls st h K := tm_b o179_491 rfl rfl rfl rfl
set_option maxRecDepth 20000 in
theorem o179_494 : tm_op 179 494 = some (.iconst 0, (0, 0, 0, 0)) := rfl
theorem r179_494 (d : Nat) (ls : tm_Lo) (st : List Value) (h : tm_H) (K : Option Value → tm_H → Prop) : tm_A d 179 494 ls st h K ↔ tm_A d 179 495 ls (.int (0 : Int32) :: st) h K := tm_ic o179_494 (by decide)
set_option maxRecDepth 20000 in
theorem o179_495 : tm_op 179 495 = some (.ireturn, (0, 0, 0, 0)) := rfl
theorem r179_495 (d : Nat) (v : Int32) (ls : tm_Lo) (h : tm_H) (K : Option Value → tm_H → Prop) : tm_A d 179 495 ls [.int v] h K ↔ (v = 0 ∨ v = 1) ∧ K (some (.int v)) h := tm_retz o179_495 rfl
set_option maxRecDepth 20000 in
theorem o179_496 : tm_op 179 496 = some (.aload_n 1, (0, 0, 0, 0)) := rfl
theorem r179_496 (d : Nat) (v : Nat) (l0 l2 l3 : Option Value) (st : List Value) (h : tm_H) (K : Option Value → tm_H → Prop) : tm_A d 179 496 [l0, some (.ref v), l2, l3] st h K ↔ tm_A d 179 497 [l0, some (.ref v), l2, l3] (.ref v :: st) h K := tm_s o179_496 rfl rfl rfl
theorem r179_496n (d : Nat)  (l0 l2 l3 : Option Value) (st : List Value) (h : tm_H) (K : Option Value → tm_H → Prop) : tm_A d 179 496 [l0, some .null, l2, l3] st h K ↔ tm_A d 179 497 [l0, some .null, l2, l3] (.null :: st) h K := tm_s o179_496 rfl rfl rfl
set_option maxRecDepth 20000 in
theorem o179_497 : tm_op 179 497 = some (.aload_n 0, (0, 0, 0, 0)) := rfl
theorem r179_497 (d : Nat) (v : Nat) (l1 l2 l3 : Option Value) (st : List Value) (h : tm_H) (K : Option Value → tm_H → Prop) : tm_A d 179 497 [some (.ref v), l1, l2, l3] st h K ↔ tm_A d 179 498 [some (.ref v), l1, l2, l3] (.ref v :: st) h K := tm_s o179_497 rfl rfl rfl
set_option maxRecDepth 20000 in
theorem o179_498 : tm_op 179 498 = some (.iload_n 3, (0, 0, 0, 0)) := rfl
theorem r179_498 (d : Nat) (v : Int32) (l0 l1 l2 : Option Value) (st : List Value) (h : tm_H) (K : Option Value → tm_H → Prop) : tm_A d 179 498 [l0, l1, l2, some (.int v)] st h K ↔ tm_A d 179 499 [l0, l1, l2, some (.int v)] (.int v :: st) h K := tm_s o179_498 rfl rfl rfl
set_option maxRecDepth 20000 in
theorem o179_499 : tm_op 179 499 = some (.iconst 1, (0, 0, 0, 0)) := rfl
theorem r179_499 (d : Nat) (ls : tm_Lo) (st : List Value) (h : tm_H) (K : Option Value → tm_H → Prop) : tm_A d 179 499 ls st h K ↔ tm_A d 179 500 ls (.int (1 : Int32) :: st) h K := tm_ic o179_499 (by decide)
set_option maxRecDepth 20000 in
theorem o179_500 : tm_op 179 500 = some (.iadd, (0, 0, 0, 0)) := rfl
theorem r179_500 (d : Nat) (u v : Int32) (ls : tm_Lo) (st : List Value) (h : tm_H) (K : Option Value → tm_H → Prop) : tm_A d 179 500 ls (.int u :: .int v :: st) h K ↔ tm_A d 179 501 ls (.int (v + u) :: st) h K := tm_s o179_500 rfl rfl rfl
set_option maxRecDepth 20000 in
theorem o179_501 : tm_op 179 501 = some (.iaload, (0, 0, 0, 0)) := rfl
theorem r179_501 (d : Nat) (v : Int32) (a : Nat) (ls : tm_Lo) (st : List Value) (G : tm_G) (I : Nat → Nat → Int32) (J : Nat → Nat → Int64) (R : Nat → Nat → Option Nat) (K : Option Value → tm_H → Prop) : tm_A d 179 501 ls (.int v :: .ref a :: st) (G, I, J, R) K ↔ ((G.2.2 a).1 = 1 ∧ tm_in v (G.2.2 a).2) ∧ tm_A d 179 502 ls (.int (I a (tm_ix v)) :: st) (G, I, J, R) K := tm_iald o179_501
set_option maxRecDepth 20000 in
theorem o179_502 : tm_op 179 502 = some (.aload_n 0, (0, 0, 0, 0)) := rfl
theorem r179_502 (d : Nat) (v : Nat) (l1 l2 l3 : Option Value) (st : List Value) (h : tm_H) (K : Option Value → tm_H → Prop) : tm_A d 179 502 [some (.ref v), l1, l2, l3] st h K ↔ tm_A d 179 503 [some (.ref v), l1, l2, l3] (.ref v :: st) h K := tm_s o179_502 rfl rfl rfl
set_option maxRecDepth 20000 in
theorem o179_503 : tm_op 179 503 = some (.iload_n 3, (0, 0, 0, 0)) := rfl
theorem r179_503 (d : Nat) (v : Int32) (l0 l1 l2 : Option Value) (st : List Value) (h : tm_H) (K : Option Value → tm_H → Prop) : tm_A d 179 503 [l0, l1, l2, some (.int v)] st h K ↔ tm_A d 179 504 [l0, l1, l2, some (.int v)] (.int v :: st) h K := tm_s o179_503 rfl rfl rfl
set_option maxRecDepth 20000 in
theorem o179_504 : tm_op 179 504 = some (.iconst 2, (0, 0, 0, 0)) := rfl
theorem r179_504 (d : Nat) (ls : tm_Lo) (st : List Value) (h : tm_H) (K : Option Value → tm_H → Prop) : tm_A d 179 504 ls st h K ↔ tm_A d 179 505 ls (.int (2 : Int32) :: st) h K := tm_ic o179_504 (by decide)
set_option maxRecDepth 20000 in
theorem o179_505 : tm_op 179 505 = some (.iadd, (0, 0, 0, 0)) := rfl
theorem r179_505 (d : Nat) (u v : Int32) (ls : tm_Lo) (st : List Value) (h : tm_H) (K : Option Value → tm_H → Prop) : tm_A d 179 505 ls (.int u :: .int v :: st) h K ↔ tm_A d 179 506 ls (.int (v + u) :: st) h K := tm_s o179_505 rfl rfl rfl
set_option maxRecDepth 20000 in
theorem o179_506 : tm_op 179 506 = some (.iaload, (0, 0, 0, 0)) := rfl
theorem r179_506 (d : Nat) (v : Int32) (a : Nat) (ls : tm_Lo) (st : List Value) (G : tm_G) (I : Nat → Nat → Int32) (J : Nat → Nat → Int64) (R : Nat → Nat → Option Nat) (K : Option Value → tm_H → Prop) : tm_A d 179 506 ls (.int v :: .ref a :: st) (G, I, J, R) K ↔ ((G.2.2 a).1 = 1 ∧ tm_in v (G.2.2 a).2) ∧ tm_A d 179 507 ls (.int (I a (tm_ix v)) :: st) (G, I, J, R) K := tm_iald o179_506
set_option maxRecDepth 20000 in
theorem o179_507 : tm_op 179 507 = some (.aload_n 0, (0, 0, 0, 0)) := rfl
theorem r179_507 (d : Nat) (v : Nat) (l1 l2 l3 : Option Value) (st : List Value) (h : tm_H) (K : Option Value → tm_H → Prop) : tm_A d 179 507 [some (.ref v), l1, l2, l3] st h K ↔ tm_A d 179 508 [some (.ref v), l1, l2, l3] (.ref v :: st) h K := tm_s o179_507 rfl rfl rfl
set_option maxRecDepth 20000 in
theorem o179_508 : tm_op 179 508 = some (.iload_n 3, (0, 0, 0, 0)) := rfl
theorem r179_508 (d : Nat) (v : Int32) (l0 l1 l2 : Option Value) (st : List Value) (h : tm_H) (K : Option Value → tm_H → Prop) : tm_A d 179 508 [l0, l1, l2, some (.int v)] st h K ↔ tm_A d 179 509 [l0, l1, l2, some (.int v)] (.int v :: st) h K := tm_s o179_508 rfl rfl rfl
set_option maxRecDepth 20000 in
theorem o179_509 : tm_op 179 509 = some (.iconst 3, (0, 0, 0, 0)) := rfl
theorem r179_509 (d : Nat) (ls : tm_Lo) (st : List Value) (h : tm_H) (K : Option Value → tm_H → Prop) : tm_A d 179 509 ls st h K ↔ tm_A d 179 510 ls (.int (3 : Int32) :: st) h K := tm_ic o179_509 (by decide)
set_option maxRecDepth 20000 in
theorem o179_510 : tm_op 179 510 = some (.iadd, (0, 0, 0, 0)) := rfl
theorem r179_510 (d : Nat) (u v : Int32) (ls : tm_Lo) (st : List Value) (h : tm_H) (K : Option Value → tm_H → Prop) : tm_A d 179 510 ls (.int u :: .int v :: st) h K ↔ tm_A d 179 511 ls (.int (v + u) :: st) h K := tm_s o179_510 rfl rfl rfl
set_option maxRecDepth 20000 in
theorem o179_511 : tm_op 179 511 = some (.iaload, (0, 0, 0, 0)) := rfl
theorem r179_511 (d : Nat) (v : Int32) (a : Nat) (ls : tm_Lo) (st : List Value) (G : tm_G) (I : Nat → Nat → Int32) (J : Nat → Nat → Int64) (R : Nat → Nat → Option Nat) (K : Option Value → tm_H → Prop) : tm_A d 179 511 ls (.int v :: .ref a :: st) (G, I, J, R) K ↔ ((G.2.2 a).1 = 1 ∧ tm_in v (G.2.2 a).2) ∧ tm_A d 179 512 ls (.int (I a (tm_ix v)) :: st) (G, I, J, R) K := tm_iald o179_511
set_option maxRecDepth 20000 in
theorem o179_512 : tm_op 179 512 = some (.aload_n 0, (0, 0, 0, 0)) := rfl
theorem r179_512 (d : Nat) (v : Nat) (l1 l2 l3 : Option Value) (st : List Value) (h : tm_H) (K : Option Value → tm_H → Prop) : tm_A d 179 512 [some (.ref v), l1, l2, l3] st h K ↔ tm_A d 179 513 [some (.ref v), l1, l2, l3] (.ref v :: st) h K := tm_s o179_512 rfl rfl rfl
set_option maxRecDepth 20000 in
theorem o179_513 : tm_op 179 513 = some (.iload_n 3, (0, 0, 0, 0)) := rfl
theorem r179_513 (d : Nat) (v : Int32) (l0 l1 l2 : Option Value) (st : List Value) (h : tm_H) (K : Option Value → tm_H → Prop) : tm_A d 179 513 [l0, l1, l2, some (.int v)] st h K ↔ tm_A d 179 514 [l0, l1, l2, some (.int v)] (.int v :: st) h K := tm_s o179_513 rfl rfl rfl
set_option maxRecDepth 20000 in
theorem o179_514 : tm_op 179 514 = some (.iconst 4, (0, 0, 0, 0)) := rfl
theorem r179_514 (d : Nat) (ls : tm_Lo) (st : List Value) (h : tm_H) (K : Option Value → tm_H → Prop) : tm_A d 179 514 ls st h K ↔ tm_A d 179 515 ls (.int (4 : Int32) :: st) h K := tm_ic o179_514 (by decide)
set_option maxRecDepth 20000 in
theorem o179_515 : tm_op 179 515 = some (.iadd, (0, 0, 0, 0)) := rfl
theorem r179_515 (d : Nat) (u v : Int32) (ls : tm_Lo) (st : List Value) (h : tm_H) (K : Option Value → tm_H → Prop) : tm_A d 179 515 ls (.int u :: .int v :: st) h K ↔ tm_A d 179 516 ls (.int (v + u) :: st) h K := tm_s o179_515 rfl rfl rfl
set_option maxRecDepth 20000 in
theorem o179_516 : tm_op 179 516 = some (.iaload, (0, 0, 0, 0)) := rfl
theorem r179_516 (d : Nat) (v : Int32) (a : Nat) (ls : tm_Lo) (st : List Value) (G : tm_G) (I : Nat → Nat → Int32) (J : Nat → Nat → Int64) (R : Nat → Nat → Option Nat) (K : Option Value → tm_H → Prop) : tm_A d 179 516 ls (.int v :: .ref a :: st) (G, I, J, R) K ↔ ((G.2.2 a).1 = 1 ∧ tm_in v (G.2.2 a).2) ∧ tm_A d 179 517 ls (.int (I a (tm_ix v)) :: st) (G, I, J, R) K := tm_iald o179_516
set_option maxRecDepth 20000 in
theorem o179_517 : tm_op 179 517 = some (.invokevirtual 69, (2, 98, 5, 9)) := rfl
theorem r179_517 (d : Nat) (v1 : Int32) (v2 : Int32) (v3 : Int32) (v4 : Int32) (a : Nat) (ls : tm_Lo) (st : List Value) (h : tm_H) (K : Option Value → tm_H → Prop) : tm_A (d + 1) 179 517 ls (.int v4 :: .int v3 :: .int v2 :: .int v1 :: .ref a :: st) h K ↔ (h.1.2.2 a = (0, 9) ∧ tm_cs st) ∧ tm_R d 98 [.ref a, .int v1, .int v2, .int v3, .int v4] h (fun r h' => tm_A (d + 1) 179 520 ls (r.toList ++ st) h' K) := tm_callV (as := [.int v1, .int v2, .int v3, .int v4]) o179_517 rfl rfl rfl rfl
set_option maxRecDepth 20000 in
theorem o179_520 : tm_op 179 520 = some (.aload_n 2, (0, 0, 0, 0)) := rfl
theorem r179_520 (d : Nat) (v : Nat) (l0 l1 l3 : Option Value) (st : List Value) (h : tm_H) (K : Option Value → tm_H → Prop) : tm_A d 179 520 [l0, l1, some (.ref v), l3] st h K ↔ tm_A d 179 521 [l0, l1, some (.ref v), l3] (.ref v :: st) h K := tm_s o179_520 rfl rfl rfl
theorem r179_520n (d : Nat)  (l0 l1 l3 : Option Value) (st : List Value) (h : tm_H) (K : Option Value → tm_H → Prop) : tm_A d 179 520 [l0, l1, some .null, l3] st h K ↔ tm_A d 179 521 [l0, l1, some .null, l3] (.null :: st) h K := tm_s o179_520 rfl rfl rfl
set_option maxRecDepth 20000 in
theorem o179_521 : tm_op 179 521 = some (.aload_n 0, (0, 0, 0, 0)) := rfl
theorem r179_521 (d : Nat) (v : Nat) (l1 l2 l3 : Option Value) (st : List Value) (h : tm_H) (K : Option Value → tm_H → Prop) : tm_A d 179 521 [some (.ref v), l1, l2, l3] st h K ↔ tm_A d 179 522 [some (.ref v), l1, l2, l3] (.ref v :: st) h K := tm_s o179_521 rfl rfl rfl
set_option maxRecDepth 20000 in
theorem o179_522 : tm_op 179 522 = some (.iload_n 3, (0, 0, 0, 0)) := rfl
theorem r179_522 (d : Nat) (v : Int32) (l0 l1 l2 : Option Value) (st : List Value) (h : tm_H) (K : Option Value → tm_H → Prop) : tm_A d 179 522 [l0, l1, l2, some (.int v)] st h K ↔ tm_A d 179 523 [l0, l1, l2, some (.int v)] (.int v :: st) h K := tm_s o179_522 rfl rfl rfl
set_option maxRecDepth 20000 in
theorem o179_523 : tm_op 179 523 = some (.iconst 1, (0, 0, 0, 0)) := rfl
theorem r179_523 (d : Nat) (ls : tm_Lo) (st : List Value) (h : tm_H) (K : Option Value → tm_H → Prop) : tm_A d 179 523 ls st h K ↔ tm_A d 179 524 ls (.int (1 : Int32) :: st) h K := tm_ic o179_523 (by decide)
set_option maxRecDepth 20000 in
theorem o179_524 : tm_op 179 524 = some (.iadd, (0, 0, 0, 0)) := rfl
theorem r179_524 (d : Nat) (u v : Int32) (ls : tm_Lo) (st : List Value) (h : tm_H) (K : Option Value → tm_H → Prop) : tm_A d 179 524 ls (.int u :: .int v :: st) h K ↔ tm_A d 179 525 ls (.int (v + u) :: st) h K := tm_s o179_524 rfl rfl rfl
set_option maxRecDepth 20000 in
theorem o179_525 : tm_op 179 525 = some (.iaload, (0, 0, 0, 0)) := rfl
theorem r179_525 (d : Nat) (v : Int32) (a : Nat) (ls : tm_Lo) (st : List Value) (G : tm_G) (I : Nat → Nat → Int32) (J : Nat → Nat → Int64) (R : Nat → Nat → Option Nat) (K : Option Value → tm_H → Prop) : tm_A d 179 525 ls (.int v :: .ref a :: st) (G, I, J, R) K ↔ ((G.2.2 a).1 = 1 ∧ tm_in v (G.2.2 a).2) ∧ tm_A d 179 526 ls (.int (I a (tm_ix v)) :: st) (G, I, J, R) K := tm_iald o179_525
set_option maxRecDepth 20000 in
theorem o179_526 : tm_op 179 526 = some (.aload_n 0, (0, 0, 0, 0)) := rfl
theorem r179_526 (d : Nat) (v : Nat) (l1 l2 l3 : Option Value) (st : List Value) (h : tm_H) (K : Option Value → tm_H → Prop) : tm_A d 179 526 [some (.ref v), l1, l2, l3] st h K ↔ tm_A d 179 527 [some (.ref v), l1, l2, l3] (.ref v :: st) h K := tm_s o179_526 rfl rfl rfl
set_option maxRecDepth 20000 in
theorem o179_527 : tm_op 179 527 = some (.iload_n 3, (0, 0, 0, 0)) := rfl
theorem r179_527 (d : Nat) (v : Int32) (l0 l1 l2 : Option Value) (st : List Value) (h : tm_H) (K : Option Value → tm_H → Prop) : tm_A d 179 527 [l0, l1, l2, some (.int v)] st h K ↔ tm_A d 179 528 [l0, l1, l2, some (.int v)] (.int v :: st) h K := tm_s o179_527 rfl rfl rfl
set_option maxRecDepth 20000 in
theorem o179_528 : tm_op 179 528 = some (.iconst 2, (0, 0, 0, 0)) := rfl
theorem r179_528 (d : Nat) (ls : tm_Lo) (st : List Value) (h : tm_H) (K : Option Value → tm_H → Prop) : tm_A d 179 528 ls st h K ↔ tm_A d 179 529 ls (.int (2 : Int32) :: st) h K := tm_ic o179_528 (by decide)
set_option maxRecDepth 20000 in
theorem o179_529 : tm_op 179 529 = some (.iadd, (0, 0, 0, 0)) := rfl
theorem r179_529 (d : Nat) (u v : Int32) (ls : tm_Lo) (st : List Value) (h : tm_H) (K : Option Value → tm_H → Prop) : tm_A d 179 529 ls (.int u :: .int v :: st) h K ↔ tm_A d 179 530 ls (.int (v + u) :: st) h K := tm_s o179_529 rfl rfl rfl
set_option maxRecDepth 20000 in
theorem o179_530 : tm_op 179 530 = some (.iaload, (0, 0, 0, 0)) := rfl
theorem r179_530 (d : Nat) (v : Int32) (a : Nat) (ls : tm_Lo) (st : List Value) (G : tm_G) (I : Nat → Nat → Int32) (J : Nat → Nat → Int64) (R : Nat → Nat → Option Nat) (K : Option Value → tm_H → Prop) : tm_A d 179 530 ls (.int v :: .ref a :: st) (G, I, J, R) K ↔ ((G.2.2 a).1 = 1 ∧ tm_in v (G.2.2 a).2) ∧ tm_A d 179 531 ls (.int (I a (tm_ix v)) :: st) (G, I, J, R) K := tm_iald o179_530
set_option maxRecDepth 20000 in
theorem o179_531 : tm_op 179 531 = some (.aload_n 0, (0, 0, 0, 0)) := rfl
theorem r179_531 (d : Nat) (v : Nat) (l1 l2 l3 : Option Value) (st : List Value) (h : tm_H) (K : Option Value → tm_H → Prop) : tm_A d 179 531 [some (.ref v), l1, l2, l3] st h K ↔ tm_A d 179 532 [some (.ref v), l1, l2, l3] (.ref v :: st) h K := tm_s o179_531 rfl rfl rfl
set_option maxRecDepth 20000 in
theorem o179_532 : tm_op 179 532 = some (.iload_n 3, (0, 0, 0, 0)) := rfl
theorem r179_532 (d : Nat) (v : Int32) (l0 l1 l2 : Option Value) (st : List Value) (h : tm_H) (K : Option Value → tm_H → Prop) : tm_A d 179 532 [l0, l1, l2, some (.int v)] st h K ↔ tm_A d 179 533 [l0, l1, l2, some (.int v)] (.int v :: st) h K := tm_s o179_532 rfl rfl rfl
set_option maxRecDepth 20000 in
theorem o179_533 : tm_op 179 533 = some (.iconst 3, (0, 0, 0, 0)) := rfl
theorem r179_533 (d : Nat) (ls : tm_Lo) (st : List Value) (h : tm_H) (K : Option Value → tm_H → Prop) : tm_A d 179 533 ls st h K ↔ tm_A d 179 534 ls (.int (3 : Int32) :: st) h K := tm_ic o179_533 (by decide)
set_option maxRecDepth 20000 in
theorem o179_534 : tm_op 179 534 = some (.iadd, (0, 0, 0, 0)) := rfl
theorem r179_534 (d : Nat) (u v : Int32) (ls : tm_Lo) (st : List Value) (h : tm_H) (K : Option Value → tm_H → Prop) : tm_A d 179 534 ls (.int u :: .int v :: st) h K ↔ tm_A d 179 535 ls (.int (v + u) :: st) h K := tm_s o179_534 rfl rfl rfl
set_option maxRecDepth 20000 in
theorem o179_535 : tm_op 179 535 = some (.iaload, (0, 0, 0, 0)) := rfl
theorem r179_535 (d : Nat) (v : Int32) (a : Nat) (ls : tm_Lo) (st : List Value) (G : tm_G) (I : Nat → Nat → Int32) (J : Nat → Nat → Int64) (R : Nat → Nat → Option Nat) (K : Option Value → tm_H → Prop) : tm_A d 179 535 ls (.int v :: .ref a :: st) (G, I, J, R) K ↔ ((G.2.2 a).1 = 1 ∧ tm_in v (G.2.2 a).2) ∧ tm_A d 179 536 ls (.int (I a (tm_ix v)) :: st) (G, I, J, R) K := tm_iald o179_535
set_option maxRecDepth 20000 in
theorem o179_536 : tm_op 179 536 = some (.aload_n 0, (0, 0, 0, 0)) := rfl
theorem r179_536 (d : Nat) (v : Nat) (l1 l2 l3 : Option Value) (st : List Value) (h : tm_H) (K : Option Value → tm_H → Prop) : tm_A d 179 536 [some (.ref v), l1, l2, l3] st h K ↔ tm_A d 179 537 [some (.ref v), l1, l2, l3] (.ref v :: st) h K := tm_s o179_536 rfl rfl rfl
set_option maxRecDepth 20000 in
theorem o179_537 : tm_op 179 537 = some (.iload_n 3, (0, 0, 0, 0)) := rfl
theorem r179_537 (d : Nat) (v : Int32) (l0 l1 l2 : Option Value) (st : List Value) (h : tm_H) (K : Option Value → tm_H → Prop) : tm_A d 179 537 [l0, l1, l2, some (.int v)] st h K ↔ tm_A d 179 538 [l0, l1, l2, some (.int v)] (.int v :: st) h K := tm_s o179_537 rfl rfl rfl
set_option maxRecDepth 20000 in
theorem o179_538 : tm_op 179 538 = some (.iconst 4, (0, 0, 0, 0)) := rfl
theorem r179_538 (d : Nat) (ls : tm_Lo) (st : List Value) (h : tm_H) (K : Option Value → tm_H → Prop) : tm_A d 179 538 ls st h K ↔ tm_A d 179 539 ls (.int (4 : Int32) :: st) h K := tm_ic o179_538 (by decide)
set_option maxRecDepth 20000 in
theorem o179_539 : tm_op 179 539 = some (.iadd, (0, 0, 0, 0)) := rfl
theorem r179_539 (d : Nat) (u v : Int32) (ls : tm_Lo) (st : List Value) (h : tm_H) (K : Option Value → tm_H → Prop) : tm_A d 179 539 ls (.int u :: .int v :: st) h K ↔ tm_A d 179 540 ls (.int (v + u) :: st) h K := tm_s o179_539 rfl rfl rfl
set_option maxRecDepth 20000 in
theorem o179_540 : tm_op 179 540 = some (.iaload, (0, 0, 0, 0)) := rfl
theorem r179_540 (d : Nat) (v : Int32) (a : Nat) (ls : tm_Lo) (st : List Value) (G : tm_G) (I : Nat → Nat → Int32) (J : Nat → Nat → Int64) (R : Nat → Nat → Option Nat) (K : Option Value → tm_H → Prop) : tm_A d 179 540 ls (.int v :: .ref a :: st) (G, I, J, R) K ↔ ((G.2.2 a).1 = 1 ∧ tm_in v (G.2.2 a).2) ∧ tm_A d 179 541 ls (.int (I a (tm_ix v)) :: st) (G, I, J, R) K := tm_iald o179_540
set_option maxRecDepth 20000 in
theorem o179_541 : tm_op 179 541 = some (.invokevirtual 73, (2, 145, 5, 10)) := rfl
theorem r179_541 (d : Nat) (v1 : Int32) (v2 : Int32) (v3 : Int32) (v4 : Int32) (a : Nat) (ls : tm_Lo) (st : List Value) (h : tm_H) (K : Option Value → tm_H → Prop) : tm_A (d + 1) 179 541 ls (.int v4 :: .int v3 :: .int v2 :: .int v1 :: .ref a :: st) h K ↔ (h.1.2.2 a = (0, 10) ∧ tm_cs st) ∧ tm_R d 145 [.ref a, .int v1, .int v2, .int v3, .int v4] h (fun r h' => tm_A (d + 1) 179 544 ls (r.toList ++ st) h' K) := tm_callV (as := [.int v1, .int v2, .int v3, .int v4]) o179_541 rfl rfl rfl rfl
set_option maxRecDepth 20000 in
theorem o179_544 : tm_op 179 544 = some (.if_icmp .eq 315, (0, 0, 0, 0)) := rfl
theorem r179_544 (d : Nat) (y x : Int32) (ls : tm_Lo) (st : List Value) (h : tm_H) (K : Option Value → tm_H → Prop) : tm_A d 179 544 ls (.int y :: .int x :: st) h K ↔ if x = y then tm_A d 179 859 ls st h K else tm_A d 179 547 ls st h K := tm_b o179_544 rfl rfl rfl rfl
set_option maxRecDepth 20000 in
theorem o179_547 : tm_op 179 547 = some (.iconst 0, (0, 0, 0, 0)) := rfl
theorem r179_547 (d : Nat) (ls : tm_Lo) (st : List Value) (h : tm_H) (K : Option Value → tm_H → Prop) : tm_A d 179 547 ls st h K ↔ tm_A d 179 548 ls (.int (0 : Int32) :: st) h K := tm_ic o179_547 (by decide)
set_option maxRecDepth 20000 in
theorem o179_548 : tm_op 179 548 = some (.ireturn, (0, 0, 0, 0)) := rfl
theorem r179_548 (d : Nat) (v : Int32) (ls : tm_Lo) (h : tm_H) (K : Option Value → tm_H → Prop) : tm_A d 179 548 ls [.int v] h K ↔ (v = 0 ∨ v = 1) ∧ K (some (.int v)) h := tm_retz o179_548 rfl
set_option maxRecDepth 20000 in
theorem o179_549 : tm_op 179 549 = some (.aload_n 1, (0, 0, 0, 0)) := rfl
theorem r179_549 (d : Nat) (v : Nat) (l0 l2 l3 : Option Value) (st : List Value) (h : tm_H) (K : Option Value → tm_H → Prop) : tm_A d 179 549 [l0, some (.ref v), l2, l3] st h K ↔ tm_A d 179 550 [l0, some (.ref v), l2, l3] (.ref v :: st) h K := tm_s o179_549 rfl rfl rfl
theorem r179_549n (d : Nat)  (l0 l2 l3 : Option Value) (st : List Value) (h : tm_H) (K : Option Value → tm_H → Prop) : tm_A d 179 549 [l0, some .null, l2, l3] st h K ↔ tm_A d 179 550 [l0, some .null, l2, l3] (.null :: st) h K := tm_s o179_549 rfl rfl rfl
set_option maxRecDepth 20000 in
theorem o179_550 : tm_op 179 550 = some (.aload_n 0, (0, 0, 0, 0)) := rfl
theorem r179_550 (d : Nat) (v : Nat) (l1 l2 l3 : Option Value) (st : List Value) (h : tm_H) (K : Option Value → tm_H → Prop) : tm_A d 179 550 [some (.ref v), l1, l2, l3] st h K ↔ tm_A d 179 551 [some (.ref v), l1, l2, l3] (.ref v :: st) h K := tm_s o179_550 rfl rfl rfl
set_option maxRecDepth 20000 in
theorem o179_551 : tm_op 179 551 = some (.iload_n 3, (0, 0, 0, 0)) := rfl
theorem r179_551 (d : Nat) (v : Int32) (l0 l1 l2 : Option Value) (st : List Value) (h : tm_H) (K : Option Value → tm_H → Prop) : tm_A d 179 551 [l0, l1, l2, some (.int v)] st h K ↔ tm_A d 179 552 [l0, l1, l2, some (.int v)] (.int v :: st) h K := tm_s o179_551 rfl rfl rfl
set_option maxRecDepth 20000 in
theorem o179_552 : tm_op 179 552 = some (.iconst 1, (0, 0, 0, 0)) := rfl
theorem r179_552 (d : Nat) (ls : tm_Lo) (st : List Value) (h : tm_H) (K : Option Value → tm_H → Prop) : tm_A d 179 552 ls st h K ↔ tm_A d 179 553 ls (.int (1 : Int32) :: st) h K := tm_ic o179_552 (by decide)
set_option maxRecDepth 20000 in
theorem o179_553 : tm_op 179 553 = some (.iadd, (0, 0, 0, 0)) := rfl
theorem r179_553 (d : Nat) (u v : Int32) (ls : tm_Lo) (st : List Value) (h : tm_H) (K : Option Value → tm_H → Prop) : tm_A d 179 553 ls (.int u :: .int v :: st) h K ↔ tm_A d 179 554 ls (.int (v + u) :: st) h K := tm_s o179_553 rfl rfl rfl
set_option maxRecDepth 20000 in
theorem o179_554 : tm_op 179 554 = some (.iaload, (0, 0, 0, 0)) := rfl
theorem r179_554 (d : Nat) (v : Int32) (a : Nat) (ls : tm_Lo) (st : List Value) (G : tm_G) (I : Nat → Nat → Int32) (J : Nat → Nat → Int64) (R : Nat → Nat → Option Nat) (K : Option Value → tm_H → Prop) : tm_A d 179 554 ls (.int v :: .ref a :: st) (G, I, J, R) K ↔ ((G.2.2 a).1 = 1 ∧ tm_in v (G.2.2 a).2) ∧ tm_A d 179 555 ls (.int (I a (tm_ix v)) :: st) (G, I, J, R) K := tm_iald o179_554
set_option maxRecDepth 20000 in
theorem o179_555 : tm_op 179 555 = some (.aload_n 0, (0, 0, 0, 0)) := rfl
theorem r179_555 (d : Nat) (v : Nat) (l1 l2 l3 : Option Value) (st : List Value) (h : tm_H) (K : Option Value → tm_H → Prop) : tm_A d 179 555 [some (.ref v), l1, l2, l3] st h K ↔ tm_A d 179 556 [some (.ref v), l1, l2, l3] (.ref v :: st) h K := tm_s o179_555 rfl rfl rfl
set_option maxRecDepth 20000 in
theorem o179_556 : tm_op 179 556 = some (.iload_n 3, (0, 0, 0, 0)) := rfl
theorem r179_556 (d : Nat) (v : Int32) (l0 l1 l2 : Option Value) (st : List Value) (h : tm_H) (K : Option Value → tm_H → Prop) : tm_A d 179 556 [l0, l1, l2, some (.int v)] st h K ↔ tm_A d 179 557 [l0, l1, l2, some (.int v)] (.int v :: st) h K := tm_s o179_556 rfl rfl rfl
set_option maxRecDepth 20000 in
theorem o179_557 : tm_op 179 557 = some (.iconst 2, (0, 0, 0, 0)) := rfl
theorem r179_557 (d : Nat) (ls : tm_Lo) (st : List Value) (h : tm_H) (K : Option Value → tm_H → Prop) : tm_A d 179 557 ls st h K ↔ tm_A d 179 558 ls (.int (2 : Int32) :: st) h K := tm_ic o179_557 (by decide)
set_option maxRecDepth 20000 in
theorem o179_558 : tm_op 179 558 = some (.iadd, (0, 0, 0, 0)) := rfl
theorem r179_558 (d : Nat) (u v : Int32) (ls : tm_Lo) (st : List Value) (h : tm_H) (K : Option Value → tm_H → Prop) : tm_A d 179 558 ls (.int u :: .int v :: st) h K ↔ tm_A d 179 559 ls (.int (v + u) :: st) h K := tm_s o179_558 rfl rfl rfl
set_option maxRecDepth 20000 in
theorem o179_559 : tm_op 179 559 = some (.iaload, (0, 0, 0, 0)) := rfl
theorem r179_559 (d : Nat) (v : Int32) (a : Nat) (ls : tm_Lo) (st : List Value) (G : tm_G) (I : Nat → Nat → Int32) (J : Nat → Nat → Int64) (R : Nat → Nat → Option Nat) (K : Option Value → tm_H → Prop) : tm_A d 179 559 ls (.int v :: .ref a :: st) (G, I, J, R) K ↔ ((G.2.2 a).1 = 1 ∧ tm_in v (G.2.2 a).2) ∧ tm_A d 179 560 ls (.int (I a (tm_ix v)) :: st) (G, I, J, R) K := tm_iald o179_559
set_option maxRecDepth 20000 in
theorem o179_560 : tm_op 179 560 = some (.aload_n 0, (0, 0, 0, 0)) := rfl
theorem r179_560 (d : Nat) (v : Nat) (l1 l2 l3 : Option Value) (st : List Value) (h : tm_H) (K : Option Value → tm_H → Prop) : tm_A d 179 560 [some (.ref v), l1, l2, l3] st h K ↔ tm_A d 179 561 [some (.ref v), l1, l2, l3] (.ref v :: st) h K := tm_s o179_560 rfl rfl rfl
set_option maxRecDepth 20000 in
theorem o179_561 : tm_op 179 561 = some (.iload_n 3, (0, 0, 0, 0)) := rfl
theorem r179_561 (d : Nat) (v : Int32) (l0 l1 l2 : Option Value) (st : List Value) (h : tm_H) (K : Option Value → tm_H → Prop) : tm_A d 179 561 [l0, l1, l2, some (.int v)] st h K ↔ tm_A d 179 562 [l0, l1, l2, some (.int v)] (.int v :: st) h K := tm_s o179_561 rfl rfl rfl
set_option maxRecDepth 20000 in
theorem o179_562 : tm_op 179 562 = some (.iconst 3, (0, 0, 0, 0)) := rfl
theorem r179_562 (d : Nat) (ls : tm_Lo) (st : List Value) (h : tm_H) (K : Option Value → tm_H → Prop) : tm_A d 179 562 ls st h K ↔ tm_A d 179 563 ls (.int (3 : Int32) :: st) h K := tm_ic o179_562 (by decide)
set_option maxRecDepth 20000 in
theorem o179_563 : tm_op 179 563 = some (.iadd, (0, 0, 0, 0)) := rfl
theorem r179_563 (d : Nat) (u v : Int32) (ls : tm_Lo) (st : List Value) (h : tm_H) (K : Option Value → tm_H → Prop) : tm_A d 179 563 ls (.int u :: .int v :: st) h K ↔ tm_A d 179 564 ls (.int (v + u) :: st) h K := tm_s o179_563 rfl rfl rfl
set_option maxRecDepth 20000 in
theorem o179_564 : tm_op 179 564 = some (.iaload, (0, 0, 0, 0)) := rfl
theorem r179_564 (d : Nat) (v : Int32) (a : Nat) (ls : tm_Lo) (st : List Value) (G : tm_G) (I : Nat → Nat → Int32) (J : Nat → Nat → Int64) (R : Nat → Nat → Option Nat) (K : Option Value → tm_H → Prop) : tm_A d 179 564 ls (.int v :: .ref a :: st) (G, I, J, R) K ↔ ((G.2.2 a).1 = 1 ∧ tm_in v (G.2.2 a).2) ∧ tm_A d 179 565 ls (.int (I a (tm_ix v)) :: st) (G, I, J, R) K := tm_iald o179_564
set_option maxRecDepth 20000 in
theorem o179_565 : tm_op 179 565 = some (.invokevirtual 74, (2, 99, 4, 9)) := rfl
theorem r179_565 (d : Nat) (v1 : Int32) (v2 : Int32) (v3 : Int32) (a : Nat) (ls : tm_Lo) (st : List Value) (h : tm_H) (K : Option Value → tm_H → Prop) : tm_A (d + 1) 179 565 ls (.int v3 :: .int v2 :: .int v1 :: .ref a :: st) h K ↔ (h.1.2.2 a = (0, 9) ∧ tm_cs st) ∧ tm_R d 99 [.ref a, .int v1, .int v2, .int v3] h (fun r h' => tm_A (d + 1) 179 568 ls (r.toList ++ st) h' K) := tm_callV (as := [.int v1, .int v2, .int v3]) o179_565 rfl rfl rfl rfl
set_option maxRecDepth 20000 in
theorem o179_568 : tm_op 179 568 = some (.aload_n 2, (0, 0, 0, 0)) := rfl
theorem r179_568 (d : Nat) (v : Nat) (l0 l1 l3 : Option Value) (st : List Value) (h : tm_H) (K : Option Value → tm_H → Prop) : tm_A d 179 568 [l0, l1, some (.ref v), l3] st h K ↔ tm_A d 179 569 [l0, l1, some (.ref v), l3] (.ref v :: st) h K := tm_s o179_568 rfl rfl rfl
theorem r179_568n (d : Nat)  (l0 l1 l3 : Option Value) (st : List Value) (h : tm_H) (K : Option Value → tm_H → Prop) : tm_A d 179 568 [l0, l1, some .null, l3] st h K ↔ tm_A d 179 569 [l0, l1, some .null, l3] (.null :: st) h K := tm_s o179_568 rfl rfl rfl
set_option maxRecDepth 20000 in
theorem o179_569 : tm_op 179 569 = some (.aload_n 0, (0, 0, 0, 0)) := rfl
theorem r179_569 (d : Nat) (v : Nat) (l1 l2 l3 : Option Value) (st : List Value) (h : tm_H) (K : Option Value → tm_H → Prop) : tm_A d 179 569 [some (.ref v), l1, l2, l3] st h K ↔ tm_A d 179 570 [some (.ref v), l1, l2, l3] (.ref v :: st) h K := tm_s o179_569 rfl rfl rfl
set_option maxRecDepth 20000 in
theorem o179_570 : tm_op 179 570 = some (.iload_n 3, (0, 0, 0, 0)) := rfl
theorem r179_570 (d : Nat) (v : Int32) (l0 l1 l2 : Option Value) (st : List Value) (h : tm_H) (K : Option Value → tm_H → Prop) : tm_A d 179 570 [l0, l1, l2, some (.int v)] st h K ↔ tm_A d 179 571 [l0, l1, l2, some (.int v)] (.int v :: st) h K := tm_s o179_570 rfl rfl rfl
set_option maxRecDepth 20000 in
theorem o179_571 : tm_op 179 571 = some (.iconst 1, (0, 0, 0, 0)) := rfl
theorem r179_571 (d : Nat) (ls : tm_Lo) (st : List Value) (h : tm_H) (K : Option Value → tm_H → Prop) : tm_A d 179 571 ls st h K ↔ tm_A d 179 572 ls (.int (1 : Int32) :: st) h K := tm_ic o179_571 (by decide)
set_option maxRecDepth 20000 in
theorem o179_572 : tm_op 179 572 = some (.iadd, (0, 0, 0, 0)) := rfl
theorem r179_572 (d : Nat) (u v : Int32) (ls : tm_Lo) (st : List Value) (h : tm_H) (K : Option Value → tm_H → Prop) : tm_A d 179 572 ls (.int u :: .int v :: st) h K ↔ tm_A d 179 573 ls (.int (v + u) :: st) h K := tm_s o179_572 rfl rfl rfl
set_option maxRecDepth 20000 in
theorem o179_573 : tm_op 179 573 = some (.iaload, (0, 0, 0, 0)) := rfl
theorem r179_573 (d : Nat) (v : Int32) (a : Nat) (ls : tm_Lo) (st : List Value) (G : tm_G) (I : Nat → Nat → Int32) (J : Nat → Nat → Int64) (R : Nat → Nat → Option Nat) (K : Option Value → tm_H → Prop) : tm_A d 179 573 ls (.int v :: .ref a :: st) (G, I, J, R) K ↔ ((G.2.2 a).1 = 1 ∧ tm_in v (G.2.2 a).2) ∧ tm_A d 179 574 ls (.int (I a (tm_ix v)) :: st) (G, I, J, R) K := tm_iald o179_573
set_option maxRecDepth 20000 in
theorem o179_574 : tm_op 179 574 = some (.aload_n 0, (0, 0, 0, 0)) := rfl
theorem r179_574 (d : Nat) (v : Nat) (l1 l2 l3 : Option Value) (st : List Value) (h : tm_H) (K : Option Value → tm_H → Prop) : tm_A d 179 574 [some (.ref v), l1, l2, l3] st h K ↔ tm_A d 179 575 [some (.ref v), l1, l2, l3] (.ref v :: st) h K := tm_s o179_574 rfl rfl rfl
set_option maxRecDepth 20000 in
theorem o179_575 : tm_op 179 575 = some (.iload_n 3, (0, 0, 0, 0)) := rfl
theorem r179_575 (d : Nat) (v : Int32) (l0 l1 l2 : Option Value) (st : List Value) (h : tm_H) (K : Option Value → tm_H → Prop) : tm_A d 179 575 [l0, l1, l2, some (.int v)] st h K ↔ tm_A d 179 576 [l0, l1, l2, some (.int v)] (.int v :: st) h K := tm_s o179_575 rfl rfl rfl
set_option maxRecDepth 20000 in
theorem o179_576 : tm_op 179 576 = some (.iconst 2, (0, 0, 0, 0)) := rfl
theorem r179_576 (d : Nat) (ls : tm_Lo) (st : List Value) (h : tm_H) (K : Option Value → tm_H → Prop) : tm_A d 179 576 ls st h K ↔ tm_A d 179 577 ls (.int (2 : Int32) :: st) h K := tm_ic o179_576 (by decide)
set_option maxRecDepth 20000 in
theorem o179_577 : tm_op 179 577 = some (.iadd, (0, 0, 0, 0)) := rfl
theorem r179_577 (d : Nat) (u v : Int32) (ls : tm_Lo) (st : List Value) (h : tm_H) (K : Option Value → tm_H → Prop) : tm_A d 179 577 ls (.int u :: .int v :: st) h K ↔ tm_A d 179 578 ls (.int (v + u) :: st) h K := tm_s o179_577 rfl rfl rfl
set_option maxRecDepth 20000 in
theorem o179_578 : tm_op 179 578 = some (.iaload, (0, 0, 0, 0)) := rfl
theorem r179_578 (d : Nat) (v : Int32) (a : Nat) (ls : tm_Lo) (st : List Value) (G : tm_G) (I : Nat → Nat → Int32) (J : Nat → Nat → Int64) (R : Nat → Nat → Option Nat) (K : Option Value → tm_H → Prop) : tm_A d 179 578 ls (.int v :: .ref a :: st) (G, I, J, R) K ↔ ((G.2.2 a).1 = 1 ∧ tm_in v (G.2.2 a).2) ∧ tm_A d 179 579 ls (.int (I a (tm_ix v)) :: st) (G, I, J, R) K := tm_iald o179_578
set_option maxRecDepth 20000 in
theorem o179_579 : tm_op 179 579 = some (.aload_n 0, (0, 0, 0, 0)) := rfl
theorem r179_579 (d : Nat) (v : Nat) (l1 l2 l3 : Option Value) (st : List Value) (h : tm_H) (K : Option Value → tm_H → Prop) : tm_A d 179 579 [some (.ref v), l1, l2, l3] st h K ↔ tm_A d 179 580 [some (.ref v), l1, l2, l3] (.ref v :: st) h K := tm_s o179_579 rfl rfl rfl
set_option maxRecDepth 20000 in
theorem o179_580 : tm_op 179 580 = some (.iload_n 3, (0, 0, 0, 0)) := rfl
theorem r179_580 (d : Nat) (v : Int32) (l0 l1 l2 : Option Value) (st : List Value) (h : tm_H) (K : Option Value → tm_H → Prop) : tm_A d 179 580 [l0, l1, l2, some (.int v)] st h K ↔ tm_A d 179 581 [l0, l1, l2, some (.int v)] (.int v :: st) h K := tm_s o179_580 rfl rfl rfl
set_option maxRecDepth 20000 in
theorem o179_581 : tm_op 179 581 = some (.iconst 3, (0, 0, 0, 0)) := rfl
theorem r179_581 (d : Nat) (ls : tm_Lo) (st : List Value) (h : tm_H) (K : Option Value → tm_H → Prop) : tm_A d 179 581 ls st h K ↔ tm_A d 179 582 ls (.int (3 : Int32) :: st) h K := tm_ic o179_581 (by decide)
set_option maxRecDepth 20000 in
theorem o179_582 : tm_op 179 582 = some (.iadd, (0, 0, 0, 0)) := rfl
theorem r179_582 (d : Nat) (u v : Int32) (ls : tm_Lo) (st : List Value) (h : tm_H) (K : Option Value → tm_H → Prop) : tm_A d 179 582 ls (.int u :: .int v :: st) h K ↔ tm_A d 179 583 ls (.int (v + u) :: st) h K := tm_s o179_582 rfl rfl rfl
set_option maxRecDepth 20000 in
theorem o179_583 : tm_op 179 583 = some (.iaload, (0, 0, 0, 0)) := rfl
theorem r179_583 (d : Nat) (v : Int32) (a : Nat) (ls : tm_Lo) (st : List Value) (G : tm_G) (I : Nat → Nat → Int32) (J : Nat → Nat → Int64) (R : Nat → Nat → Option Nat) (K : Option Value → tm_H → Prop) : tm_A d 179 583 ls (.int v :: .ref a :: st) (G, I, J, R) K ↔ ((G.2.2 a).1 = 1 ∧ tm_in v (G.2.2 a).2) ∧ tm_A d 179 584 ls (.int (I a (tm_ix v)) :: st) (G, I, J, R) K := tm_iald o179_583
set_option maxRecDepth 20000 in
theorem o179_584 : tm_op 179 584 = some (.invokevirtual 77, (2, 153, 4, 10)) := rfl
theorem r179_584 (d : Nat) (v1 : Int32) (v2 : Int32) (v3 : Int32) (a : Nat) (ls : tm_Lo) (st : List Value) (h : tm_H) (K : Option Value → tm_H → Prop) : tm_A (d + 1) 179 584 ls (.int v3 :: .int v2 :: .int v1 :: .ref a :: st) h K ↔ (h.1.2.2 a = (0, 10) ∧ tm_cs st) ∧ tm_R d 153 [.ref a, .int v1, .int v2, .int v3] h (fun r h' => tm_A (d + 1) 179 587 ls (r.toList ++ st) h' K) := tm_callV (as := [.int v1, .int v2, .int v3]) o179_584 rfl rfl rfl rfl
set_option maxRecDepth 20000 in
theorem o179_587 : tm_op 179 587 = some (.if_icmp .eq 272, (0, 0, 0, 0)) := rfl
theorem r179_587 (d : Nat) (y x : Int32) (ls : tm_Lo) (st : List Value) (h : tm_H) (K : Option Value → tm_H → Prop) : tm_A d 179 587 ls (.int y :: .int x :: st) h K ↔ if x = y then tm_A d 179 859 ls st h K else tm_A d 179 590 ls st h K := tm_b o179_587 rfl rfl rfl rfl
set_option maxRecDepth 20000 in
theorem o179_590 : tm_op 179 590 = some (.iconst 0, (0, 0, 0, 0)) := rfl
theorem r179_590 (d : Nat) (ls : tm_Lo) (st : List Value) (h : tm_H) (K : Option Value → tm_H → Prop) : tm_A d 179 590 ls st h K ↔ tm_A d 179 591 ls (.int (0 : Int32) :: st) h K := tm_ic o179_590 (by decide)
set_option maxRecDepth 20000 in
theorem o179_591 : tm_op 179 591 = some (.ireturn, (0, 0, 0, 0)) := rfl
theorem r179_591 (d : Nat) (v : Int32) (ls : tm_Lo) (h : tm_H) (K : Option Value → tm_H → Prop) : tm_A d 179 591 ls [.int v] h K ↔ (v = 0 ∨ v = 1) ∧ K (some (.int v)) h := tm_retz o179_591 rfl
set_option maxRecDepth 20000 in
theorem o179_592 : tm_op 179 592 = some (.aload_n 1, (0, 0, 0, 0)) := rfl
theorem r179_592 (d : Nat) (v : Nat) (l0 l2 l3 : Option Value) (st : List Value) (h : tm_H) (K : Option Value → tm_H → Prop) : tm_A d 179 592 [l0, some (.ref v), l2, l3] st h K ↔ tm_A d 179 593 [l0, some (.ref v), l2, l3] (.ref v :: st) h K := tm_s o179_592 rfl rfl rfl
theorem r179_592n (d : Nat)  (l0 l2 l3 : Option Value) (st : List Value) (h : tm_H) (K : Option Value → tm_H → Prop) : tm_A d 179 592 [l0, some .null, l2, l3] st h K ↔ tm_A d 179 593 [l0, some .null, l2, l3] (.null :: st) h K := tm_s o179_592 rfl rfl rfl
set_option maxRecDepth 20000 in
theorem o179_593 : tm_op 179 593 = some (.aload_n 0, (0, 0, 0, 0)) := rfl
theorem r179_593 (d : Nat) (v : Nat) (l1 l2 l3 : Option Value) (st : List Value) (h : tm_H) (K : Option Value → tm_H → Prop) : tm_A d 179 593 [some (.ref v), l1, l2, l3] st h K ↔ tm_A d 179 594 [some (.ref v), l1, l2, l3] (.ref v :: st) h K := tm_s o179_593 rfl rfl rfl
set_option maxRecDepth 20000 in
theorem o179_594 : tm_op 179 594 = some (.iload_n 3, (0, 0, 0, 0)) := rfl
theorem r179_594 (d : Nat) (v : Int32) (l0 l1 l2 : Option Value) (st : List Value) (h : tm_H) (K : Option Value → tm_H → Prop) : tm_A d 179 594 [l0, l1, l2, some (.int v)] st h K ↔ tm_A d 179 595 [l0, l1, l2, some (.int v)] (.int v :: st) h K := tm_s o179_594 rfl rfl rfl
set_option maxRecDepth 20000 in
theorem o179_595 : tm_op 179 595 = some (.iconst 1, (0, 0, 0, 0)) := rfl
theorem r179_595 (d : Nat) (ls : tm_Lo) (st : List Value) (h : tm_H) (K : Option Value → tm_H → Prop) : tm_A d 179 595 ls st h K ↔ tm_A d 179 596 ls (.int (1 : Int32) :: st) h K := tm_ic o179_595 (by decide)
set_option maxRecDepth 20000 in
theorem o179_596 : tm_op 179 596 = some (.iadd, (0, 0, 0, 0)) := rfl
theorem r179_596 (d : Nat) (u v : Int32) (ls : tm_Lo) (st : List Value) (h : tm_H) (K : Option Value → tm_H → Prop) : tm_A d 179 596 ls (.int u :: .int v :: st) h K ↔ tm_A d 179 597 ls (.int (v + u) :: st) h K := tm_s o179_596 rfl rfl rfl
set_option maxRecDepth 20000 in
theorem o179_597 : tm_op 179 597 = some (.iaload, (0, 0, 0, 0)) := rfl
theorem r179_597 (d : Nat) (v : Int32) (a : Nat) (ls : tm_Lo) (st : List Value) (G : tm_G) (I : Nat → Nat → Int32) (J : Nat → Nat → Int64) (R : Nat → Nat → Option Nat) (K : Option Value → tm_H → Prop) : tm_A d 179 597 ls (.int v :: .ref a :: st) (G, I, J, R) K ↔ ((G.2.2 a).1 = 1 ∧ tm_in v (G.2.2 a).2) ∧ tm_A d 179 598 ls (.int (I a (tm_ix v)) :: st) (G, I, J, R) K := tm_iald o179_597
set_option maxRecDepth 20000 in
theorem o179_598 : tm_op 179 598 = some (.aload_n 0, (0, 0, 0, 0)) := rfl
theorem r179_598 (d : Nat) (v : Nat) (l1 l2 l3 : Option Value) (st : List Value) (h : tm_H) (K : Option Value → tm_H → Prop) : tm_A d 179 598 [some (.ref v), l1, l2, l3] st h K ↔ tm_A d 179 599 [some (.ref v), l1, l2, l3] (.ref v :: st) h K := tm_s o179_598 rfl rfl rfl
set_option maxRecDepth 20000 in
theorem o179_599 : tm_op 179 599 = some (.iload_n 3, (0, 0, 0, 0)) := rfl
theorem r179_599 (d : Nat) (v : Int32) (l0 l1 l2 : Option Value) (st : List Value) (h : tm_H) (K : Option Value → tm_H → Prop) : tm_A d 179 599 [l0, l1, l2, some (.int v)] st h K ↔ tm_A d 179 600 [l0, l1, l2, some (.int v)] (.int v :: st) h K := tm_s o179_599 rfl rfl rfl
set_option maxRecDepth 20000 in
theorem o179_600 : tm_op 179 600 = some (.iconst 2, (0, 0, 0, 0)) := rfl
theorem r179_600 (d : Nat) (ls : tm_Lo) (st : List Value) (h : tm_H) (K : Option Value → tm_H → Prop) : tm_A d 179 600 ls st h K ↔ tm_A d 179 601 ls (.int (2 : Int32) :: st) h K := tm_ic o179_600 (by decide)
set_option maxRecDepth 20000 in
theorem o179_601 : tm_op 179 601 = some (.iadd, (0, 0, 0, 0)) := rfl
theorem r179_601 (d : Nat) (u v : Int32) (ls : tm_Lo) (st : List Value) (h : tm_H) (K : Option Value → tm_H → Prop) : tm_A d 179 601 ls (.int u :: .int v :: st) h K ↔ tm_A d 179 602 ls (.int (v + u) :: st) h K := tm_s o179_601 rfl rfl rfl
set_option maxRecDepth 20000 in
theorem o179_602 : tm_op 179 602 = some (.iaload, (0, 0, 0, 0)) := rfl
theorem r179_602 (d : Nat) (v : Int32) (a : Nat) (ls : tm_Lo) (st : List Value) (G : tm_G) (I : Nat → Nat → Int32) (J : Nat → Nat → Int64) (R : Nat → Nat → Option Nat) (K : Option Value → tm_H → Prop) : tm_A d 179 602 ls (.int v :: .ref a :: st) (G, I, J, R) K ↔ ((G.2.2 a).1 = 1 ∧ tm_in v (G.2.2 a).2) ∧ tm_A d 179 603 ls (.int (I a (tm_ix v)) :: st) (G, I, J, R) K := tm_iald o179_602
set_option maxRecDepth 20000 in
theorem o179_603 : tm_op 179 603 = some (.invokevirtual 78, (2, 100, 3, 9)) := rfl
theorem r179_603 (d : Nat) (v1 : Int32) (v2 : Int32) (a : Nat) (ls : tm_Lo) (st : List Value) (h : tm_H) (K : Option Value → tm_H → Prop) : tm_A (d + 1) 179 603 ls (.int v2 :: .int v1 :: .ref a :: st) h K ↔ (h.1.2.2 a = (0, 9) ∧ tm_cs st) ∧ tm_R d 100 [.ref a, .int v1, .int v2] h (fun r h' => tm_A (d + 1) 179 606 ls (r.toList ++ st) h' K) := tm_callV (as := [.int v1, .int v2]) o179_603 rfl rfl rfl rfl
set_option maxRecDepth 20000 in
theorem o179_606 : tm_op 179 606 = some (.aload_n 2, (0, 0, 0, 0)) := rfl
theorem r179_606 (d : Nat) (v : Nat) (l0 l1 l3 : Option Value) (st : List Value) (h : tm_H) (K : Option Value → tm_H → Prop) : tm_A d 179 606 [l0, l1, some (.ref v), l3] st h K ↔ tm_A d 179 607 [l0, l1, some (.ref v), l3] (.ref v :: st) h K := tm_s o179_606 rfl rfl rfl
theorem r179_606n (d : Nat)  (l0 l1 l3 : Option Value) (st : List Value) (h : tm_H) (K : Option Value → tm_H → Prop) : tm_A d 179 606 [l0, l1, some .null, l3] st h K ↔ tm_A d 179 607 [l0, l1, some .null, l3] (.null :: st) h K := tm_s o179_606 rfl rfl rfl
set_option maxRecDepth 20000 in
theorem o179_607 : tm_op 179 607 = some (.aload_n 0, (0, 0, 0, 0)) := rfl
theorem r179_607 (d : Nat) (v : Nat) (l1 l2 l3 : Option Value) (st : List Value) (h : tm_H) (K : Option Value → tm_H → Prop) : tm_A d 179 607 [some (.ref v), l1, l2, l3] st h K ↔ tm_A d 179 608 [some (.ref v), l1, l2, l3] (.ref v :: st) h K := tm_s o179_607 rfl rfl rfl
set_option maxRecDepth 20000 in
theorem o179_608 : tm_op 179 608 = some (.iload_n 3, (0, 0, 0, 0)) := rfl
theorem r179_608 (d : Nat) (v : Int32) (l0 l1 l2 : Option Value) (st : List Value) (h : tm_H) (K : Option Value → tm_H → Prop) : tm_A d 179 608 [l0, l1, l2, some (.int v)] st h K ↔ tm_A d 179 609 [l0, l1, l2, some (.int v)] (.int v :: st) h K := tm_s o179_608 rfl rfl rfl
set_option maxRecDepth 20000 in
theorem o179_609 : tm_op 179 609 = some (.iconst 1, (0, 0, 0, 0)) := rfl
theorem r179_609 (d : Nat) (ls : tm_Lo) (st : List Value) (h : tm_H) (K : Option Value → tm_H → Prop) : tm_A d 179 609 ls st h K ↔ tm_A d 179 610 ls (.int (1 : Int32) :: st) h K := tm_ic o179_609 (by decide)
set_option maxRecDepth 20000 in
theorem o179_610 : tm_op 179 610 = some (.iadd, (0, 0, 0, 0)) := rfl
theorem r179_610 (d : Nat) (u v : Int32) (ls : tm_Lo) (st : List Value) (h : tm_H) (K : Option Value → tm_H → Prop) : tm_A d 179 610 ls (.int u :: .int v :: st) h K ↔ tm_A d 179 611 ls (.int (v + u) :: st) h K := tm_s o179_610 rfl rfl rfl
set_option maxRecDepth 20000 in
theorem o179_611 : tm_op 179 611 = some (.iaload, (0, 0, 0, 0)) := rfl
theorem r179_611 (d : Nat) (v : Int32) (a : Nat) (ls : tm_Lo) (st : List Value) (G : tm_G) (I : Nat → Nat → Int32) (J : Nat → Nat → Int64) (R : Nat → Nat → Option Nat) (K : Option Value → tm_H → Prop) : tm_A d 179 611 ls (.int v :: .ref a :: st) (G, I, J, R) K ↔ ((G.2.2 a).1 = 1 ∧ tm_in v (G.2.2 a).2) ∧ tm_A d 179 612 ls (.int (I a (tm_ix v)) :: st) (G, I, J, R) K := tm_iald o179_611
set_option maxRecDepth 20000 in
theorem o179_612 : tm_op 179 612 = some (.aload_n 0, (0, 0, 0, 0)) := rfl
theorem r179_612 (d : Nat) (v : Nat) (l1 l2 l3 : Option Value) (st : List Value) (h : tm_H) (K : Option Value → tm_H → Prop) : tm_A d 179 612 [some (.ref v), l1, l2, l3] st h K ↔ tm_A d 179 613 [some (.ref v), l1, l2, l3] (.ref v :: st) h K := tm_s o179_612 rfl rfl rfl
set_option maxRecDepth 20000 in
theorem o179_613 : tm_op 179 613 = some (.iload_n 3, (0, 0, 0, 0)) := rfl
theorem r179_613 (d : Nat) (v : Int32) (l0 l1 l2 : Option Value) (st : List Value) (h : tm_H) (K : Option Value → tm_H → Prop) : tm_A d 179 613 [l0, l1, l2, some (.int v)] st h K ↔ tm_A d 179 614 [l0, l1, l2, some (.int v)] (.int v :: st) h K := tm_s o179_613 rfl rfl rfl
set_option maxRecDepth 20000 in
theorem o179_614 : tm_op 179 614 = some (.iconst 2, (0, 0, 0, 0)) := rfl
theorem r179_614 (d : Nat) (ls : tm_Lo) (st : List Value) (h : tm_H) (K : Option Value → tm_H → Prop) : tm_A d 179 614 ls st h K ↔ tm_A d 179 615 ls (.int (2 : Int32) :: st) h K := tm_ic o179_614 (by decide)
set_option maxRecDepth 20000 in
theorem o179_615 : tm_op 179 615 = some (.iadd, (0, 0, 0, 0)) := rfl
theorem r179_615 (d : Nat) (u v : Int32) (ls : tm_Lo) (st : List Value) (h : tm_H) (K : Option Value → tm_H → Prop) : tm_A d 179 615 ls (.int u :: .int v :: st) h K ↔ tm_A d 179 616 ls (.int (v + u) :: st) h K := tm_s o179_615 rfl rfl rfl
set_option maxRecDepth 20000 in
theorem o179_616 : tm_op 179 616 = some (.iaload, (0, 0, 0, 0)) := rfl
theorem r179_616 (d : Nat) (v : Int32) (a : Nat) (ls : tm_Lo) (st : List Value) (G : tm_G) (I : Nat → Nat → Int32) (J : Nat → Nat → Int64) (R : Nat → Nat → Option Nat) (K : Option Value → tm_H → Prop) : tm_A d 179 616 ls (.int v :: .ref a :: st) (G, I, J, R) K ↔ ((G.2.2 a).1 = 1 ∧ tm_in v (G.2.2 a).2) ∧ tm_A d 179 617 ls (.int (I a (tm_ix v)) :: st) (G, I, J, R) K := tm_iald o179_616
set_option maxRecDepth 20000 in
theorem o179_617 : tm_op 179 617 = some (.invokevirtual 81, (2, 158, 3, 10)) := rfl
theorem r179_617 (d : Nat) (v1 : Int32) (v2 : Int32) (a : Nat) (ls : tm_Lo) (st : List Value) (h : tm_H) (K : Option Value → tm_H → Prop) : tm_A (d + 1) 179 617 ls (.int v2 :: .int v1 :: .ref a :: st) h K ↔ (h.1.2.2 a = (0, 10) ∧ tm_cs st) ∧ tm_R d 158 [.ref a, .int v1, .int v2] h (fun r h' => tm_A (d + 1) 179 620 ls (r.toList ++ st) h' K) := tm_callV (as := [.int v1, .int v2]) o179_617 rfl rfl rfl rfl
set_option maxRecDepth 20000 in
theorem o179_620 : tm_op 179 620 = some (.if_icmp .eq 239, (0, 0, 0, 0)) := rfl
theorem r179_620 (d : Nat) (y x : Int32) (ls : tm_Lo) (st : List Value) (h : tm_H) (K : Option Value → tm_H → Prop) : tm_A d 179 620 ls (.int y :: .int x :: st) h K ↔ if x = y then tm_A d 179 859 ls st h K else tm_A d 179 623 ls st h K := tm_b o179_620 rfl rfl rfl rfl
set_option maxRecDepth 20000 in
theorem o179_623 : tm_op 179 623 = some (.iconst 0, (0, 0, 0, 0)) := rfl
theorem r179_623 (d : Nat) (ls : tm_Lo) (st : List Value) (h : tm_H) (K : Option Value → tm_H → Prop) : tm_A d 179 623 ls st h K ↔ tm_A d 179 624 ls (.int (0 : Int32) :: st) h K := tm_ic o179_623 (by decide)
set_option maxRecDepth 20000 in
theorem o179_624 : tm_op 179 624 = some (.ireturn, (0, 0, 0, 0)) := rfl
theorem r179_624 (d : Nat) (v : Int32) (ls : tm_Lo) (h : tm_H) (K : Option Value → tm_H → Prop) : tm_A d 179 624 ls [.int v] h K ↔ (v = 0 ∨ v = 1) ∧ K (some (.int v)) h := tm_retz o179_624 rfl
set_option maxRecDepth 20000 in
theorem o179_625 : tm_op 179 625 = some (.aload_n 1, (0, 0, 0, 0)) := rfl
theorem r179_625 (d : Nat) (v : Nat) (l0 l2 l3 : Option Value) (st : List Value) (h : tm_H) (K : Option Value → tm_H → Prop) : tm_A d 179 625 [l0, some (.ref v), l2, l3] st h K ↔ tm_A d 179 626 [l0, some (.ref v), l2, l3] (.ref v :: st) h K := tm_s o179_625 rfl rfl rfl
theorem r179_625n (d : Nat)  (l0 l2 l3 : Option Value) (st : List Value) (h : tm_H) (K : Option Value → tm_H → Prop) : tm_A d 179 625 [l0, some .null, l2, l3] st h K ↔ tm_A d 179 626 [l0, some .null, l2, l3] (.null :: st) h K := tm_s o179_625 rfl rfl rfl
set_option maxRecDepth 20000 in
theorem o179_626 : tm_op 179 626 = some (.aload_n 0, (0, 0, 0, 0)) := rfl
theorem r179_626 (d : Nat) (v : Nat) (l1 l2 l3 : Option Value) (st : List Value) (h : tm_H) (K : Option Value → tm_H → Prop) : tm_A d 179 626 [some (.ref v), l1, l2, l3] st h K ↔ tm_A d 179 627 [some (.ref v), l1, l2, l3] (.ref v :: st) h K := tm_s o179_626 rfl rfl rfl
set_option maxRecDepth 20000 in
theorem o179_627 : tm_op 179 627 = some (.iload_n 3, (0, 0, 0, 0)) := rfl
theorem r179_627 (d : Nat) (v : Int32) (l0 l1 l2 : Option Value) (st : List Value) (h : tm_H) (K : Option Value → tm_H → Prop) : tm_A d 179 627 [l0, l1, l2, some (.int v)] st h K ↔ tm_A d 179 628 [l0, l1, l2, some (.int v)] (.int v :: st) h K := tm_s o179_627 rfl rfl rfl
set_option maxRecDepth 20000 in
theorem o179_628 : tm_op 179 628 = some (.iconst 1, (0, 0, 0, 0)) := rfl
theorem r179_628 (d : Nat) (ls : tm_Lo) (st : List Value) (h : tm_H) (K : Option Value → tm_H → Prop) : tm_A d 179 628 ls st h K ↔ tm_A d 179 629 ls (.int (1 : Int32) :: st) h K := tm_ic o179_628 (by decide)
set_option maxRecDepth 20000 in
theorem o179_629 : tm_op 179 629 = some (.iadd, (0, 0, 0, 0)) := rfl
theorem r179_629 (d : Nat) (u v : Int32) (ls : tm_Lo) (st : List Value) (h : tm_H) (K : Option Value → tm_H → Prop) : tm_A d 179 629 ls (.int u :: .int v :: st) h K ↔ tm_A d 179 630 ls (.int (v + u) :: st) h K := tm_s o179_629 rfl rfl rfl
set_option maxRecDepth 20000 in
theorem o179_630 : tm_op 179 630 = some (.iaload, (0, 0, 0, 0)) := rfl
theorem r179_630 (d : Nat) (v : Int32) (a : Nat) (ls : tm_Lo) (st : List Value) (G : tm_G) (I : Nat → Nat → Int32) (J : Nat → Nat → Int64) (R : Nat → Nat → Option Nat) (K : Option Value → tm_H → Prop) : tm_A d 179 630 ls (.int v :: .ref a :: st) (G, I, J, R) K ↔ ((G.2.2 a).1 = 1 ∧ tm_in v (G.2.2 a).2) ∧ tm_A d 179 631 ls (.int (I a (tm_ix v)) :: st) (G, I, J, R) K := tm_iald o179_630
set_option maxRecDepth 20000 in
theorem o179_631 : tm_op 179 631 = some (.invokevirtual 82, (2, 101, 2, 9)) := rfl
theorem r179_631 (d : Nat) (v1 : Int32) (a : Nat) (ls : tm_Lo) (st : List Value) (h : tm_H) (K : Option Value → tm_H → Prop) : tm_A (d + 1) 179 631 ls (.int v1 :: .ref a :: st) h K ↔ (h.1.2.2 a = (0, 9) ∧ tm_cs st) ∧ tm_R d 101 [.ref a, .int v1] h (fun r h' => tm_A (d + 1) 179 634 ls (r.toList ++ st) h' K) := tm_callV (as := [.int v1]) o179_631 rfl rfl rfl rfl
set_option maxRecDepth 20000 in
theorem o179_634 : tm_op 179 634 = some (.aload_n 2, (0, 0, 0, 0)) := rfl
theorem r179_634 (d : Nat) (v : Nat) (l0 l1 l3 : Option Value) (st : List Value) (h : tm_H) (K : Option Value → tm_H → Prop) : tm_A d 179 634 [l0, l1, some (.ref v), l3] st h K ↔ tm_A d 179 635 [l0, l1, some (.ref v), l3] (.ref v :: st) h K := tm_s o179_634 rfl rfl rfl
theorem r179_634n (d : Nat)  (l0 l1 l3 : Option Value) (st : List Value) (h : tm_H) (K : Option Value → tm_H → Prop) : tm_A d 179 634 [l0, l1, some .null, l3] st h K ↔ tm_A d 179 635 [l0, l1, some .null, l3] (.null :: st) h K := tm_s o179_634 rfl rfl rfl
set_option maxRecDepth 20000 in
theorem o179_635 : tm_op 179 635 = some (.aload_n 0, (0, 0, 0, 0)) := rfl
theorem r179_635 (d : Nat) (v : Nat) (l1 l2 l3 : Option Value) (st : List Value) (h : tm_H) (K : Option Value → tm_H → Prop) : tm_A d 179 635 [some (.ref v), l1, l2, l3] st h K ↔ tm_A d 179 636 [some (.ref v), l1, l2, l3] (.ref v :: st) h K := tm_s o179_635 rfl rfl rfl
set_option maxRecDepth 20000 in
theorem o179_636 : tm_op 179 636 = some (.iload_n 3, (0, 0, 0, 0)) := rfl
theorem r179_636 (d : Nat) (v : Int32) (l0 l1 l2 : Option Value) (st : List Value) (h : tm_H) (K : Option Value → tm_H → Prop) : tm_A d 179 636 [l0, l1, l2, some (.int v)] st h K ↔ tm_A d 179 637 [l0, l1, l2, some (.int v)] (.int v :: st) h K := tm_s o179_636 rfl rfl rfl
set_option maxRecDepth 20000 in
theorem o179_637 : tm_op 179 637 = some (.iconst 1, (0, 0, 0, 0)) := rfl
theorem r179_637 (d : Nat) (ls : tm_Lo) (st : List Value) (h : tm_H) (K : Option Value → tm_H → Prop) : tm_A d 179 637 ls st h K ↔ tm_A d 179 638 ls (.int (1 : Int32) :: st) h K := tm_ic o179_637 (by decide)
set_option maxRecDepth 20000 in
theorem o179_638 : tm_op 179 638 = some (.iadd, (0, 0, 0, 0)) := rfl
theorem r179_638 (d : Nat) (u v : Int32) (ls : tm_Lo) (st : List Value) (h : tm_H) (K : Option Value → tm_H → Prop) : tm_A d 179 638 ls (.int u :: .int v :: st) h K ↔ tm_A d 179 639 ls (.int (v + u) :: st) h K := tm_s o179_638 rfl rfl rfl
set_option maxRecDepth 20000 in
theorem o179_639 : tm_op 179 639 = some (.iaload, (0, 0, 0, 0)) := rfl
theorem r179_639 (d : Nat) (v : Int32) (a : Nat) (ls : tm_Lo) (st : List Value) (G : tm_G) (I : Nat → Nat → Int32) (J : Nat → Nat → Int64) (R : Nat → Nat → Option Nat) (K : Option Value → tm_H → Prop) : tm_A d 179 639 ls (.int v :: .ref a :: st) (G, I, J, R) K ↔ ((G.2.2 a).1 = 1 ∧ tm_in v (G.2.2 a).2) ∧ tm_A d 179 640 ls (.int (I a (tm_ix v)) :: st) (G, I, J, R) K := tm_iald o179_639
set_option maxRecDepth 20000 in
theorem o179_640 : tm_op 179 640 = some (.invokevirtual 85, (2, 159, 2, 10)) := rfl
theorem r179_640 (d : Nat) (v1 : Int32) (a : Nat) (ls : tm_Lo) (st : List Value) (h : tm_H) (K : Option Value → tm_H → Prop) : tm_A (d + 1) 179 640 ls (.int v1 :: .ref a :: st) h K ↔ (h.1.2.2 a = (0, 10) ∧ tm_cs st) ∧ tm_R d 159 [.ref a, .int v1] h (fun r h' => tm_A (d + 1) 179 643 ls (r.toList ++ st) h' K) := tm_callV (as := [.int v1]) o179_640 rfl rfl rfl rfl
set_option maxRecDepth 20000 in
theorem o179_643 : tm_op 179 643 = some (.if_icmp .eq 216, (0, 0, 0, 0)) := rfl
theorem r179_643 (d : Nat) (y x : Int32) (ls : tm_Lo) (st : List Value) (h : tm_H) (K : Option Value → tm_H → Prop) : tm_A d 179 643 ls (.int y :: .int x :: st) h K ↔ if x = y then tm_A d 179 859 ls st h K else tm_A d 179 646 ls st h K := tm_b o179_643 rfl rfl rfl rfl
set_option maxRecDepth 20000 in
theorem o179_646 : tm_op 179 646 = some (.iconst 0, (0, 0, 0, 0)) := rfl
theorem r179_646 (d : Nat) (ls : tm_Lo) (st : List Value) (h : tm_H) (K : Option Value → tm_H → Prop) : tm_A d 179 646 ls st h K ↔ tm_A d 179 647 ls (.int (0 : Int32) :: st) h K := tm_ic o179_646 (by decide)
set_option maxRecDepth 20000 in
theorem o179_647 : tm_op 179 647 = some (.ireturn, (0, 0, 0, 0)) := rfl
theorem r179_647 (d : Nat) (v : Int32) (ls : tm_Lo) (h : tm_H) (K : Option Value → tm_H → Prop) : tm_A d 179 647 ls [.int v] h K ↔ (v = 0 ∨ v = 1) ∧ K (some (.int v)) h := tm_retz o179_647 rfl
set_option maxRecDepth 20000 in
theorem o179_648 : tm_op 179 648 = some (.aload_n 1, (0, 0, 0, 0)) := rfl
theorem r179_648 (d : Nat) (v : Nat) (l0 l2 l3 : Option Value) (st : List Value) (h : tm_H) (K : Option Value → tm_H → Prop) : tm_A d 179 648 [l0, some (.ref v), l2, l3] st h K ↔ tm_A d 179 649 [l0, some (.ref v), l2, l3] (.ref v :: st) h K := tm_s o179_648 rfl rfl rfl
theorem r179_648n (d : Nat)  (l0 l2 l3 : Option Value) (st : List Value) (h : tm_H) (K : Option Value → tm_H → Prop) : tm_A d 179 648 [l0, some .null, l2, l3] st h K ↔ tm_A d 179 649 [l0, some .null, l2, l3] (.null :: st) h K := tm_s o179_648 rfl rfl rfl
set_option maxRecDepth 20000 in
theorem o179_649 : tm_op 179 649 = some (.aload_n 0, (0, 0, 0, 0)) := rfl
theorem r179_649 (d : Nat) (v : Nat) (l1 l2 l3 : Option Value) (st : List Value) (h : tm_H) (K : Option Value → tm_H → Prop) : tm_A d 179 649 [some (.ref v), l1, l2, l3] st h K ↔ tm_A d 179 650 [some (.ref v), l1, l2, l3] (.ref v :: st) h K := tm_s o179_649 rfl rfl rfl
set_option maxRecDepth 20000 in
theorem o179_650 : tm_op 179 650 = some (.iload_n 3, (0, 0, 0, 0)) := rfl
theorem r179_650 (d : Nat) (v : Int32) (l0 l1 l2 : Option Value) (st : List Value) (h : tm_H) (K : Option Value → tm_H → Prop) : tm_A d 179 650 [l0, l1, l2, some (.int v)] st h K ↔ tm_A d 179 651 [l0, l1, l2, some (.int v)] (.int v :: st) h K := tm_s o179_650 rfl rfl rfl
set_option maxRecDepth 20000 in
theorem o179_651 : tm_op 179 651 = some (.iconst 1, (0, 0, 0, 0)) := rfl
theorem r179_651 (d : Nat) (ls : tm_Lo) (st : List Value) (h : tm_H) (K : Option Value → tm_H → Prop) : tm_A d 179 651 ls st h K ↔ tm_A d 179 652 ls (.int (1 : Int32) :: st) h K := tm_ic o179_651 (by decide)
set_option maxRecDepth 20000 in
theorem o179_652 : tm_op 179 652 = some (.iadd, (0, 0, 0, 0)) := rfl
theorem r179_652 (d : Nat) (u v : Int32) (ls : tm_Lo) (st : List Value) (h : tm_H) (K : Option Value → tm_H → Prop) : tm_A d 179 652 ls (.int u :: .int v :: st) h K ↔ tm_A d 179 653 ls (.int (v + u) :: st) h K := tm_s o179_652 rfl rfl rfl
set_option maxRecDepth 20000 in
theorem o179_653 : tm_op 179 653 = some (.iaload, (0, 0, 0, 0)) := rfl
theorem r179_653 (d : Nat) (v : Int32) (a : Nat) (ls : tm_Lo) (st : List Value) (G : tm_G) (I : Nat → Nat → Int32) (J : Nat → Nat → Int64) (R : Nat → Nat → Option Nat) (K : Option Value → tm_H → Prop) : tm_A d 179 653 ls (.int v :: .ref a :: st) (G, I, J, R) K ↔ ((G.2.2 a).1 = 1 ∧ tm_in v (G.2.2 a).2) ∧ tm_A d 179 654 ls (.int (I a (tm_ix v)) :: st) (G, I, J, R) K := tm_iald o179_653
set_option maxRecDepth 20000 in
theorem o179_654 : tm_op 179 654 = some (.invokevirtual 86, (2, 102, 2, 9)) := rfl
theorem r179_654 (d : Nat) (v1 : Int32) (a : Nat) (ls : tm_Lo) (st : List Value) (h : tm_H) (K : Option Value → tm_H → Prop) : tm_A (d + 1) 179 654 ls (.int v1 :: .ref a :: st) h K ↔ (h.1.2.2 a = (0, 9) ∧ tm_cs st) ∧ tm_R d 102 [.ref a, .int v1] h (fun r h' => tm_A (d + 1) 179 657 ls (r.toList ++ st) h' K) := tm_callV (as := [.int v1]) o179_654 rfl rfl rfl rfl
set_option maxRecDepth 20000 in
theorem o179_657 : tm_op 179 657 = some (.aload_n 2, (0, 0, 0, 0)) := rfl
theorem r179_657 (d : Nat) (v : Nat) (l0 l1 l3 : Option Value) (st : List Value) (h : tm_H) (K : Option Value → tm_H → Prop) : tm_A d 179 657 [l0, l1, some (.ref v), l3] st h K ↔ tm_A d 179 658 [l0, l1, some (.ref v), l3] (.ref v :: st) h K := tm_s o179_657 rfl rfl rfl
theorem r179_657n (d : Nat)  (l0 l1 l3 : Option Value) (st : List Value) (h : tm_H) (K : Option Value → tm_H → Prop) : tm_A d 179 657 [l0, l1, some .null, l3] st h K ↔ tm_A d 179 658 [l0, l1, some .null, l3] (.null :: st) h K := tm_s o179_657 rfl rfl rfl
set_option maxRecDepth 20000 in
theorem o179_658 : tm_op 179 658 = some (.aload_n 0, (0, 0, 0, 0)) := rfl
theorem r179_658 (d : Nat) (v : Nat) (l1 l2 l3 : Option Value) (st : List Value) (h : tm_H) (K : Option Value → tm_H → Prop) : tm_A d 179 658 [some (.ref v), l1, l2, l3] st h K ↔ tm_A d 179 659 [some (.ref v), l1, l2, l3] (.ref v :: st) h K := tm_s o179_658 rfl rfl rfl
set_option maxRecDepth 20000 in
theorem o179_659 : tm_op 179 659 = some (.iload_n 3, (0, 0, 0, 0)) := rfl
theorem r179_659 (d : Nat) (v : Int32) (l0 l1 l2 : Option Value) (st : List Value) (h : tm_H) (K : Option Value → tm_H → Prop) : tm_A d 179 659 [l0, l1, l2, some (.int v)] st h K ↔ tm_A d 179 660 [l0, l1, l2, some (.int v)] (.int v :: st) h K := tm_s o179_659 rfl rfl rfl
set_option maxRecDepth 20000 in
theorem o179_660 : tm_op 179 660 = some (.iconst 1, (0, 0, 0, 0)) := rfl
theorem r179_660 (d : Nat) (ls : tm_Lo) (st : List Value) (h : tm_H) (K : Option Value → tm_H → Prop) : tm_A d 179 660 ls st h K ↔ tm_A d 179 661 ls (.int (1 : Int32) :: st) h K := tm_ic o179_660 (by decide)
set_option maxRecDepth 20000 in
theorem o179_661 : tm_op 179 661 = some (.iadd, (0, 0, 0, 0)) := rfl
theorem r179_661 (d : Nat) (u v : Int32) (ls : tm_Lo) (st : List Value) (h : tm_H) (K : Option Value → tm_H → Prop) : tm_A d 179 661 ls (.int u :: .int v :: st) h K ↔ tm_A d 179 662 ls (.int (v + u) :: st) h K := tm_s o179_661 rfl rfl rfl
set_option maxRecDepth 20000 in
theorem o179_662 : tm_op 179 662 = some (.iaload, (0, 0, 0, 0)) := rfl
theorem r179_662 (d : Nat) (v : Int32) (a : Nat) (ls : tm_Lo) (st : List Value) (G : tm_G) (I : Nat → Nat → Int32) (J : Nat → Nat → Int64) (R : Nat → Nat → Option Nat) (K : Option Value → tm_H → Prop) : tm_A d 179 662 ls (.int v :: .ref a :: st) (G, I, J, R) K ↔ ((G.2.2 a).1 = 1 ∧ tm_in v (G.2.2 a).2) ∧ tm_A d 179 663 ls (.int (I a (tm_ix v)) :: st) (G, I, J, R) K := tm_iald o179_662
set_option maxRecDepth 20000 in
theorem o179_663 : tm_op 179 663 = some (.invokevirtual 89, (2, 160, 2, 10)) := rfl
theorem r179_663 (d : Nat) (v1 : Int32) (a : Nat) (ls : tm_Lo) (st : List Value) (h : tm_H) (K : Option Value → tm_H → Prop) : tm_A (d + 1) 179 663 ls (.int v1 :: .ref a :: st) h K ↔ (h.1.2.2 a = (0, 10) ∧ tm_cs st) ∧ tm_R d 160 [.ref a, .int v1] h (fun r h' => tm_A (d + 1) 179 666 ls (r.toList ++ st) h' K) := tm_callV (as := [.int v1]) o179_663 rfl rfl rfl rfl
set_option maxRecDepth 20000 in
theorem o179_666 : tm_op 179 666 = some (.if_icmp .eq 193, (0, 0, 0, 0)) := rfl
theorem r179_666 (d : Nat) (y x : Int32) (ls : tm_Lo) (st : List Value) (h : tm_H) (K : Option Value → tm_H → Prop) : tm_A d 179 666 ls (.int y :: .int x :: st) h K ↔ if x = y then tm_A d 179 859 ls st h K else tm_A d 179 669 ls st h K := tm_b o179_666 rfl rfl rfl rfl
set_option maxRecDepth 20000 in
theorem o179_669 : tm_op 179 669 = some (.iconst 0, (0, 0, 0, 0)) := rfl
theorem r179_669 (d : Nat) (ls : tm_Lo) (st : List Value) (h : tm_H) (K : Option Value → tm_H → Prop) : tm_A d 179 669 ls st h K ↔ tm_A d 179 670 ls (.int (0 : Int32) :: st) h K := tm_ic o179_669 (by decide)
set_option maxRecDepth 20000 in
theorem o179_670 : tm_op 179 670 = some (.ireturn, (0, 0, 0, 0)) := rfl
theorem r179_670 (d : Nat) (v : Int32) (ls : tm_Lo) (h : tm_H) (K : Option Value → tm_H → Prop) : tm_A d 179 670 ls [.int v] h K ↔ (v = 0 ∨ v = 1) ∧ K (some (.int v)) h := tm_retz o179_670 rfl
set_option maxRecDepth 20000 in
theorem o179_671 : tm_op 179 671 = some (.aload_n 1, (0, 0, 0, 0)) := rfl
theorem r179_671 (d : Nat) (v : Nat) (l0 l2 l3 : Option Value) (st : List Value) (h : tm_H) (K : Option Value → tm_H → Prop) : tm_A d 179 671 [l0, some (.ref v), l2, l3] st h K ↔ tm_A d 179 672 [l0, some (.ref v), l2, l3] (.ref v :: st) h K := tm_s o179_671 rfl rfl rfl
theorem r179_671n (d : Nat)  (l0 l2 l3 : Option Value) (st : List Value) (h : tm_H) (K : Option Value → tm_H → Prop) : tm_A d 179 671 [l0, some .null, l2, l3] st h K ↔ tm_A d 179 672 [l0, some .null, l2, l3] (.null :: st) h K := tm_s o179_671 rfl rfl rfl
set_option maxRecDepth 20000 in
theorem o179_672 : tm_op 179 672 = some (.aload_n 0, (0, 0, 0, 0)) := rfl
theorem r179_672 (d : Nat) (v : Nat) (l1 l2 l3 : Option Value) (st : List Value) (h : tm_H) (K : Option Value → tm_H → Prop) : tm_A d 179 672 [some (.ref v), l1, l2, l3] st h K ↔ tm_A d 179 673 [some (.ref v), l1, l2, l3] (.ref v :: st) h K := tm_s o179_672 rfl rfl rfl
set_option maxRecDepth 20000 in
theorem o179_673 : tm_op 179 673 = some (.iload_n 3, (0, 0, 0, 0)) := rfl
theorem r179_673 (d : Nat) (v : Int32) (l0 l1 l2 : Option Value) (st : List Value) (h : tm_H) (K : Option Value → tm_H → Prop) : tm_A d 179 673 [l0, l1, l2, some (.int v)] st h K ↔ tm_A d 179 674 [l0, l1, l2, some (.int v)] (.int v :: st) h K := tm_s o179_673 rfl rfl rfl
set_option maxRecDepth 20000 in
theorem o179_674 : tm_op 179 674 = some (.iconst 1, (0, 0, 0, 0)) := rfl
theorem r179_674 (d : Nat) (ls : tm_Lo) (st : List Value) (h : tm_H) (K : Option Value → tm_H → Prop) : tm_A d 179 674 ls st h K ↔ tm_A d 179 675 ls (.int (1 : Int32) :: st) h K := tm_ic o179_674 (by decide)
set_option maxRecDepth 20000 in
theorem o179_675 : tm_op 179 675 = some (.iadd, (0, 0, 0, 0)) := rfl
theorem r179_675 (d : Nat) (u v : Int32) (ls : tm_Lo) (st : List Value) (h : tm_H) (K : Option Value → tm_H → Prop) : tm_A d 179 675 ls (.int u :: .int v :: st) h K ↔ tm_A d 179 676 ls (.int (v + u) :: st) h K := tm_s o179_675 rfl rfl rfl
set_option maxRecDepth 20000 in
theorem o179_676 : tm_op 179 676 = some (.iaload, (0, 0, 0, 0)) := rfl
theorem r179_676 (d : Nat) (v : Int32) (a : Nat) (ls : tm_Lo) (st : List Value) (G : tm_G) (I : Nat → Nat → Int32) (J : Nat → Nat → Int64) (R : Nat → Nat → Option Nat) (K : Option Value → tm_H → Prop) : tm_A d 179 676 ls (.int v :: .ref a :: st) (G, I, J, R) K ↔ ((G.2.2 a).1 = 1 ∧ tm_in v (G.2.2 a).2) ∧ tm_A d 179 677 ls (.int (I a (tm_ix v)) :: st) (G, I, J, R) K := tm_iald o179_676
set_option maxRecDepth 20000 in
theorem o179_677 : tm_op 179 677 = some (.aload_n 0, (0, 0, 0, 0)) := rfl
theorem r179_677 (d : Nat) (v : Nat) (l1 l2 l3 : Option Value) (st : List Value) (h : tm_H) (K : Option Value → tm_H → Prop) : tm_A d 179 677 [some (.ref v), l1, l2, l3] st h K ↔ tm_A d 179 678 [some (.ref v), l1, l2, l3] (.ref v :: st) h K := tm_s o179_677 rfl rfl rfl
set_option maxRecDepth 20000 in
theorem o179_678 : tm_op 179 678 = some (.iload_n 3, (0, 0, 0, 0)) := rfl
theorem r179_678 (d : Nat) (v : Int32) (l0 l1 l2 : Option Value) (st : List Value) (h : tm_H) (K : Option Value → tm_H → Prop) : tm_A d 179 678 [l0, l1, l2, some (.int v)] st h K ↔ tm_A d 179 679 [l0, l1, l2, some (.int v)] (.int v :: st) h K := tm_s o179_678 rfl rfl rfl
set_option maxRecDepth 20000 in
theorem o179_679 : tm_op 179 679 = some (.iconst 2, (0, 0, 0, 0)) := rfl
theorem r179_679 (d : Nat) (ls : tm_Lo) (st : List Value) (h : tm_H) (K : Option Value → tm_H → Prop) : tm_A d 179 679 ls st h K ↔ tm_A d 179 680 ls (.int (2 : Int32) :: st) h K := tm_ic o179_679 (by decide)
set_option maxRecDepth 20000 in
theorem o179_680 : tm_op 179 680 = some (.iadd, (0, 0, 0, 0)) := rfl
theorem r179_680 (d : Nat) (u v : Int32) (ls : tm_Lo) (st : List Value) (h : tm_H) (K : Option Value → tm_H → Prop) : tm_A d 179 680 ls (.int u :: .int v :: st) h K ↔ tm_A d 179 681 ls (.int (v + u) :: st) h K := tm_s o179_680 rfl rfl rfl
set_option maxRecDepth 20000 in
theorem o179_681 : tm_op 179 681 = some (.iaload, (0, 0, 0, 0)) := rfl
theorem r179_681 (d : Nat) (v : Int32) (a : Nat) (ls : tm_Lo) (st : List Value) (G : tm_G) (I : Nat → Nat → Int32) (J : Nat → Nat → Int64) (R : Nat → Nat → Option Nat) (K : Option Value → tm_H → Prop) : tm_A d 179 681 ls (.int v :: .ref a :: st) (G, I, J, R) K ↔ ((G.2.2 a).1 = 1 ∧ tm_in v (G.2.2 a).2) ∧ tm_A d 179 682 ls (.int (I a (tm_ix v)) :: st) (G, I, J, R) K := tm_iald o179_681
set_option maxRecDepth 20000 in
theorem o179_682 : tm_op 179 682 = some (.aload_n 0, (0, 0, 0, 0)) := rfl
theorem r179_682 (d : Nat) (v : Nat) (l1 l2 l3 : Option Value) (st : List Value) (h : tm_H) (K : Option Value → tm_H → Prop) : tm_A d 179 682 [some (.ref v), l1, l2, l3] st h K ↔ tm_A d 179 683 [some (.ref v), l1, l2, l3] (.ref v :: st) h K := tm_s o179_682 rfl rfl rfl
set_option maxRecDepth 20000 in
theorem o179_683 : tm_op 179 683 = some (.iload_n 3, (0, 0, 0, 0)) := rfl
theorem r179_683 (d : Nat) (v : Int32) (l0 l1 l2 : Option Value) (st : List Value) (h : tm_H) (K : Option Value → tm_H → Prop) : tm_A d 179 683 [l0, l1, l2, some (.int v)] st h K ↔ tm_A d 179 684 [l0, l1, l2, some (.int v)] (.int v :: st) h K := tm_s o179_683 rfl rfl rfl
set_option maxRecDepth 20000 in
theorem o179_684 : tm_op 179 684 = some (.iconst 3, (0, 0, 0, 0)) := rfl
theorem r179_684 (d : Nat) (ls : tm_Lo) (st : List Value) (h : tm_H) (K : Option Value → tm_H → Prop) : tm_A d 179 684 ls st h K ↔ tm_A d 179 685 ls (.int (3 : Int32) :: st) h K := tm_ic o179_684 (by decide)
set_option maxRecDepth 20000 in
theorem o179_685 : tm_op 179 685 = some (.iadd, (0, 0, 0, 0)) := rfl
theorem r179_685 (d : Nat) (u v : Int32) (ls : tm_Lo) (st : List Value) (h : tm_H) (K : Option Value → tm_H → Prop) : tm_A d 179 685 ls (.int u :: .int v :: st) h K ↔ tm_A d 179 686 ls (.int (v + u) :: st) h K := tm_s o179_685 rfl rfl rfl
set_option maxRecDepth 20000 in
theorem o179_686 : tm_op 179 686 = some (.iaload, (0, 0, 0, 0)) := rfl
theorem r179_686 (d : Nat) (v : Int32) (a : Nat) (ls : tm_Lo) (st : List Value) (G : tm_G) (I : Nat → Nat → Int32) (J : Nat → Nat → Int64) (R : Nat → Nat → Option Nat) (K : Option Value → tm_H → Prop) : tm_A d 179 686 ls (.int v :: .ref a :: st) (G, I, J, R) K ↔ ((G.2.2 a).1 = 1 ∧ tm_in v (G.2.2 a).2) ∧ tm_A d 179 687 ls (.int (I a (tm_ix v)) :: st) (G, I, J, R) K := tm_iald o179_686
set_option maxRecDepth 20000 in
theorem o179_687 : tm_op 179 687 = some (.invokevirtual 90, (2, 103, 4, 9)) := rfl
theorem r179_687 (d : Nat) (v1 : Int32) (v2 : Int32) (v3 : Int32) (a : Nat) (ls : tm_Lo) (st : List Value) (h : tm_H) (K : Option Value → tm_H → Prop) : tm_A (d + 1) 179 687 ls (.int v3 :: .int v2 :: .int v1 :: .ref a :: st) h K ↔ (h.1.2.2 a = (0, 9) ∧ tm_cs st) ∧ tm_R d 103 [.ref a, .int v1, .int v2, .int v3] h (fun r h' => tm_A (d + 1) 179 690 ls (r.toList ++ st) h' K) := tm_callV (as := [.int v1, .int v2, .int v3]) o179_687 rfl rfl rfl rfl
set_option maxRecDepth 20000 in
theorem o179_690 : tm_op 179 690 = some (.aload_n 2, (0, 0, 0, 0)) := rfl
theorem r179_690 (d : Nat) (v : Nat) (l0 l1 l3 : Option Value) (st : List Value) (h : tm_H) (K : Option Value → tm_H → Prop) : tm_A d 179 690 [l0, l1, some (.ref v), l3] st h K ↔ tm_A d 179 691 [l0, l1, some (.ref v), l3] (.ref v :: st) h K := tm_s o179_690 rfl rfl rfl
theorem r179_690n (d : Nat)  (l0 l1 l3 : Option Value) (st : List Value) (h : tm_H) (K : Option Value → tm_H → Prop) : tm_A d 179 690 [l0, l1, some .null, l3] st h K ↔ tm_A d 179 691 [l0, l1, some .null, l3] (.null :: st) h K := tm_s o179_690 rfl rfl rfl
set_option maxRecDepth 20000 in
theorem o179_691 : tm_op 179 691 = some (.aload_n 0, (0, 0, 0, 0)) := rfl
theorem r179_691 (d : Nat) (v : Nat) (l1 l2 l3 : Option Value) (st : List Value) (h : tm_H) (K : Option Value → tm_H → Prop) : tm_A d 179 691 [some (.ref v), l1, l2, l3] st h K ↔ tm_A d 179 692 [some (.ref v), l1, l2, l3] (.ref v :: st) h K := tm_s o179_691 rfl rfl rfl
set_option maxRecDepth 20000 in
theorem o179_692 : tm_op 179 692 = some (.iload_n 3, (0, 0, 0, 0)) := rfl
theorem r179_692 (d : Nat) (v : Int32) (l0 l1 l2 : Option Value) (st : List Value) (h : tm_H) (K : Option Value → tm_H → Prop) : tm_A d 179 692 [l0, l1, l2, some (.int v)] st h K ↔ tm_A d 179 693 [l0, l1, l2, some (.int v)] (.int v :: st) h K := tm_s o179_692 rfl rfl rfl
set_option maxRecDepth 20000 in
theorem o179_693 : tm_op 179 693 = some (.iconst 1, (0, 0, 0, 0)) := rfl
theorem r179_693 (d : Nat) (ls : tm_Lo) (st : List Value) (h : tm_H) (K : Option Value → tm_H → Prop) : tm_A d 179 693 ls st h K ↔ tm_A d 179 694 ls (.int (1 : Int32) :: st) h K := tm_ic o179_693 (by decide)
set_option maxRecDepth 20000 in
theorem o179_694 : tm_op 179 694 = some (.iadd, (0, 0, 0, 0)) := rfl
theorem r179_694 (d : Nat) (u v : Int32) (ls : tm_Lo) (st : List Value) (h : tm_H) (K : Option Value → tm_H → Prop) : tm_A d 179 694 ls (.int u :: .int v :: st) h K ↔ tm_A d 179 695 ls (.int (v + u) :: st) h K := tm_s o179_694 rfl rfl rfl
set_option maxRecDepth 20000 in
theorem o179_695 : tm_op 179 695 = some (.iaload, (0, 0, 0, 0)) := rfl
theorem r179_695 (d : Nat) (v : Int32) (a : Nat) (ls : tm_Lo) (st : List Value) (G : tm_G) (I : Nat → Nat → Int32) (J : Nat → Nat → Int64) (R : Nat → Nat → Option Nat) (K : Option Value → tm_H → Prop) : tm_A d 179 695 ls (.int v :: .ref a :: st) (G, I, J, R) K ↔ ((G.2.2 a).1 = 1 ∧ tm_in v (G.2.2 a).2) ∧ tm_A d 179 696 ls (.int (I a (tm_ix v)) :: st) (G, I, J, R) K := tm_iald o179_695
set_option maxRecDepth 20000 in
theorem o179_696 : tm_op 179 696 = some (.aload_n 0, (0, 0, 0, 0)) := rfl
theorem r179_696 (d : Nat) (v : Nat) (l1 l2 l3 : Option Value) (st : List Value) (h : tm_H) (K : Option Value → tm_H → Prop) : tm_A d 179 696 [some (.ref v), l1, l2, l3] st h K ↔ tm_A d 179 697 [some (.ref v), l1, l2, l3] (.ref v :: st) h K := tm_s o179_696 rfl rfl rfl
set_option maxRecDepth 20000 in
theorem o179_697 : tm_op 179 697 = some (.iload_n 3, (0, 0, 0, 0)) := rfl
theorem r179_697 (d : Nat) (v : Int32) (l0 l1 l2 : Option Value) (st : List Value) (h : tm_H) (K : Option Value → tm_H → Prop) : tm_A d 179 697 [l0, l1, l2, some (.int v)] st h K ↔ tm_A d 179 698 [l0, l1, l2, some (.int v)] (.int v :: st) h K := tm_s o179_697 rfl rfl rfl
set_option maxRecDepth 20000 in
theorem o179_698 : tm_op 179 698 = some (.iconst 2, (0, 0, 0, 0)) := rfl
theorem r179_698 (d : Nat) (ls : tm_Lo) (st : List Value) (h : tm_H) (K : Option Value → tm_H → Prop) : tm_A d 179 698 ls st h K ↔ tm_A d 179 699 ls (.int (2 : Int32) :: st) h K := tm_ic o179_698 (by decide)
set_option maxRecDepth 20000 in
theorem o179_699 : tm_op 179 699 = some (.iadd, (0, 0, 0, 0)) := rfl
theorem r179_699 (d : Nat) (u v : Int32) (ls : tm_Lo) (st : List Value) (h : tm_H) (K : Option Value → tm_H → Prop) : tm_A d 179 699 ls (.int u :: .int v :: st) h K ↔ tm_A d 179 700 ls (.int (v + u) :: st) h K := tm_s o179_699 rfl rfl rfl
set_option maxRecDepth 20000 in
theorem o179_700 : tm_op 179 700 = some (.iaload, (0, 0, 0, 0)) := rfl
theorem r179_700 (d : Nat) (v : Int32) (a : Nat) (ls : tm_Lo) (st : List Value) (G : tm_G) (I : Nat → Nat → Int32) (J : Nat → Nat → Int64) (R : Nat → Nat → Option Nat) (K : Option Value → tm_H → Prop) : tm_A d 179 700 ls (.int v :: .ref a :: st) (G, I, J, R) K ↔ ((G.2.2 a).1 = 1 ∧ tm_in v (G.2.2 a).2) ∧ tm_A d 179 701 ls (.int (I a (tm_ix v)) :: st) (G, I, J, R) K := tm_iald o179_700
set_option maxRecDepth 20000 in
theorem o179_701 : tm_op 179 701 = some (.aload_n 0, (0, 0, 0, 0)) := rfl
theorem r179_701 (d : Nat) (v : Nat) (l1 l2 l3 : Option Value) (st : List Value) (h : tm_H) (K : Option Value → tm_H → Prop) : tm_A d 179 701 [some (.ref v), l1, l2, l3] st h K ↔ tm_A d 179 702 [some (.ref v), l1, l2, l3] (.ref v :: st) h K := tm_s o179_701 rfl rfl rfl
set_option maxRecDepth 20000 in
theorem o179_702 : tm_op 179 702 = some (.iload_n 3, (0, 0, 0, 0)) := rfl
theorem r179_702 (d : Nat) (v : Int32) (l0 l1 l2 : Option Value) (st : List Value) (h : tm_H) (K : Option Value → tm_H → Prop) : tm_A d 179 702 [l0, l1, l2, some (.int v)] st h K ↔ tm_A d 179 703 [l0, l1, l2, some (.int v)] (.int v :: st) h K := tm_s o179_702 rfl rfl rfl
set_option maxRecDepth 20000 in
theorem o179_703 : tm_op 179 703 = some (.iconst 3, (0, 0, 0, 0)) := rfl
theorem r179_703 (d : Nat) (ls : tm_Lo) (st : List Value) (h : tm_H) (K : Option Value → tm_H → Prop) : tm_A d 179 703 ls st h K ↔ tm_A d 179 704 ls (.int (3 : Int32) :: st) h K := tm_ic o179_703 (by decide)
set_option maxRecDepth 20000 in
theorem o179_704 : tm_op 179 704 = some (.iadd, (0, 0, 0, 0)) := rfl
theorem r179_704 (d : Nat) (u v : Int32) (ls : tm_Lo) (st : List Value) (h : tm_H) (K : Option Value → tm_H → Prop) : tm_A d 179 704 ls (.int u :: .int v :: st) h K ↔ tm_A d 179 705 ls (.int (v + u) :: st) h K := tm_s o179_704 rfl rfl rfl
set_option maxRecDepth 20000 in
theorem o179_705 : tm_op 179 705 = some (.iaload, (0, 0, 0, 0)) := rfl
theorem r179_705 (d : Nat) (v : Int32) (a : Nat) (ls : tm_Lo) (st : List Value) (G : tm_G) (I : Nat → Nat → Int32) (J : Nat → Nat → Int64) (R : Nat → Nat → Option Nat) (K : Option Value → tm_H → Prop) : tm_A d 179 705 ls (.int v :: .ref a :: st) (G, I, J, R) K ↔ ((G.2.2 a).1 = 1 ∧ tm_in v (G.2.2 a).2) ∧ tm_A d 179 706 ls (.int (I a (tm_ix v)) :: st) (G, I, J, R) K := tm_iald o179_705
set_option maxRecDepth 20000 in
theorem o179_706 : tm_op 179 706 = some (.invokevirtual 93, (2, 163, 4, 10)) := rfl
theorem r179_706 (d : Nat) (v1 : Int32) (v2 : Int32) (v3 : Int32) (a : Nat) (ls : tm_Lo) (st : List Value) (h : tm_H) (K : Option Value → tm_H → Prop) : tm_A (d + 1) 179 706 ls (.int v3 :: .int v2 :: .int v1 :: .ref a :: st) h K ↔ (h.1.2.2 a = (0, 10) ∧ tm_cs st) ∧ tm_R d 163 [.ref a, .int v1, .int v2, .int v3] h (fun r h' => tm_A (d + 1) 179 709 ls (r.toList ++ st) h' K) := tm_callV (as := [.int v1, .int v2, .int v3]) o179_706 rfl rfl rfl rfl
set_option maxRecDepth 20000 in
theorem o179_709 : tm_op 179 709 = some (.if_icmp .eq 150, (0, 0, 0, 0)) := rfl
theorem r179_709 (d : Nat) (y x : Int32) (ls : tm_Lo) (st : List Value) (h : tm_H) (K : Option Value → tm_H → Prop) : tm_A d 179 709 ls (.int y :: .int x :: st) h K ↔ if x = y then tm_A d 179 859 ls st h K else tm_A d 179 712 ls st h K := tm_b o179_709 rfl rfl rfl rfl
set_option maxRecDepth 20000 in
theorem o179_712 : tm_op 179 712 = some (.iconst 0, (0, 0, 0, 0)) := rfl
theorem r179_712 (d : Nat) (ls : tm_Lo) (st : List Value) (h : tm_H) (K : Option Value → tm_H → Prop) : tm_A d 179 712 ls st h K ↔ tm_A d 179 713 ls (.int (0 : Int32) :: st) h K := tm_ic o179_712 (by decide)
set_option maxRecDepth 20000 in
theorem o179_713 : tm_op 179 713 = some (.ireturn, (0, 0, 0, 0)) := rfl
theorem r179_713 (d : Nat) (v : Int32) (ls : tm_Lo) (h : tm_H) (K : Option Value → tm_H → Prop) : tm_A d 179 713 ls [.int v] h K ↔ (v = 0 ∨ v = 1) ∧ K (some (.int v)) h := tm_retz o179_713 rfl
set_option maxRecDepth 20000 in
theorem o179_714 : tm_op 179 714 = some (.aload_n 1, (0, 0, 0, 0)) := rfl
theorem r179_714 (d : Nat) (v : Nat) (l0 l2 l3 : Option Value) (st : List Value) (h : tm_H) (K : Option Value → tm_H → Prop) : tm_A d 179 714 [l0, some (.ref v), l2, l3] st h K ↔ tm_A d 179 715 [l0, some (.ref v), l2, l3] (.ref v :: st) h K := tm_s o179_714 rfl rfl rfl
theorem r179_714n (d : Nat)  (l0 l2 l3 : Option Value) (st : List Value) (h : tm_H) (K : Option Value → tm_H → Prop) : tm_A d 179 714 [l0, some .null, l2, l3] st h K ↔ tm_A d 179 715 [l0, some .null, l2, l3] (.null :: st) h K := tm_s o179_714 rfl rfl rfl
set_option maxRecDepth 20000 in
theorem o179_715 : tm_op 179 715 = some (.aload_n 0, (0, 0, 0, 0)) := rfl
theorem r179_715 (d : Nat) (v : Nat) (l1 l2 l3 : Option Value) (st : List Value) (h : tm_H) (K : Option Value → tm_H → Prop) : tm_A d 179 715 [some (.ref v), l1, l2, l3] st h K ↔ tm_A d 179 716 [some (.ref v), l1, l2, l3] (.ref v :: st) h K := tm_s o179_715 rfl rfl rfl
set_option maxRecDepth 20000 in
theorem o179_716 : tm_op 179 716 = some (.iload_n 3, (0, 0, 0, 0)) := rfl
theorem r179_716 (d : Nat) (v : Int32) (l0 l1 l2 : Option Value) (st : List Value) (h : tm_H) (K : Option Value → tm_H → Prop) : tm_A d 179 716 [l0, l1, l2, some (.int v)] st h K ↔ tm_A d 179 717 [l0, l1, l2, some (.int v)] (.int v :: st) h K := tm_s o179_716 rfl rfl rfl
set_option maxRecDepth 20000 in
theorem o179_717 : tm_op 179 717 = some (.iconst 1, (0, 0, 0, 0)) := rfl
theorem r179_717 (d : Nat) (ls : tm_Lo) (st : List Value) (h : tm_H) (K : Option Value → tm_H → Prop) : tm_A d 179 717 ls st h K ↔ tm_A d 179 718 ls (.int (1 : Int32) :: st) h K := tm_ic o179_717 (by decide)
set_option maxRecDepth 20000 in
theorem o179_718 : tm_op 179 718 = some (.iadd, (0, 0, 0, 0)) := rfl
theorem r179_718 (d : Nat) (u v : Int32) (ls : tm_Lo) (st : List Value) (h : tm_H) (K : Option Value → tm_H → Prop) : tm_A d 179 718 ls (.int u :: .int v :: st) h K ↔ tm_A d 179 719 ls (.int (v + u) :: st) h K := tm_s o179_718 rfl rfl rfl
set_option maxRecDepth 20000 in
theorem o179_719 : tm_op 179 719 = some (.iaload, (0, 0, 0, 0)) := rfl
theorem r179_719 (d : Nat) (v : Int32) (a : Nat) (ls : tm_Lo) (st : List Value) (G : tm_G) (I : Nat → Nat → Int32) (J : Nat → Nat → Int64) (R : Nat → Nat → Option Nat) (K : Option Value → tm_H → Prop) : tm_A d 179 719 ls (.int v :: .ref a :: st) (G, I, J, R) K ↔ ((G.2.2 a).1 = 1 ∧ tm_in v (G.2.2 a).2) ∧ tm_A d 179 720 ls (.int (I a (tm_ix v)) :: st) (G, I, J, R) K := tm_iald o179_719
set_option maxRecDepth 20000 in
theorem o179_720 : tm_op 179 720 = some (.aload_n 0, (0, 0, 0, 0)) := rfl
theorem r179_720 (d : Nat) (v : Nat) (l1 l2 l3 : Option Value) (st : List Value) (h : tm_H) (K : Option Value → tm_H → Prop) : tm_A d 179 720 [some (.ref v), l1, l2, l3] st h K ↔ tm_A d 179 721 [some (.ref v), l1, l2, l3] (.ref v :: st) h K := tm_s o179_720 rfl rfl rfl
set_option maxRecDepth 20000 in
theorem o179_721 : tm_op 179 721 = some (.iload_n 3, (0, 0, 0, 0)) := rfl
theorem r179_721 (d : Nat) (v : Int32) (l0 l1 l2 : Option Value) (st : List Value) (h : tm_H) (K : Option Value → tm_H → Prop) : tm_A d 179 721 [l0, l1, l2, some (.int v)] st h K ↔ tm_A d 179 722 [l0, l1, l2, some (.int v)] (.int v :: st) h K := tm_s o179_721 rfl rfl rfl
set_option maxRecDepth 20000 in
theorem o179_722 : tm_op 179 722 = some (.iconst 2, (0, 0, 0, 0)) := rfl
theorem r179_722 (d : Nat) (ls : tm_Lo) (st : List Value) (h : tm_H) (K : Option Value → tm_H → Prop) : tm_A d 179 722 ls st h K ↔ tm_A d 179 723 ls (.int (2 : Int32) :: st) h K := tm_ic o179_722 (by decide)
set_option maxRecDepth 20000 in
theorem o179_723 : tm_op 179 723 = some (.iadd, (0, 0, 0, 0)) := rfl
theorem r179_723 (d : Nat) (u v : Int32) (ls : tm_Lo) (st : List Value) (h : tm_H) (K : Option Value → tm_H → Prop) : tm_A d 179 723 ls (.int u :: .int v :: st) h K ↔ tm_A d 179 724 ls (.int (v + u) :: st) h K := tm_s o179_723 rfl rfl rfl
set_option maxRecDepth 20000 in
theorem o179_724 : tm_op 179 724 = some (.iaload, (0, 0, 0, 0)) := rfl
theorem r179_724 (d : Nat) (v : Int32) (a : Nat) (ls : tm_Lo) (st : List Value) (G : tm_G) (I : Nat → Nat → Int32) (J : Nat → Nat → Int64) (R : Nat → Nat → Option Nat) (K : Option Value → tm_H → Prop) : tm_A d 179 724 ls (.int v :: .ref a :: st) (G, I, J, R) K ↔ ((G.2.2 a).1 = 1 ∧ tm_in v (G.2.2 a).2) ∧ tm_A d 179 725 ls (.int (I a (tm_ix v)) :: st) (G, I, J, R) K := tm_iald o179_724
set_option maxRecDepth 20000 in
theorem o179_725 : tm_op 179 725 = some (.invokevirtual 94, (2, 104, 3, 9)) := rfl
theorem r179_725 (d : Nat) (v1 : Int32) (v2 : Int32) (a : Nat) (ls : tm_Lo) (st : List Value) (h : tm_H) (K : Option Value → tm_H → Prop) : tm_A (d + 1) 179 725 ls (.int v2 :: .int v1 :: .ref a :: st) h K ↔ (h.1.2.2 a = (0, 9) ∧ tm_cs st) ∧ tm_R d 104 [.ref a, .int v1, .int v2] h (fun r h' => tm_A (d + 1) 179 728 ls (r.toList ++ st) h' K) := tm_callV (as := [.int v1, .int v2]) o179_725 rfl rfl rfl rfl
set_option maxRecDepth 20000 in
theorem o179_728 : tm_op 179 728 = some (.aload_n 2, (0, 0, 0, 0)) := rfl
theorem r179_728 (d : Nat) (v : Nat) (l0 l1 l3 : Option Value) (st : List Value) (h : tm_H) (K : Option Value → tm_H → Prop) : tm_A d 179 728 [l0, l1, some (.ref v), l3] st h K ↔ tm_A d 179 729 [l0, l1, some (.ref v), l3] (.ref v :: st) h K := tm_s o179_728 rfl rfl rfl
theorem r179_728n (d : Nat)  (l0 l1 l3 : Option Value) (st : List Value) (h : tm_H) (K : Option Value → tm_H → Prop) : tm_A d 179 728 [l0, l1, some .null, l3] st h K ↔ tm_A d 179 729 [l0, l1, some .null, l3] (.null :: st) h K := tm_s o179_728 rfl rfl rfl
set_option maxRecDepth 20000 in
theorem o179_729 : tm_op 179 729 = some (.aload_n 0, (0, 0, 0, 0)) := rfl
theorem r179_729 (d : Nat) (v : Nat) (l1 l2 l3 : Option Value) (st : List Value) (h : tm_H) (K : Option Value → tm_H → Prop) : tm_A d 179 729 [some (.ref v), l1, l2, l3] st h K ↔ tm_A d 179 730 [some (.ref v), l1, l2, l3] (.ref v :: st) h K := tm_s o179_729 rfl rfl rfl
set_option maxRecDepth 20000 in
theorem o179_730 : tm_op 179 730 = some (.iload_n 3, (0, 0, 0, 0)) := rfl
theorem r179_730 (d : Nat) (v : Int32) (l0 l1 l2 : Option Value) (st : List Value) (h : tm_H) (K : Option Value → tm_H → Prop) : tm_A d 179 730 [l0, l1, l2, some (.int v)] st h K ↔ tm_A d 179 731 [l0, l1, l2, some (.int v)] (.int v :: st) h K := tm_s o179_730 rfl rfl rfl
set_option maxRecDepth 20000 in
theorem o179_731 : tm_op 179 731 = some (.iconst 1, (0, 0, 0, 0)) := rfl
theorem r179_731 (d : Nat) (ls : tm_Lo) (st : List Value) (h : tm_H) (K : Option Value → tm_H → Prop) : tm_A d 179 731 ls st h K ↔ tm_A d 179 732 ls (.int (1 : Int32) :: st) h K := tm_ic o179_731 (by decide)
set_option maxRecDepth 20000 in
theorem o179_732 : tm_op 179 732 = some (.iadd, (0, 0, 0, 0)) := rfl
theorem r179_732 (d : Nat) (u v : Int32) (ls : tm_Lo) (st : List Value) (h : tm_H) (K : Option Value → tm_H → Prop) : tm_A d 179 732 ls (.int u :: .int v :: st) h K ↔ tm_A d 179 733 ls (.int (v + u) :: st) h K := tm_s o179_732 rfl rfl rfl
set_option maxRecDepth 20000 in
theorem o179_733 : tm_op 179 733 = some (.iaload, (0, 0, 0, 0)) := rfl
theorem r179_733 (d : Nat) (v : Int32) (a : Nat) (ls : tm_Lo) (st : List Value) (G : tm_G) (I : Nat → Nat → Int32) (J : Nat → Nat → Int64) (R : Nat → Nat → Option Nat) (K : Option Value → tm_H → Prop) : tm_A d 179 733 ls (.int v :: .ref a :: st) (G, I, J, R) K ↔ ((G.2.2 a).1 = 1 ∧ tm_in v (G.2.2 a).2) ∧ tm_A d 179 734 ls (.int (I a (tm_ix v)) :: st) (G, I, J, R) K := tm_iald o179_733
set_option maxRecDepth 20000 in
theorem o179_734 : tm_op 179 734 = some (.aload_n 0, (0, 0, 0, 0)) := rfl
theorem r179_734 (d : Nat) (v : Nat) (l1 l2 l3 : Option Value) (st : List Value) (h : tm_H) (K : Option Value → tm_H → Prop) : tm_A d 179 734 [some (.ref v), l1, l2, l3] st h K ↔ tm_A d 179 735 [some (.ref v), l1, l2, l3] (.ref v :: st) h K := tm_s o179_734 rfl rfl rfl
set_option maxRecDepth 20000 in
theorem o179_735 : tm_op 179 735 = some (.iload_n 3, (0, 0, 0, 0)) := rfl
theorem r179_735 (d : Nat) (v : Int32) (l0 l1 l2 : Option Value) (st : List Value) (h : tm_H) (K : Option Value → tm_H → Prop) : tm_A d 179 735 [l0, l1, l2, some (.int v)] st h K ↔ tm_A d 179 736 [l0, l1, l2, some (.int v)] (.int v :: st) h K := tm_s o179_735 rfl rfl rfl
set_option maxRecDepth 20000 in
theorem o179_736 : tm_op 179 736 = some (.iconst 2, (0, 0, 0, 0)) := rfl
theorem r179_736 (d : Nat) (ls : tm_Lo) (st : List Value) (h : tm_H) (K : Option Value → tm_H → Prop) : tm_A d 179 736 ls st h K ↔ tm_A d 179 737 ls (.int (2 : Int32) :: st) h K := tm_ic o179_736 (by decide)
set_option maxRecDepth 20000 in
theorem o179_737 : tm_op 179 737 = some (.iadd, (0, 0, 0, 0)) := rfl
theorem r179_737 (d : Nat) (u v : Int32) (ls : tm_Lo) (st : List Value) (h : tm_H) (K : Option Value → tm_H → Prop) : tm_A d 179 737 ls (.int u :: .int v :: st) h K ↔ tm_A d 179 738 ls (.int (v + u) :: st) h K := tm_s o179_737 rfl rfl rfl
set_option maxRecDepth 20000 in
theorem o179_738 : tm_op 179 738 = some (.iaload, (0, 0, 0, 0)) := rfl
theorem r179_738 (d : Nat) (v : Int32) (a : Nat) (ls : tm_Lo) (st : List Value) (G : tm_G) (I : Nat → Nat → Int32) (J : Nat → Nat → Int64) (R : Nat → Nat → Option Nat) (K : Option Value → tm_H → Prop) : tm_A d 179 738 ls (.int v :: .ref a :: st) (G, I, J, R) K ↔ ((G.2.2 a).1 = 1 ∧ tm_in v (G.2.2 a).2) ∧ tm_A d 179 739 ls (.int (I a (tm_ix v)) :: st) (G, I, J, R) K := tm_iald o179_738
set_option maxRecDepth 20000 in
theorem o179_739 : tm_op 179 739 = some (.invokevirtual 97, (2, 164, 3, 10)) := rfl
theorem r179_739 (d : Nat) (v1 : Int32) (v2 : Int32) (a : Nat) (ls : tm_Lo) (st : List Value) (h : tm_H) (K : Option Value → tm_H → Prop) : tm_A (d + 1) 179 739 ls (.int v2 :: .int v1 :: .ref a :: st) h K ↔ (h.1.2.2 a = (0, 10) ∧ tm_cs st) ∧ tm_R d 164 [.ref a, .int v1, .int v2] h (fun r h' => tm_A (d + 1) 179 742 ls (r.toList ++ st) h' K) := tm_callV (as := [.int v1, .int v2]) o179_739 rfl rfl rfl rfl
set_option maxRecDepth 20000 in
theorem o179_742 : tm_op 179 742 = some (.if_icmp .eq 117, (0, 0, 0, 0)) := rfl
theorem r179_742 (d : Nat) (y x : Int32) (ls : tm_Lo) (st : List Value) (h : tm_H) (K : Option Value → tm_H → Prop) : tm_A d 179 742 ls (.int y :: .int x :: st) h K ↔ if x = y then tm_A d 179 859 ls st h K else tm_A d 179 745 ls st h K := tm_b o179_742 rfl rfl rfl rfl
set_option maxRecDepth 20000 in
theorem o179_745 : tm_op 179 745 = some (.iconst 0, (0, 0, 0, 0)) := rfl
theorem r179_745 (d : Nat) (ls : tm_Lo) (st : List Value) (h : tm_H) (K : Option Value → tm_H → Prop) : tm_A d 179 745 ls st h K ↔ tm_A d 179 746 ls (.int (0 : Int32) :: st) h K := tm_ic o179_745 (by decide)
set_option maxRecDepth 20000 in
theorem o179_746 : tm_op 179 746 = some (.ireturn, (0, 0, 0, 0)) := rfl
theorem r179_746 (d : Nat) (v : Int32) (ls : tm_Lo) (h : tm_H) (K : Option Value → tm_H → Prop) : tm_A d 179 746 ls [.int v] h K ↔ (v = 0 ∨ v = 1) ∧ K (some (.int v)) h := tm_retz o179_746 rfl
set_option maxRecDepth 20000 in
theorem o179_747 : tm_op 179 747 = some (.aload_n 1, (0, 0, 0, 0)) := rfl
theorem r179_747 (d : Nat) (v : Nat) (l0 l2 l3 : Option Value) (st : List Value) (h : tm_H) (K : Option Value → tm_H → Prop) : tm_A d 179 747 [l0, some (.ref v), l2, l3] st h K ↔ tm_A d 179 748 [l0, some (.ref v), l2, l3] (.ref v :: st) h K := tm_s o179_747 rfl rfl rfl
theorem r179_747n (d : Nat)  (l0 l2 l3 : Option Value) (st : List Value) (h : tm_H) (K : Option Value → tm_H → Prop) : tm_A d 179 747 [l0, some .null, l2, l3] st h K ↔ tm_A d 179 748 [l0, some .null, l2, l3] (.null :: st) h K := tm_s o179_747 rfl rfl rfl
set_option maxRecDepth 20000 in
theorem o179_748 : tm_op 179 748 = some (.aload_n 0, (0, 0, 0, 0)) := rfl
theorem r179_748 (d : Nat) (v : Nat) (l1 l2 l3 : Option Value) (st : List Value) (h : tm_H) (K : Option Value → tm_H → Prop) : tm_A d 179 748 [some (.ref v), l1, l2, l3] st h K ↔ tm_A d 179 749 [some (.ref v), l1, l2, l3] (.ref v :: st) h K := tm_s o179_748 rfl rfl rfl
set_option maxRecDepth 20000 in
theorem o179_749 : tm_op 179 749 = some (.iload_n 3, (0, 0, 0, 0)) := rfl
theorem r179_749 (d : Nat) (v : Int32) (l0 l1 l2 : Option Value) (st : List Value) (h : tm_H) (K : Option Value → tm_H → Prop) : tm_A d 179 749 [l0, l1, l2, some (.int v)] st h K ↔ tm_A d 179 750 [l0, l1, l2, some (.int v)] (.int v :: st) h K := tm_s o179_749 rfl rfl rfl
set_option maxRecDepth 20000 in
theorem o179_750 : tm_op 179 750 = some (.iconst 1, (0, 0, 0, 0)) := rfl
theorem r179_750 (d : Nat) (ls : tm_Lo) (st : List Value) (h : tm_H) (K : Option Value → tm_H → Prop) : tm_A d 179 750 ls st h K ↔ tm_A d 179 751 ls (.int (1 : Int32) :: st) h K := tm_ic o179_750 (by decide)
set_option maxRecDepth 20000 in
theorem o179_751 : tm_op 179 751 = some (.iadd, (0, 0, 0, 0)) := rfl
theorem r179_751 (d : Nat) (u v : Int32) (ls : tm_Lo) (st : List Value) (h : tm_H) (K : Option Value → tm_H → Prop) : tm_A d 179 751 ls (.int u :: .int v :: st) h K ↔ tm_A d 179 752 ls (.int (v + u) :: st) h K := tm_s o179_751 rfl rfl rfl
set_option maxRecDepth 20000 in
theorem o179_752 : tm_op 179 752 = some (.iaload, (0, 0, 0, 0)) := rfl
theorem r179_752 (d : Nat) (v : Int32) (a : Nat) (ls : tm_Lo) (st : List Value) (G : tm_G) (I : Nat → Nat → Int32) (J : Nat → Nat → Int64) (R : Nat → Nat → Option Nat) (K : Option Value → tm_H → Prop) : tm_A d 179 752 ls (.int v :: .ref a :: st) (G, I, J, R) K ↔ ((G.2.2 a).1 = 1 ∧ tm_in v (G.2.2 a).2) ∧ tm_A d 179 753 ls (.int (I a (tm_ix v)) :: st) (G, I, J, R) K := tm_iald o179_752
set_option maxRecDepth 20000 in
theorem o179_753 : tm_op 179 753 = some (.aload_n 0, (0, 0, 0, 0)) := rfl
theorem r179_753 (d : Nat) (v : Nat) (l1 l2 l3 : Option Value) (st : List Value) (h : tm_H) (K : Option Value → tm_H → Prop) : tm_A d 179 753 [some (.ref v), l1, l2, l3] st h K ↔ tm_A d 179 754 [some (.ref v), l1, l2, l3] (.ref v :: st) h K := tm_s o179_753 rfl rfl rfl
set_option maxRecDepth 20000 in
theorem o179_754 : tm_op 179 754 = some (.iload_n 3, (0, 0, 0, 0)) := rfl
theorem r179_754 (d : Nat) (v : Int32) (l0 l1 l2 : Option Value) (st : List Value) (h : tm_H) (K : Option Value → tm_H → Prop) : tm_A d 179 754 [l0, l1, l2, some (.int v)] st h K ↔ tm_A d 179 755 [l0, l1, l2, some (.int v)] (.int v :: st) h K := tm_s o179_754 rfl rfl rfl
set_option maxRecDepth 20000 in
theorem o179_755 : tm_op 179 755 = some (.iconst 2, (0, 0, 0, 0)) := rfl
theorem r179_755 (d : Nat) (ls : tm_Lo) (st : List Value) (h : tm_H) (K : Option Value → tm_H → Prop) : tm_A d 179 755 ls st h K ↔ tm_A d 179 756 ls (.int (2 : Int32) :: st) h K := tm_ic o179_755 (by decide)
set_option maxRecDepth 20000 in
theorem o179_756 : tm_op 179 756 = some (.iadd, (0, 0, 0, 0)) := rfl
theorem r179_756 (d : Nat) (u v : Int32) (ls : tm_Lo) (st : List Value) (h : tm_H) (K : Option Value → tm_H → Prop) : tm_A d 179 756 ls (.int u :: .int v :: st) h K ↔ tm_A d 179 757 ls (.int (v + u) :: st) h K := tm_s o179_756 rfl rfl rfl
set_option maxRecDepth 20000 in
theorem o179_757 : tm_op 179 757 = some (.iaload, (0, 0, 0, 0)) := rfl
theorem r179_757 (d : Nat) (v : Int32) (a : Nat) (ls : tm_Lo) (st : List Value) (G : tm_G) (I : Nat → Nat → Int32) (J : Nat → Nat → Int64) (R : Nat → Nat → Option Nat) (K : Option Value → tm_H → Prop) : tm_A d 179 757 ls (.int v :: .ref a :: st) (G, I, J, R) K ↔ ((G.2.2 a).1 = 1 ∧ tm_in v (G.2.2 a).2) ∧ tm_A d 179 758 ls (.int (I a (tm_ix v)) :: st) (G, I, J, R) K := tm_iald o179_757
set_option maxRecDepth 20000 in
theorem o179_758 : tm_op 179 758 = some (.invokevirtual 98, (2, 105, 3, 9)) := rfl
theorem r179_758 (d : Nat) (v1 : Int32) (v2 : Int32) (a : Nat) (ls : tm_Lo) (st : List Value) (h : tm_H) (K : Option Value → tm_H → Prop) : tm_A (d + 1) 179 758 ls (.int v2 :: .int v1 :: .ref a :: st) h K ↔ (h.1.2.2 a = (0, 9) ∧ tm_cs st) ∧ tm_R d 105 [.ref a, .int v1, .int v2] h (fun r h' => tm_A (d + 1) 179 761 ls (r.toList ++ st) h' K) := tm_callV (as := [.int v1, .int v2]) o179_758 rfl rfl rfl rfl
set_option maxRecDepth 20000 in
theorem o179_761 : tm_op 179 761 = some (.aload_n 2, (0, 0, 0, 0)) := rfl
theorem r179_761 (d : Nat) (v : Nat) (l0 l1 l3 : Option Value) (st : List Value) (h : tm_H) (K : Option Value → tm_H → Prop) : tm_A d 179 761 [l0, l1, some (.ref v), l3] st h K ↔ tm_A d 179 762 [l0, l1, some (.ref v), l3] (.ref v :: st) h K := tm_s o179_761 rfl rfl rfl
theorem r179_761n (d : Nat)  (l0 l1 l3 : Option Value) (st : List Value) (h : tm_H) (K : Option Value → tm_H → Prop) : tm_A d 179 761 [l0, l1, some .null, l3] st h K ↔ tm_A d 179 762 [l0, l1, some .null, l3] (.null :: st) h K := tm_s o179_761 rfl rfl rfl
set_option maxRecDepth 20000 in
theorem o179_762 : tm_op 179 762 = some (.aload_n 0, (0, 0, 0, 0)) := rfl
theorem r179_762 (d : Nat) (v : Nat) (l1 l2 l3 : Option Value) (st : List Value) (h : tm_H) (K : Option Value → tm_H → Prop) : tm_A d 179 762 [some (.ref v), l1, l2, l3] st h K ↔ tm_A d 179 763 [some (.ref v), l1, l2, l3] (.ref v :: st) h K := tm_s o179_762 rfl rfl rfl
set_option maxRecDepth 20000 in
theorem o179_763 : tm_op 179 763 = some (.iload_n 3, (0, 0, 0, 0)) := rfl
theorem r179_763 (d : Nat) (v : Int32) (l0 l1 l2 : Option Value) (st : List Value) (h : tm_H) (K : Option Value → tm_H → Prop) : tm_A d 179 763 [l0, l1, l2, some (.int v)] st h K ↔ tm_A d 179 764 [l0, l1, l2, some (.int v)] (.int v :: st) h K := tm_s o179_763 rfl rfl rfl
set_option maxRecDepth 20000 in
theorem o179_764 : tm_op 179 764 = some (.iconst 1, (0, 0, 0, 0)) := rfl
theorem r179_764 (d : Nat) (ls : tm_Lo) (st : List Value) (h : tm_H) (K : Option Value → tm_H → Prop) : tm_A d 179 764 ls st h K ↔ tm_A d 179 765 ls (.int (1 : Int32) :: st) h K := tm_ic o179_764 (by decide)
set_option maxRecDepth 20000 in
theorem o179_765 : tm_op 179 765 = some (.iadd, (0, 0, 0, 0)) := rfl
theorem r179_765 (d : Nat) (u v : Int32) (ls : tm_Lo) (st : List Value) (h : tm_H) (K : Option Value → tm_H → Prop) : tm_A d 179 765 ls (.int u :: .int v :: st) h K ↔ tm_A d 179 766 ls (.int (v + u) :: st) h K := tm_s o179_765 rfl rfl rfl
set_option maxRecDepth 20000 in
theorem o179_766 : tm_op 179 766 = some (.iaload, (0, 0, 0, 0)) := rfl
theorem r179_766 (d : Nat) (v : Int32) (a : Nat) (ls : tm_Lo) (st : List Value) (G : tm_G) (I : Nat → Nat → Int32) (J : Nat → Nat → Int64) (R : Nat → Nat → Option Nat) (K : Option Value → tm_H → Prop) : tm_A d 179 766 ls (.int v :: .ref a :: st) (G, I, J, R) K ↔ ((G.2.2 a).1 = 1 ∧ tm_in v (G.2.2 a).2) ∧ tm_A d 179 767 ls (.int (I a (tm_ix v)) :: st) (G, I, J, R) K := tm_iald o179_766
set_option maxRecDepth 20000 in
theorem o179_767 : tm_op 179 767 = some (.aload_n 0, (0, 0, 0, 0)) := rfl
theorem r179_767 (d : Nat) (v : Nat) (l1 l2 l3 : Option Value) (st : List Value) (h : tm_H) (K : Option Value → tm_H → Prop) : tm_A d 179 767 [some (.ref v), l1, l2, l3] st h K ↔ tm_A d 179 768 [some (.ref v), l1, l2, l3] (.ref v :: st) h K := tm_s o179_767 rfl rfl rfl
set_option maxRecDepth 20000 in
theorem o179_768 : tm_op 179 768 = some (.iload_n 3, (0, 0, 0, 0)) := rfl
theorem r179_768 (d : Nat) (v : Int32) (l0 l1 l2 : Option Value) (st : List Value) (h : tm_H) (K : Option Value → tm_H → Prop) : tm_A d 179 768 [l0, l1, l2, some (.int v)] st h K ↔ tm_A d 179 769 [l0, l1, l2, some (.int v)] (.int v :: st) h K := tm_s o179_768 rfl rfl rfl
set_option maxRecDepth 20000 in
theorem o179_769 : tm_op 179 769 = some (.iconst 2, (0, 0, 0, 0)) := rfl
theorem r179_769 (d : Nat) (ls : tm_Lo) (st : List Value) (h : tm_H) (K : Option Value → tm_H → Prop) : tm_A d 179 769 ls st h K ↔ tm_A d 179 770 ls (.int (2 : Int32) :: st) h K := tm_ic o179_769 (by decide)
set_option maxRecDepth 20000 in
theorem o179_770 : tm_op 179 770 = some (.iadd, (0, 0, 0, 0)) := rfl
theorem r179_770 (d : Nat) (u v : Int32) (ls : tm_Lo) (st : List Value) (h : tm_H) (K : Option Value → tm_H → Prop) : tm_A d 179 770 ls (.int u :: .int v :: st) h K ↔ tm_A d 179 771 ls (.int (v + u) :: st) h K := tm_s o179_770 rfl rfl rfl
set_option maxRecDepth 20000 in
theorem o179_771 : tm_op 179 771 = some (.iaload, (0, 0, 0, 0)) := rfl
theorem r179_771 (d : Nat) (v : Int32) (a : Nat) (ls : tm_Lo) (st : List Value) (G : tm_G) (I : Nat → Nat → Int32) (J : Nat → Nat → Int64) (R : Nat → Nat → Option Nat) (K : Option Value → tm_H → Prop) : tm_A d 179 771 ls (.int v :: .ref a :: st) (G, I, J, R) K ↔ ((G.2.2 a).1 = 1 ∧ tm_in v (G.2.2 a).2) ∧ tm_A d 179 772 ls (.int (I a (tm_ix v)) :: st) (G, I, J, R) K := tm_iald o179_771
set_option maxRecDepth 20000 in
theorem o179_772 : tm_op 179 772 = some (.invokevirtual 101, (2, 166, 3, 10)) := rfl
theorem r179_772 (d : Nat) (v1 : Int32) (v2 : Int32) (a : Nat) (ls : tm_Lo) (st : List Value) (h : tm_H) (K : Option Value → tm_H → Prop) : tm_A (d + 1) 179 772 ls (.int v2 :: .int v1 :: .ref a :: st) h K ↔ (h.1.2.2 a = (0, 10) ∧ tm_cs st) ∧ tm_R d 166 [.ref a, .int v1, .int v2] h (fun r h' => tm_A (d + 1) 179 775 ls (r.toList ++ st) h' K) := tm_callV (as := [.int v1, .int v2]) o179_772 rfl rfl rfl rfl
set_option maxRecDepth 20000 in
theorem o179_775 : tm_op 179 775 = some (.if_icmp .eq 84, (0, 0, 0, 0)) := rfl
theorem r179_775 (d : Nat) (y x : Int32) (ls : tm_Lo) (st : List Value) (h : tm_H) (K : Option Value → tm_H → Prop) : tm_A d 179 775 ls (.int y :: .int x :: st) h K ↔ if x = y then tm_A d 179 859 ls st h K else tm_A d 179 778 ls st h K := tm_b o179_775 rfl rfl rfl rfl
set_option maxRecDepth 20000 in
theorem o179_778 : tm_op 179 778 = some (.iconst 0, (0, 0, 0, 0)) := rfl
theorem r179_778 (d : Nat) (ls : tm_Lo) (st : List Value) (h : tm_H) (K : Option Value → tm_H → Prop) : tm_A d 179 778 ls st h K ↔ tm_A d 179 779 ls (.int (0 : Int32) :: st) h K := tm_ic o179_778 (by decide)
set_option maxRecDepth 20000 in
theorem o179_779 : tm_op 179 779 = some (.ireturn, (0, 0, 0, 0)) := rfl
theorem r179_779 (d : Nat) (v : Int32) (ls : tm_Lo) (h : tm_H) (K : Option Value → tm_H → Prop) : tm_A d 179 779 ls [.int v] h K ↔ (v = 0 ∨ v = 1) ∧ K (some (.int v)) h := tm_retz o179_779 rfl
set_option maxRecDepth 20000 in
theorem o179_780 : tm_op 179 780 = some (.aload_n 1, (0, 0, 0, 0)) := rfl
theorem r179_780 (d : Nat) (v : Nat) (l0 l2 l3 : Option Value) (st : List Value) (h : tm_H) (K : Option Value → tm_H → Prop) : tm_A d 179 780 [l0, some (.ref v), l2, l3] st h K ↔ tm_A d 179 781 [l0, some (.ref v), l2, l3] (.ref v :: st) h K := tm_s o179_780 rfl rfl rfl
theorem r179_780n (d : Nat)  (l0 l2 l3 : Option Value) (st : List Value) (h : tm_H) (K : Option Value → tm_H → Prop) : tm_A d 179 780 [l0, some .null, l2, l3] st h K ↔ tm_A d 179 781 [l0, some .null, l2, l3] (.null :: st) h K := tm_s o179_780 rfl rfl rfl
set_option maxRecDepth 20000 in
theorem o179_781 : tm_op 179 781 = some (.aload_n 0, (0, 0, 0, 0)) := rfl
theorem r179_781 (d : Nat) (v : Nat) (l1 l2 l3 : Option Value) (st : List Value) (h : tm_H) (K : Option Value → tm_H → Prop) : tm_A d 179 781 [some (.ref v), l1, l2, l3] st h K ↔ tm_A d 179 782 [some (.ref v), l1, l2, l3] (.ref v :: st) h K := tm_s o179_781 rfl rfl rfl
set_option maxRecDepth 20000 in
theorem o179_782 : tm_op 179 782 = some (.iload_n 3, (0, 0, 0, 0)) := rfl
theorem r179_782 (d : Nat) (v : Int32) (l0 l1 l2 : Option Value) (st : List Value) (h : tm_H) (K : Option Value → tm_H → Prop) : tm_A d 179 782 [l0, l1, l2, some (.int v)] st h K ↔ tm_A d 179 783 [l0, l1, l2, some (.int v)] (.int v :: st) h K := tm_s o179_782 rfl rfl rfl
set_option maxRecDepth 20000 in
theorem o179_783 : tm_op 179 783 = some (.iconst 1, (0, 0, 0, 0)) := rfl
theorem r179_783 (d : Nat) (ls : tm_Lo) (st : List Value) (h : tm_H) (K : Option Value → tm_H → Prop) : tm_A d 179 783 ls st h K ↔ tm_A d 179 784 ls (.int (1 : Int32) :: st) h K := tm_ic o179_783 (by decide)
set_option maxRecDepth 20000 in
theorem o179_784 : tm_op 179 784 = some (.iadd, (0, 0, 0, 0)) := rfl
theorem r179_784 (d : Nat) (u v : Int32) (ls : tm_Lo) (st : List Value) (h : tm_H) (K : Option Value → tm_H → Prop) : tm_A d 179 784 ls (.int u :: .int v :: st) h K ↔ tm_A d 179 785 ls (.int (v + u) :: st) h K := tm_s o179_784 rfl rfl rfl
set_option maxRecDepth 20000 in
theorem o179_785 : tm_op 179 785 = some (.iaload, (0, 0, 0, 0)) := rfl
theorem r179_785 (d : Nat) (v : Int32) (a : Nat) (ls : tm_Lo) (st : List Value) (G : tm_G) (I : Nat → Nat → Int32) (J : Nat → Nat → Int64) (R : Nat → Nat → Option Nat) (K : Option Value → tm_H → Prop) : tm_A d 179 785 ls (.int v :: .ref a :: st) (G, I, J, R) K ↔ ((G.2.2 a).1 = 1 ∧ tm_in v (G.2.2 a).2) ∧ tm_A d 179 786 ls (.int (I a (tm_ix v)) :: st) (G, I, J, R) K := tm_iald o179_785
set_option maxRecDepth 20000 in
theorem o179_786 : tm_op 179 786 = some (.aload_n 0, (0, 0, 0, 0)) := rfl
theorem r179_786 (d : Nat) (v : Nat) (l1 l2 l3 : Option Value) (st : List Value) (h : tm_H) (K : Option Value → tm_H → Prop) : tm_A d 179 786 [some (.ref v), l1, l2, l3] st h K ↔ tm_A d 179 787 [some (.ref v), l1, l2, l3] (.ref v :: st) h K := tm_s o179_786 rfl rfl rfl
set_option maxRecDepth 20000 in
theorem o179_787 : tm_op 179 787 = some (.iload_n 3, (0, 0, 0, 0)) := rfl
theorem r179_787 (d : Nat) (v : Int32) (l0 l1 l2 : Option Value) (st : List Value) (h : tm_H) (K : Option Value → tm_H → Prop) : tm_A d 179 787 [l0, l1, l2, some (.int v)] st h K ↔ tm_A d 179 788 [l0, l1, l2, some (.int v)] (.int v :: st) h K := tm_s o179_787 rfl rfl rfl
set_option maxRecDepth 20000 in
theorem o179_788 : tm_op 179 788 = some (.iconst 2, (0, 0, 0, 0)) := rfl
theorem r179_788 (d : Nat) (ls : tm_Lo) (st : List Value) (h : tm_H) (K : Option Value → tm_H → Prop) : tm_A d 179 788 ls st h K ↔ tm_A d 179 789 ls (.int (2 : Int32) :: st) h K := tm_ic o179_788 (by decide)
set_option maxRecDepth 20000 in
theorem o179_789 : tm_op 179 789 = some (.iadd, (0, 0, 0, 0)) := rfl
theorem r179_789 (d : Nat) (u v : Int32) (ls : tm_Lo) (st : List Value) (h : tm_H) (K : Option Value → tm_H → Prop) : tm_A d 179 789 ls (.int u :: .int v :: st) h K ↔ tm_A d 179 790 ls (.int (v + u) :: st) h K := tm_s o179_789 rfl rfl rfl
set_option maxRecDepth 20000 in
theorem o179_790 : tm_op 179 790 = some (.iaload, (0, 0, 0, 0)) := rfl
theorem r179_790 (d : Nat) (v : Int32) (a : Nat) (ls : tm_Lo) (st : List Value) (G : tm_G) (I : Nat → Nat → Int32) (J : Nat → Nat → Int64) (R : Nat → Nat → Option Nat) (K : Option Value → tm_H → Prop) : tm_A d 179 790 ls (.int v :: .ref a :: st) (G, I, J, R) K ↔ ((G.2.2 a).1 = 1 ∧ tm_in v (G.2.2 a).2) ∧ tm_A d 179 791 ls (.int (I a (tm_ix v)) :: st) (G, I, J, R) K := tm_iald o179_790
set_option maxRecDepth 20000 in
theorem o179_791 : tm_op 179 791 = some (.invokevirtual 102, (2, 106, 3, 9)) := rfl
theorem r179_791 (d : Nat) (v1 : Int32) (v2 : Int32) (a : Nat) (ls : tm_Lo) (st : List Value) (h : tm_H) (K : Option Value → tm_H → Prop) : tm_A (d + 1) 179 791 ls (.int v2 :: .int v1 :: .ref a :: st) h K ↔ (h.1.2.2 a = (0, 9) ∧ tm_cs st) ∧ tm_R d 106 [.ref a, .int v1, .int v2] h (fun r h' => tm_A (d + 1) 179 794 ls (r.toList ++ st) h' K) := tm_callV (as := [.int v1, .int v2]) o179_791 rfl rfl rfl rfl
set_option maxRecDepth 20000 in
theorem o179_794 : tm_op 179 794 = some (.aload_n 2, (0, 0, 0, 0)) := rfl
theorem r179_794 (d : Nat) (v : Nat) (l0 l1 l3 : Option Value) (st : List Value) (h : tm_H) (K : Option Value → tm_H → Prop) : tm_A d 179 794 [l0, l1, some (.ref v), l3] st h K ↔ tm_A d 179 795 [l0, l1, some (.ref v), l3] (.ref v :: st) h K := tm_s o179_794 rfl rfl rfl
theorem r179_794n (d : Nat)  (l0 l1 l3 : Option Value) (st : List Value) (h : tm_H) (K : Option Value → tm_H → Prop) : tm_A d 179 794 [l0, l1, some .null, l3] st h K ↔ tm_A d 179 795 [l0, l1, some .null, l3] (.null :: st) h K := tm_s o179_794 rfl rfl rfl
set_option maxRecDepth 20000 in
theorem o179_795 : tm_op 179 795 = some (.aload_n 0, (0, 0, 0, 0)) := rfl
theorem r179_795 (d : Nat) (v : Nat) (l1 l2 l3 : Option Value) (st : List Value) (h : tm_H) (K : Option Value → tm_H → Prop) : tm_A d 179 795 [some (.ref v), l1, l2, l3] st h K ↔ tm_A d 179 796 [some (.ref v), l1, l2, l3] (.ref v :: st) h K := tm_s o179_795 rfl rfl rfl
set_option maxRecDepth 20000 in
theorem o179_796 : tm_op 179 796 = some (.iload_n 3, (0, 0, 0, 0)) := rfl
theorem r179_796 (d : Nat) (v : Int32) (l0 l1 l2 : Option Value) (st : List Value) (h : tm_H) (K : Option Value → tm_H → Prop) : tm_A d 179 796 [l0, l1, l2, some (.int v)] st h K ↔ tm_A d 179 797 [l0, l1, l2, some (.int v)] (.int v :: st) h K := tm_s o179_796 rfl rfl rfl
set_option maxRecDepth 20000 in
theorem o179_797 : tm_op 179 797 = some (.iconst 1, (0, 0, 0, 0)) := rfl
theorem r179_797 (d : Nat) (ls : tm_Lo) (st : List Value) (h : tm_H) (K : Option Value → tm_H → Prop) : tm_A d 179 797 ls st h K ↔ tm_A d 179 798 ls (.int (1 : Int32) :: st) h K := tm_ic o179_797 (by decide)
set_option maxRecDepth 20000 in
theorem o179_798 : tm_op 179 798 = some (.iadd, (0, 0, 0, 0)) := rfl
theorem r179_798 (d : Nat) (u v : Int32) (ls : tm_Lo) (st : List Value) (h : tm_H) (K : Option Value → tm_H → Prop) : tm_A d 179 798 ls (.int u :: .int v :: st) h K ↔ tm_A d 179 799 ls (.int (v + u) :: st) h K := tm_s o179_798 rfl rfl rfl
set_option maxRecDepth 20000 in
theorem o179_799 : tm_op 179 799 = some (.iaload, (0, 0, 0, 0)) := rfl
theorem r179_799 (d : Nat) (v : Int32) (a : Nat) (ls : tm_Lo) (st : List Value) (G : tm_G) (I : Nat → Nat → Int32) (J : Nat → Nat → Int64) (R : Nat → Nat → Option Nat) (K : Option Value → tm_H → Prop) : tm_A d 179 799 ls (.int v :: .ref a :: st) (G, I, J, R) K ↔ ((G.2.2 a).1 = 1 ∧ tm_in v (G.2.2 a).2) ∧ tm_A d 179 800 ls (.int (I a (tm_ix v)) :: st) (G, I, J, R) K := tm_iald o179_799
set_option maxRecDepth 20000 in
theorem o179_800 : tm_op 179 800 = some (.aload_n 0, (0, 0, 0, 0)) := rfl
theorem r179_800 (d : Nat) (v : Nat) (l1 l2 l3 : Option Value) (st : List Value) (h : tm_H) (K : Option Value → tm_H → Prop) : tm_A d 179 800 [some (.ref v), l1, l2, l3] st h K ↔ tm_A d 179 801 [some (.ref v), l1, l2, l3] (.ref v :: st) h K := tm_s o179_800 rfl rfl rfl
set_option maxRecDepth 20000 in
theorem o179_801 : tm_op 179 801 = some (.iload_n 3, (0, 0, 0, 0)) := rfl
theorem r179_801 (d : Nat) (v : Int32) (l0 l1 l2 : Option Value) (st : List Value) (h : tm_H) (K : Option Value → tm_H → Prop) : tm_A d 179 801 [l0, l1, l2, some (.int v)] st h K ↔ tm_A d 179 802 [l0, l1, l2, some (.int v)] (.int v :: st) h K := tm_s o179_801 rfl rfl rfl
set_option maxRecDepth 20000 in
theorem o179_802 : tm_op 179 802 = some (.iconst 2, (0, 0, 0, 0)) := rfl
theorem r179_802 (d : Nat) (ls : tm_Lo) (st : List Value) (h : tm_H) (K : Option Value → tm_H → Prop) : tm_A d 179 802 ls st h K ↔ tm_A d 179 803 ls (.int (2 : Int32) :: st) h K := tm_ic o179_802 (by decide)
set_option maxRecDepth 20000 in
theorem o179_803 : tm_op 179 803 = some (.iadd, (0, 0, 0, 0)) := rfl
theorem r179_803 (d : Nat) (u v : Int32) (ls : tm_Lo) (st : List Value) (h : tm_H) (K : Option Value → tm_H → Prop) : tm_A d 179 803 ls (.int u :: .int v :: st) h K ↔ tm_A d 179 804 ls (.int (v + u) :: st) h K := tm_s o179_803 rfl rfl rfl
set_option maxRecDepth 20000 in
theorem o179_804 : tm_op 179 804 = some (.iaload, (0, 0, 0, 0)) := rfl
theorem r179_804 (d : Nat) (v : Int32) (a : Nat) (ls : tm_Lo) (st : List Value) (G : tm_G) (I : Nat → Nat → Int32) (J : Nat → Nat → Int64) (R : Nat → Nat → Option Nat) (K : Option Value → tm_H → Prop) : tm_A d 179 804 ls (.int v :: .ref a :: st) (G, I, J, R) K ↔ ((G.2.2 a).1 = 1 ∧ tm_in v (G.2.2 a).2) ∧ tm_A d 179 805 ls (.int (I a (tm_ix v)) :: st) (G, I, J, R) K := tm_iald o179_804
set_option maxRecDepth 20000 in
theorem o179_805 : tm_op 179 805 = some (.invokevirtual 105, (2, 171, 3, 10)) := rfl
theorem r179_805 (d : Nat) (v1 : Int32) (v2 : Int32) (a : Nat) (ls : tm_Lo) (st : List Value) (h : tm_H) (K : Option Value → tm_H → Prop) : tm_A (d + 1) 179 805 ls (.int v2 :: .int v1 :: .ref a :: st) h K ↔ (h.1.2.2 a = (0, 10) ∧ tm_cs st) ∧ tm_R d 171 [.ref a, .int v1, .int v2] h (fun r h' => tm_A (d + 1) 179 808 ls (r.toList ++ st) h' K) := tm_callV (as := [.int v1, .int v2]) o179_805 rfl rfl rfl rfl
set_option maxRecDepth 20000 in
theorem o179_808 : tm_op 179 808 = some (.if_icmp .eq 51, (0, 0, 0, 0)) := rfl
theorem r179_808 (d : Nat) (y x : Int32) (ls : tm_Lo) (st : List Value) (h : tm_H) (K : Option Value → tm_H → Prop) : tm_A d 179 808 ls (.int y :: .int x :: st) h K ↔ if x = y then tm_A d 179 859 ls st h K else tm_A d 179 811 ls st h K := tm_b o179_808 rfl rfl rfl rfl
set_option maxRecDepth 20000 in
theorem o179_811 : tm_op 179 811 = some (.iconst 0, (0, 0, 0, 0)) := rfl
theorem r179_811 (d : Nat) (ls : tm_Lo) (st : List Value) (h : tm_H) (K : Option Value → tm_H → Prop) : tm_A d 179 811 ls st h K ↔ tm_A d 179 812 ls (.int (0 : Int32) :: st) h K := tm_ic o179_811 (by decide)
set_option maxRecDepth 20000 in
theorem o179_812 : tm_op 179 812 = some (.ireturn, (0, 0, 0, 0)) := rfl
theorem r179_812 (d : Nat) (v : Int32) (ls : tm_Lo) (h : tm_H) (K : Option Value → tm_H → Prop) : tm_A d 179 812 ls [.int v] h K ↔ (v = 0 ∨ v = 1) ∧ K (some (.int v)) h := tm_retz o179_812 rfl
set_option maxRecDepth 20000 in
theorem o179_813 : tm_op 179 813 = some (.aload_n 1, (0, 0, 0, 0)) := rfl
theorem r179_813 (d : Nat) (v : Nat) (l0 l2 l3 : Option Value) (st : List Value) (h : tm_H) (K : Option Value → tm_H → Prop) : tm_A d 179 813 [l0, some (.ref v), l2, l3] st h K ↔ tm_A d 179 814 [l0, some (.ref v), l2, l3] (.ref v :: st) h K := tm_s o179_813 rfl rfl rfl
theorem r179_813n (d : Nat)  (l0 l2 l3 : Option Value) (st : List Value) (h : tm_H) (K : Option Value → tm_H → Prop) : tm_A d 179 813 [l0, some .null, l2, l3] st h K ↔ tm_A d 179 814 [l0, some .null, l2, l3] (.null :: st) h K := tm_s o179_813 rfl rfl rfl
set_option maxRecDepth 20000 in
theorem o179_814 : tm_op 179 814 = some (.aload_n 0, (0, 0, 0, 0)) := rfl
theorem r179_814 (d : Nat) (v : Nat) (l1 l2 l3 : Option Value) (st : List Value) (h : tm_H) (K : Option Value → tm_H → Prop) : tm_A d 179 814 [some (.ref v), l1, l2, l3] st h K ↔ tm_A d 179 815 [some (.ref v), l1, l2, l3] (.ref v :: st) h K := tm_s o179_814 rfl rfl rfl
set_option maxRecDepth 20000 in
theorem o179_815 : tm_op 179 815 = some (.iload_n 3, (0, 0, 0, 0)) := rfl
theorem r179_815 (d : Nat) (v : Int32) (l0 l1 l2 : Option Value) (st : List Value) (h : tm_H) (K : Option Value → tm_H → Prop) : tm_A d 179 815 [l0, l1, l2, some (.int v)] st h K ↔ tm_A d 179 816 [l0, l1, l2, some (.int v)] (.int v :: st) h K := tm_s o179_815 rfl rfl rfl
set_option maxRecDepth 20000 in
theorem o179_816 : tm_op 179 816 = some (.iconst 1, (0, 0, 0, 0)) := rfl
theorem r179_816 (d : Nat) (ls : tm_Lo) (st : List Value) (h : tm_H) (K : Option Value → tm_H → Prop) : tm_A d 179 816 ls st h K ↔ tm_A d 179 817 ls (.int (1 : Int32) :: st) h K := tm_ic o179_816 (by decide)
set_option maxRecDepth 20000 in
theorem o179_817 : tm_op 179 817 = some (.iadd, (0, 0, 0, 0)) := rfl
theorem r179_817 (d : Nat) (u v : Int32) (ls : tm_Lo) (st : List Value) (h : tm_H) (K : Option Value → tm_H → Prop) : tm_A d 179 817 ls (.int u :: .int v :: st) h K ↔ tm_A d 179 818 ls (.int (v + u) :: st) h K := tm_s o179_817 rfl rfl rfl
set_option maxRecDepth 20000 in
theorem o179_818 : tm_op 179 818 = some (.iaload, (0, 0, 0, 0)) := rfl
theorem r179_818 (d : Nat) (v : Int32) (a : Nat) (ls : tm_Lo) (st : List Value) (G : tm_G) (I : Nat → Nat → Int32) (J : Nat → Nat → Int64) (R : Nat → Nat → Option Nat) (K : Option Value → tm_H → Prop) : tm_A d 179 818 ls (.int v :: .ref a :: st) (G, I, J, R) K ↔ ((G.2.2 a).1 = 1 ∧ tm_in v (G.2.2 a).2) ∧ tm_A d 179 819 ls (.int (I a (tm_ix v)) :: st) (G, I, J, R) K := tm_iald o179_818
set_option maxRecDepth 20000 in
theorem o179_819 : tm_op 179 819 = some (.invokevirtual 106, (2, 107, 2, 9)) := rfl
theorem r179_819 (d : Nat) (v1 : Int32) (a : Nat) (ls : tm_Lo) (st : List Value) (h : tm_H) (K : Option Value → tm_H → Prop) : tm_A (d + 1) 179 819 ls (.int v1 :: .ref a :: st) h K ↔ (h.1.2.2 a = (0, 9) ∧ tm_cs st) ∧ tm_R d 107 [.ref a, .int v1] h (fun r h' => tm_A (d + 1) 179 822 ls (r.toList ++ st) h' K) := tm_callV (as := [.int v1]) o179_819 rfl rfl rfl rfl
set_option maxRecDepth 20000 in
theorem o179_822 : tm_op 179 822 = some (.aload_n 2, (0, 0, 0, 0)) := rfl
theorem r179_822 (d : Nat) (v : Nat) (l0 l1 l3 : Option Value) (st : List Value) (h : tm_H) (K : Option Value → tm_H → Prop) : tm_A d 179 822 [l0, l1, some (.ref v), l3] st h K ↔ tm_A d 179 823 [l0, l1, some (.ref v), l3] (.ref v :: st) h K := tm_s o179_822 rfl rfl rfl
theorem r179_822n (d : Nat)  (l0 l1 l3 : Option Value) (st : List Value) (h : tm_H) (K : Option Value → tm_H → Prop) : tm_A d 179 822 [l0, l1, some .null, l3] st h K ↔ tm_A d 179 823 [l0, l1, some .null, l3] (.null :: st) h K := tm_s o179_822 rfl rfl rfl
set_option maxRecDepth 20000 in
theorem o179_823 : tm_op 179 823 = some (.aload_n 0, (0, 0, 0, 0)) := rfl
theorem r179_823 (d : Nat) (v : Nat) (l1 l2 l3 : Option Value) (st : List Value) (h : tm_H) (K : Option Value → tm_H → Prop) : tm_A d 179 823 [some (.ref v), l1, l2, l3] st h K ↔ tm_A d 179 824 [some (.ref v), l1, l2, l3] (.ref v :: st) h K := tm_s o179_823 rfl rfl rfl
set_option maxRecDepth 20000 in
theorem o179_824 : tm_op 179 824 = some (.iload_n 3, (0, 0, 0, 0)) := rfl
theorem r179_824 (d : Nat) (v : Int32) (l0 l1 l2 : Option Value) (st : List Value) (h : tm_H) (K : Option Value → tm_H → Prop) : tm_A d 179 824 [l0, l1, l2, some (.int v)] st h K ↔ tm_A d 179 825 [l0, l1, l2, some (.int v)] (.int v :: st) h K := tm_s o179_824 rfl rfl rfl
set_option maxRecDepth 20000 in
theorem o179_825 : tm_op 179 825 = some (.iconst 1, (0, 0, 0, 0)) := rfl
theorem r179_825 (d : Nat) (ls : tm_Lo) (st : List Value) (h : tm_H) (K : Option Value → tm_H → Prop) : tm_A d 179 825 ls st h K ↔ tm_A d 179 826 ls (.int (1 : Int32) :: st) h K := tm_ic o179_825 (by decide)
set_option maxRecDepth 20000 in
theorem o179_826 : tm_op 179 826 = some (.iadd, (0, 0, 0, 0)) := rfl
theorem r179_826 (d : Nat) (u v : Int32) (ls : tm_Lo) (st : List Value) (h : tm_H) (K : Option Value → tm_H → Prop) : tm_A d 179 826 ls (.int u :: .int v :: st) h K ↔ tm_A d 179 827 ls (.int (v + u) :: st) h K := tm_s o179_826 rfl rfl rfl
set_option maxRecDepth 20000 in
theorem o179_827 : tm_op 179 827 = some (.iaload, (0, 0, 0, 0)) := rfl
theorem r179_827 (d : Nat) (v : Int32) (a : Nat) (ls : tm_Lo) (st : List Value) (G : tm_G) (I : Nat → Nat → Int32) (J : Nat → Nat → Int64) (R : Nat → Nat → Option Nat) (K : Option Value → tm_H → Prop) : tm_A d 179 827 ls (.int v :: .ref a :: st) (G, I, J, R) K ↔ ((G.2.2 a).1 = 1 ∧ tm_in v (G.2.2 a).2) ∧ tm_A d 179 828 ls (.int (I a (tm_ix v)) :: st) (G, I, J, R) K := tm_iald o179_827
set_option maxRecDepth 20000 in
theorem o179_828 : tm_op 179 828 = some (.invokevirtual 109, (2, 172, 2, 10)) := rfl
theorem r179_828 (d : Nat) (v1 : Int32) (a : Nat) (ls : tm_Lo) (st : List Value) (h : tm_H) (K : Option Value → tm_H → Prop) : tm_A (d + 1) 179 828 ls (.int v1 :: .ref a :: st) h K ↔ (h.1.2.2 a = (0, 10) ∧ tm_cs st) ∧ tm_R d 172 [.ref a, .int v1] h (fun r h' => tm_A (d + 1) 179 831 ls (r.toList ++ st) h' K) := tm_callV (as := [.int v1]) o179_828 rfl rfl rfl rfl
set_option maxRecDepth 20000 in
theorem o179_831 : tm_op 179 831 = some (.if_icmp .eq 28, (0, 0, 0, 0)) := rfl
theorem r179_831 (d : Nat) (y x : Int32) (ls : tm_Lo) (st : List Value) (h : tm_H) (K : Option Value → tm_H → Prop) : tm_A d 179 831 ls (.int y :: .int x :: st) h K ↔ if x = y then tm_A d 179 859 ls st h K else tm_A d 179 834 ls st h K := tm_b o179_831 rfl rfl rfl rfl
set_option maxRecDepth 20000 in
theorem o179_834 : tm_op 179 834 = some (.iconst 0, (0, 0, 0, 0)) := rfl
theorem r179_834 (d : Nat) (ls : tm_Lo) (st : List Value) (h : tm_H) (K : Option Value → tm_H → Prop) : tm_A d 179 834 ls st h K ↔ tm_A d 179 835 ls (.int (0 : Int32) :: st) h K := tm_ic o179_834 (by decide)
set_option maxRecDepth 20000 in
theorem o179_835 : tm_op 179 835 = some (.ireturn, (0, 0, 0, 0)) := rfl
theorem r179_835 (d : Nat) (v : Int32) (ls : tm_Lo) (h : tm_H) (K : Option Value → tm_H → Prop) : tm_A d 179 835 ls [.int v] h K ↔ (v = 0 ∨ v = 1) ∧ K (some (.int v)) h := tm_retz o179_835 rfl
set_option maxRecDepth 20000 in
theorem o179_836 : tm_op 179 836 = some (.aload_n 1, (0, 0, 0, 0)) := rfl
theorem r179_836 (d : Nat) (v : Nat) (l0 l2 l3 : Option Value) (st : List Value) (h : tm_H) (K : Option Value → tm_H → Prop) : tm_A d 179 836 [l0, some (.ref v), l2, l3] st h K ↔ tm_A d 179 837 [l0, some (.ref v), l2, l3] (.ref v :: st) h K := tm_s o179_836 rfl rfl rfl
theorem r179_836n (d : Nat)  (l0 l2 l3 : Option Value) (st : List Value) (h : tm_H) (K : Option Value → tm_H → Prop) : tm_A d 179 836 [l0, some .null, l2, l3] st h K ↔ tm_A d 179 837 [l0, some .null, l2, l3] (.null :: st) h K := tm_s o179_836 rfl rfl rfl
set_option maxRecDepth 20000 in
theorem o179_837 : tm_op 179 837 = some (.aload_n 0, (0, 0, 0, 0)) := rfl
theorem r179_837 (d : Nat) (v : Nat) (l1 l2 l3 : Option Value) (st : List Value) (h : tm_H) (K : Option Value → tm_H → Prop) : tm_A d 179 837 [some (.ref v), l1, l2, l3] st h K ↔ tm_A d 179 838 [some (.ref v), l1, l2, l3] (.ref v :: st) h K := tm_s o179_837 rfl rfl rfl
set_option maxRecDepth 20000 in
theorem o179_838 : tm_op 179 838 = some (.iload_n 3, (0, 0, 0, 0)) := rfl
theorem r179_838 (d : Nat) (v : Int32) (l0 l1 l2 : Option Value) (st : List Value) (h : tm_H) (K : Option Value → tm_H → Prop) : tm_A d 179 838 [l0, l1, l2, some (.int v)] st h K ↔ tm_A d 179 839 [l0, l1, l2, some (.int v)] (.int v :: st) h K := tm_s o179_838 rfl rfl rfl
set_option maxRecDepth 20000 in
theorem o179_839 : tm_op 179 839 = some (.iconst 1, (0, 0, 0, 0)) := rfl
theorem r179_839 (d : Nat) (ls : tm_Lo) (st : List Value) (h : tm_H) (K : Option Value → tm_H → Prop) : tm_A d 179 839 ls st h K ↔ tm_A d 179 840 ls (.int (1 : Int32) :: st) h K := tm_ic o179_839 (by decide)
set_option maxRecDepth 20000 in
theorem o179_840 : tm_op 179 840 = some (.iadd, (0, 0, 0, 0)) := rfl
theorem r179_840 (d : Nat) (u v : Int32) (ls : tm_Lo) (st : List Value) (h : tm_H) (K : Option Value → tm_H → Prop) : tm_A d 179 840 ls (.int u :: .int v :: st) h K ↔ tm_A d 179 841 ls (.int (v + u) :: st) h K := tm_s o179_840 rfl rfl rfl
set_option maxRecDepth 20000 in
theorem o179_841 : tm_op 179 841 = some (.iaload, (0, 0, 0, 0)) := rfl
theorem r179_841 (d : Nat) (v : Int32) (a : Nat) (ls : tm_Lo) (st : List Value) (G : tm_G) (I : Nat → Nat → Int32) (J : Nat → Nat → Int64) (R : Nat → Nat → Option Nat) (K : Option Value → tm_H → Prop) : tm_A d 179 841 ls (.int v :: .ref a :: st) (G, I, J, R) K ↔ ((G.2.2 a).1 = 1 ∧ tm_in v (G.2.2 a).2) ∧ tm_A d 179 842 ls (.int (I a (tm_ix v)) :: st) (G, I, J, R) K := tm_iald o179_841
set_option maxRecDepth 20000 in
theorem o179_842 : tm_op 179 842 = some (.invokevirtual 110, (2, 108, 2, 9)) := rfl
theorem r179_842 (d : Nat) (v1 : Int32) (a : Nat) (ls : tm_Lo) (st : List Value) (h : tm_H) (K : Option Value → tm_H → Prop) : tm_A (d + 1) 179 842 ls (.int v1 :: .ref a :: st) h K ↔ (h.1.2.2 a = (0, 9) ∧ tm_cs st) ∧ tm_R d 108 [.ref a, .int v1] h (fun r h' => tm_A (d + 1) 179 845 ls (r.toList ++ st) h' K) := tm_callV (as := [.int v1]) o179_842 rfl rfl rfl rfl
set_option maxRecDepth 20000 in
theorem o179_845 : tm_op 179 845 = some (.aload_n 2, (0, 0, 0, 0)) := rfl
theorem r179_845 (d : Nat) (v : Nat) (l0 l1 l3 : Option Value) (st : List Value) (h : tm_H) (K : Option Value → tm_H → Prop) : tm_A d 179 845 [l0, l1, some (.ref v), l3] st h K ↔ tm_A d 179 846 [l0, l1, some (.ref v), l3] (.ref v :: st) h K := tm_s o179_845 rfl rfl rfl
theorem r179_845n (d : Nat)  (l0 l1 l3 : Option Value) (st : List Value) (h : tm_H) (K : Option Value → tm_H → Prop) : tm_A d 179 845 [l0, l1, some .null, l3] st h K ↔ tm_A d 179 846 [l0, l1, some .null, l3] (.null :: st) h K := tm_s o179_845 rfl rfl rfl
set_option maxRecDepth 20000 in
theorem o179_846 : tm_op 179 846 = some (.aload_n 0, (0, 0, 0, 0)) := rfl
theorem r179_846 (d : Nat) (v : Nat) (l1 l2 l3 : Option Value) (st : List Value) (h : tm_H) (K : Option Value → tm_H → Prop) : tm_A d 179 846 [some (.ref v), l1, l2, l3] st h K ↔ tm_A d 179 847 [some (.ref v), l1, l2, l3] (.ref v :: st) h K := tm_s o179_846 rfl rfl rfl
set_option maxRecDepth 20000 in
theorem o179_847 : tm_op 179 847 = some (.iload_n 3, (0, 0, 0, 0)) := rfl
theorem r179_847 (d : Nat) (v : Int32) (l0 l1 l2 : Option Value) (st : List Value) (h : tm_H) (K : Option Value → tm_H → Prop) : tm_A d 179 847 [l0, l1, l2, some (.int v)] st h K ↔ tm_A d 179 848 [l0, l1, l2, some (.int v)] (.int v :: st) h K := tm_s o179_847 rfl rfl rfl
set_option maxRecDepth 20000 in
theorem o179_848 : tm_op 179 848 = some (.iconst 1, (0, 0, 0, 0)) := rfl
theorem r179_848 (d : Nat) (ls : tm_Lo) (st : List Value) (h : tm_H) (K : Option Value → tm_H → Prop) : tm_A d 179 848 ls st h K ↔ tm_A d 179 849 ls (.int (1 : Int32) :: st) h K := tm_ic o179_848 (by decide)
set_option maxRecDepth 20000 in
theorem o179_849 : tm_op 179 849 = some (.iadd, (0, 0, 0, 0)) := rfl
theorem r179_849 (d : Nat) (u v : Int32) (ls : tm_Lo) (st : List Value) (h : tm_H) (K : Option Value → tm_H → Prop) : tm_A d 179 849 ls (.int u :: .int v :: st) h K ↔ tm_A d 179 850 ls (.int (v + u) :: st) h K := tm_s o179_849 rfl rfl rfl
set_option maxRecDepth 20000 in
theorem o179_850 : tm_op 179 850 = some (.iaload, (0, 0, 0, 0)) := rfl
theorem r179_850 (d : Nat) (v : Int32) (a : Nat) (ls : tm_Lo) (st : List Value) (G : tm_G) (I : Nat → Nat → Int32) (J : Nat → Nat → Int64) (R : Nat → Nat → Option Nat) (K : Option Value → tm_H → Prop) : tm_A d 179 850 ls (.int v :: .ref a :: st) (G, I, J, R) K ↔ ((G.2.2 a).1 = 1 ∧ tm_in v (G.2.2 a).2) ∧ tm_A d 179 851 ls (.int (I a (tm_ix v)) :: st) (G, I, J, R) K := tm_iald o179_850
set_option maxRecDepth 20000 in
theorem o179_851 : tm_op 179 851 = some (.invokevirtual 113, (2, 173, 2, 10)) := rfl
theorem r179_851 (d : Nat) (v1 : Int32) (a : Nat) (ls : tm_Lo) (st : List Value) (h : tm_H) (K : Option Value → tm_H → Prop) : tm_A (d + 1) 179 851 ls (.int v1 :: .ref a :: st) h K ↔ (h.1.2.2 a = (0, 10) ∧ tm_cs st) ∧ tm_R d 173 [.ref a, .int v1] h (fun r h' => tm_A (d + 1) 179 854 ls (r.toList ++ st) h' K) := tm_callV (as := [.int v1]) o179_851 rfl rfl rfl rfl
set_option maxRecDepth 20000 in
theorem o179_854 : tm_op 179 854 = some (.if_icmp .eq 5, (0, 0, 0, 0)) := rfl
theorem r179_854 (d : Nat) (y x : Int32) (ls : tm_Lo) (st : List Value) (h : tm_H) (K : Option Value → tm_H → Prop) : tm_A d 179 854 ls (.int y :: .int x :: st) h K ↔ if x = y then tm_A d 179 859 ls st h K else tm_A d 179 857 ls st h K := tm_b o179_854 rfl rfl rfl rfl
set_option maxRecDepth 20000 in
theorem o179_857 : tm_op 179 857 = some (.iconst 0, (0, 0, 0, 0)) := rfl
theorem r179_857 (d : Nat) (ls : tm_Lo) (st : List Value) (h : tm_H) (K : Option Value → tm_H → Prop) : tm_A d 179 857 ls st h K ↔ tm_A d 179 858 ls (.int (0 : Int32) :: st) h K := tm_ic o179_857 (by decide)
set_option maxRecDepth 20000 in
theorem o179_858 : tm_op 179 858 = some (.ireturn, (0, 0, 0, 0)) := rfl
theorem r179_858 (d : Nat) (v : Int32) (ls : tm_Lo) (h : tm_H) (K : Option Value → tm_H → Prop) : tm_A d 179 858 ls [.int v] h K ↔ (v = 0 ∨ v = 1) ∧ K (some (.int v)) h := tm_retz o179_858 rfl
set_option maxRecDepth 20000 in
theorem o179_859 : tm_op 179 859 = some (.iinc 3 6, (0, 0, 0, 0)) := rfl
theorem r179_859 (d : Nat) (v : Int32) (l0 l1 l2 : Option Value) (st : List Value) (h : tm_H) (K : Option Value → tm_H → Prop) : tm_A d 179 859 [l0, l1, l2, some (.int v)] st h K ↔ tm_A d 179 862 [l0, l1, l2, some (.int (v + (6 : Int32)))] st h K := tm_s o179_859 rfl rfl rfl
set_option maxRecDepth 20000 in
theorem o179_862 : tm_op 179 862 = some (.goto (-844), (0, 0, 0, 0)) := rfl
theorem r179_862 (d : Nat) (ls : tm_Lo) (st : List Value) (h : tm_H) (K : Option Value → tm_H → Prop) : tm_A d 179 862 ls st h K ↔ tm_A d 179 18 ls st h K := tm_s o179_862 rfl rfl rfl
set_option maxRecDepth 20000 in
theorem o179_865 : tm_op 179 865 = some (.iconst 1, (0, 0, 0, 0)) := rfl
theorem r179_865 (d : Nat) (ls : tm_Lo) (st : List Value) (h : tm_H) (K : Option Value → tm_H → Prop) : tm_A d 179 865 ls st h K ↔ tm_A d 179 866 ls (.int (1 : Int32) :: st) h K := tm_ic o179_865 (by decide)
set_option maxRecDepth 20000 in
theorem o179_866 : tm_op 179 866 = some (.ireturn, (0, 0, 0, 0)) := rfl
theorem r179_866 (d : Nat) (v : Int32) (ls : tm_Lo) (h : tm_H) (K : Option Value → tm_H → Prop) : tm_A d 179 866 ls [.int v] h K ↔ (v = 0 ∨ v = 1) ∧ K (some (.int v)) h := tm_retz o179_866 rfl
