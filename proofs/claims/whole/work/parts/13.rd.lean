theorem o116_0 : tm_op 116 0 = some (.aload_n 0, (0, 0, 0, 0)) := rfl
theorem r116_0 (d : Nat) (v : Nat) (st : List Value) (h : tm_H) (K : Option Value → tm_H → Prop) : tm_A d 116 0 [some (.ref v)] st h K ↔ tm_A d 116 1 [some (.ref v)] (.ref v :: st) h K := tm_s o116_0 rfl rfl rfl
theorem o116_1 : tm_op 116 1 = some (.invokespecial 3, (4, 0, 0, 0)) := rfl
theorem r116_1 (d : Nat) (a : Nat) (ls : tm_Lo) (st : List Value) (h : tm_H) (K : Option Value → tm_H → Prop) : tm_A (d + 1) 116 1 ls (.ref a :: st) h K ↔ tm_cs st ∧ tm_A (d + 1) 116 4 ls st h K := tm_obj o116_1 rfl rfl
theorem o116_4 : tm_op 116 4 = some (.aload_n 0, (0, 0, 0, 0)) := rfl
theorem r116_4 (d : Nat) (v : Nat) (st : List Value) (h : tm_H) (K : Option Value → tm_H → Prop) : tm_A d 116 4 [some (.ref v)] st h K ↔ tm_A d 116 5 [some (.ref v)] (.ref v :: st) h K := tm_s o116_4 rfl rfl rfl
theorem o116_5 : tm_op 116 5 = some (.bipush 10, (0, 0, 0, 0)) := rfl
theorem r116_5 (d : Nat) (ls : tm_Lo) (st : List Value) (h : tm_H) (K : Option Value → tm_H → Prop) : tm_A d 116 5 ls st h K ↔ tm_A d 116 7 ls (.int (10 : Int32) :: st) h K := tm_bp o116_5 (by decide)
theorem o116_7 : tm_op 116 7 = some (.putfield 9, (0, 10, 3, 0)) := rfl
theorem r116_7 (d : Nat) (v : Int32) (a : Nat) (ls : tm_Lo) (st : List Value) (G : tm_G) (I : Nat → Nat → Int32) (J : Nat → Nat → Int64) (R : Nat → Nat → Option Nat) (K : Option Value → tm_H → Prop) : tm_A d 116 7 ls (.int v :: .ref a :: st) (G, I, J, R) K ↔ G.2.2 a = (0, 10) ∧ tm_A d 116 10 ls st (G, up2 I a 3 v, J, R) K := tm_putI o116_7
theorem o116_10 : tm_op 116 10 = some (.aload_n 0, (0, 0, 0, 0)) := rfl
theorem r116_10 (d : Nat) (v : Nat) (st : List Value) (h : tm_H) (K : Option Value → tm_H → Prop) : tm_A d 116 10 [some (.ref v)] st h K ↔ tm_A d 116 11 [some (.ref v)] (.ref v :: st) h K := tm_s o116_10 rfl rfl rfl
theorem o116_11 : tm_op 116 11 = some (.iconst 3, (0, 0, 0, 0)) := rfl
theorem r116_11 (d : Nat) (ls : tm_Lo) (st : List Value) (h : tm_H) (K : Option Value → tm_H → Prop) : tm_A d 116 11 ls st h K ↔ tm_A d 116 12 ls (.int (3 : Int32) :: st) h K := tm_ic o116_11 (by decide)
theorem o116_12 : tm_op 116 12 = some (.putfield 13, (0, 10, 4, 0)) := rfl
theorem r116_12 (d : Nat) (v : Int32) (a : Nat) (ls : tm_Lo) (st : List Value) (G : tm_G) (I : Nat → Nat → Int32) (J : Nat → Nat → Int64) (R : Nat → Nat → Option Nat) (K : Option Value → tm_H → Prop) : tm_A d 116 12 ls (.int v :: .ref a :: st) (G, I, J, R) K ↔ G.2.2 a = (0, 10) ∧ tm_A d 116 15 ls st (G, up2 I a 4 v, J, R) K := tm_putI o116_12
theorem o116_15 : tm_op 116 15 = some (.aload_n 0, (0, 0, 0, 0)) := rfl
theorem r116_15 (d : Nat) (v : Nat) (st : List Value) (h : tm_H) (K : Option Value → tm_H → Prop) : tm_A d 116 15 [some (.ref v)] st h K ↔ tm_A d 116 16 [some (.ref v)] (.ref v :: st) h K := tm_s o116_15 rfl rfl rfl
theorem o116_16 : tm_op 116 16 = some (.bipush 100, (0, 0, 0, 0)) := rfl
theorem r116_16 (d : Nat) (ls : tm_Lo) (st : List Value) (h : tm_H) (K : Option Value → tm_H → Prop) : tm_A d 116 16 ls st h K ↔ tm_A d 116 18 ls (.int (100 : Int32) :: st) h K := tm_bp o116_16 (by decide)
theorem o116_18 : tm_op 116 18 = some (.newarray .int, (1, 0, 0, 0)) := rfl
theorem r116_18 (d : Nat) (v : Int32) (ls : tm_Lo) (st : List Value) (G : tm_G) (I : Nat → Nat → Int32) (J : Nat → Nat → Int64) (R : Nat → Nat → Option Nat) (K : Option Value → tm_H → Prop) : tm_A d 116 18 ls (.int v :: st) (G, I, J, R) K ↔ (¬ v < 0 ∧ (tm_ix v) ≤ 100000) ∧ tm_A d 116 20 ls (.ref G.1 :: st) (tm_nw (1, (tm_ix v)) (tm_ix v) (G, I, J, R)) K := tm_newa o116_18
theorem o116_20 : tm_op 116 20 = some (.putfield 16, (2, 10, 5, 0)) := rfl
theorem r116_20 (d : Nat) (v : Nat) (a : Nat) (ls : tm_Lo) (st : List Value) (G : tm_G) (I : Nat → Nat → Int32) (J : Nat → Nat → Int64) (R : Nat → Nat → Option Nat) (K : Option Value → tm_H → Prop) : tm_A d 116 20 ls (.ref v :: .ref a :: st) (G, I, J, R) K ↔ G.2.2 a = (0, 10) ∧ tm_A d 116 23 ls st (G, I, J, up2 R a 5 (some v)) K := tm_putR o116_20
theorem o116_23 : tm_op 116 23 = some (.aload_n 0, (0, 0, 0, 0)) := rfl
theorem r116_23 (d : Nat) (v : Nat) (st : List Value) (h : tm_H) (K : Option Value → tm_H → Prop) : tm_A d 116 23 [some (.ref v)] st h K ↔ tm_A d 116 24 [some (.ref v)] (.ref v :: st) h K := tm_s o116_23 rfl rfl rfl
theorem o116_24 : tm_op 116 24 = some (.iconst 5, (0, 0, 0, 0)) := rfl
theorem r116_24 (d : Nat) (ls : tm_Lo) (st : List Value) (h : tm_H) (K : Option Value → tm_H → Prop) : tm_A d 116 24 ls st h K ↔ tm_A d 116 25 ls (.int (5 : Int32) :: st) h K := tm_ic o116_24 (by decide)
theorem o116_25 : tm_op 116 25 = some (.newarray .int, (1, 0, 0, 0)) := rfl
theorem r116_25 (d : Nat) (v : Int32) (ls : tm_Lo) (st : List Value) (G : tm_G) (I : Nat → Nat → Int32) (J : Nat → Nat → Int64) (R : Nat → Nat → Option Nat) (K : Option Value → tm_H → Prop) : tm_A d 116 25 ls (.int v :: st) (G, I, J, R) K ↔ (¬ v < 0 ∧ (tm_ix v) ≤ 100000) ∧ tm_A d 116 27 ls (.ref G.1 :: st) (tm_nw (1, (tm_ix v)) (tm_ix v) (G, I, J, R)) K := tm_newa o116_25
theorem o116_27 : tm_op 116 27 = some (.putfield 20, (2, 10, 9, 0)) := rfl
theorem r116_27 (d : Nat) (v : Nat) (a : Nat) (ls : tm_Lo) (st : List Value) (G : tm_G) (I : Nat → Nat → Int32) (J : Nat → Nat → Int64) (R : Nat → Nat → Option Nat) (K : Option Value → tm_H → Prop) : tm_A d 116 27 ls (.ref v :: .ref a :: st) (G, I, J, R) K ↔ G.2.2 a = (0, 10) ∧ tm_A d 116 30 ls st (G, I, J, up2 R a 9 (some v)) K := tm_putR o116_27
theorem o116_30 : tm_op 116 30 = some (.aload_n 0, (0, 0, 0, 0)) := rfl
theorem r116_30 (d : Nat) (v : Nat) (st : List Value) (h : tm_H) (K : Option Value → tm_H → Prop) : tm_A d 116 30 [some (.ref v)] st h K ↔ tm_A d 116 31 [some (.ref v)] (.ref v :: st) h K := tm_s o116_30 rfl rfl rfl
theorem o116_31 : tm_op 116 31 = some (.bipush 18, (0, 0, 0, 0)) := rfl
theorem r116_31 (d : Nat) (ls : tm_Lo) (st : List Value) (h : tm_H) (K : Option Value → tm_H → Prop) : tm_A d 116 31 ls st h K ↔ tm_A d 116 33 ls (.int (18 : Int32) :: st) h K := tm_bp o116_31 (by decide)
theorem o116_33 : tm_op 116 33 = some (.newarray .int, (1, 0, 0, 0)) := rfl
theorem r116_33 (d : Nat) (v : Int32) (ls : tm_Lo) (st : List Value) (G : tm_G) (I : Nat → Nat → Int32) (J : Nat → Nat → Int64) (R : Nat → Nat → Option Nat) (K : Option Value → tm_H → Prop) : tm_A d 116 33 ls (.int v :: st) (G, I, J, R) K ↔ (¬ v < 0 ∧ (tm_ix v) ≤ 100000) ∧ tm_A d 116 35 ls (.ref G.1 :: st) (tm_nw (1, (tm_ix v)) (tm_ix v) (G, I, J, R)) K := tm_newa o116_33
theorem o116_35 : tm_op 116 35 = some (.putfield 23, (2, 10, 11, 0)) := rfl
theorem r116_35 (d : Nat) (v : Nat) (a : Nat) (ls : tm_Lo) (st : List Value) (G : tm_G) (I : Nat → Nat → Int32) (J : Nat → Nat → Int64) (R : Nat → Nat → Option Nat) (K : Option Value → tm_H → Prop) : tm_A d 116 35 ls (.ref v :: .ref a :: st) (G, I, J, R) K ↔ G.2.2 a = (0, 10) ∧ tm_A d 116 38 ls st (G, I, J, up2 R a 11 (some v)) K := tm_putR o116_35
theorem o116_38 : tm_op 116 38 = some (.aload_n 0, (0, 0, 0, 0)) := rfl
theorem r116_38 (d : Nat) (v : Nat) (st : List Value) (h : tm_H) (K : Option Value → tm_H → Prop) : tm_A d 116 38 [some (.ref v)] st h K ↔ tm_A d 116 39 [some (.ref v)] (.ref v :: st) h K := tm_s o116_38 rfl rfl rfl
theorem o116_39 : tm_op 116 39 = some (.iconst 3, (0, 0, 0, 0)) := rfl
theorem r116_39 (d : Nat) (ls : tm_Lo) (st : List Value) (h : tm_H) (K : Option Value → tm_H → Prop) : tm_A d 116 39 ls st h K ↔ tm_A d 116 40 ls (.int (3 : Int32) :: st) h K := tm_ic o116_39 (by decide)
theorem o116_40 : tm_op 116 40 = some (.newarray .int, (1, 0, 0, 0)) := rfl
theorem r116_40 (d : Nat) (v : Int32) (ls : tm_Lo) (st : List Value) (G : tm_G) (I : Nat → Nat → Int32) (J : Nat → Nat → Int64) (R : Nat → Nat → Option Nat) (K : Option Value → tm_H → Prop) : tm_A d 116 40 ls (.int v :: st) (G, I, J, R) K ↔ (¬ v < 0 ∧ (tm_ix v) ≤ 100000) ∧ tm_A d 116 42 ls (.ref G.1 :: st) (tm_nw (1, (tm_ix v)) (tm_ix v) (G, I, J, R)) K := tm_newa o116_40
theorem o116_42 : tm_op 116 42 = some (.putfield 26, (2, 10, 12, 0)) := rfl
theorem r116_42 (d : Nat) (v : Nat) (a : Nat) (ls : tm_Lo) (st : List Value) (G : tm_G) (I : Nat → Nat → Int32) (J : Nat → Nat → Int64) (R : Nat → Nat → Option Nat) (K : Option Value → tm_H → Prop) : tm_A d 116 42 ls (.ref v :: .ref a :: st) (G, I, J, R) K ↔ G.2.2 a = (0, 10) ∧ tm_A d 116 45 ls st (G, I, J, up2 R a 12 (some v)) K := tm_putR o116_42
theorem o116_45 : tm_op 116 45 = some (.aload_n 0, (0, 0, 0, 0)) := rfl
theorem r116_45 (d : Nat) (v : Nat) (st : List Value) (h : tm_H) (K : Option Value → tm_H → Prop) : tm_A d 116 45 [some (.ref v)] st h K ↔ tm_A d 116 46 [some (.ref v)] (.ref v :: st) h K := tm_s o116_45 rfl rfl rfl
theorem o116_46 : tm_op 116 46 = some (.bipush 70, (0, 0, 0, 0)) := rfl
theorem r116_46 (d : Nat) (ls : tm_Lo) (st : List Value) (h : tm_H) (K : Option Value → tm_H → Prop) : tm_A d 116 46 ls st h K ↔ tm_A d 116 48 ls (.int (70 : Int32) :: st) h K := tm_bp o116_46 (by decide)
theorem o116_48 : tm_op 116 48 = some (.newarray .int, (1, 0, 0, 0)) := rfl
theorem r116_48 (d : Nat) (v : Int32) (ls : tm_Lo) (st : List Value) (G : tm_G) (I : Nat → Nat → Int32) (J : Nat → Nat → Int64) (R : Nat → Nat → Option Nat) (K : Option Value → tm_H → Prop) : tm_A d 116 48 ls (.int v :: st) (G, I, J, R) K ↔ (¬ v < 0 ∧ (tm_ix v) ≤ 100000) ∧ tm_A d 116 50 ls (.ref G.1 :: st) (tm_nw (1, (tm_ix v)) (tm_ix v) (G, I, J, R)) K := tm_newa o116_48
theorem o116_50 : tm_op 116 50 = some (.putfield 29, (2, 10, 15, 0)) := rfl
theorem r116_50 (d : Nat) (v : Nat) (a : Nat) (ls : tm_Lo) (st : List Value) (G : tm_G) (I : Nat → Nat → Int32) (J : Nat → Nat → Int64) (R : Nat → Nat → Option Nat) (K : Option Value → tm_H → Prop) : tm_A d 116 50 ls (.ref v :: .ref a :: st) (G, I, J, R) K ↔ G.2.2 a = (0, 10) ∧ tm_A d 116 53 ls st (G, I, J, up2 R a 15 (some v)) K := tm_putR o116_50
theorem o116_53 : tm_op 116 53 = some (.aload_n 0, (0, 0, 0, 0)) := rfl
theorem r116_53 (d : Nat) (v : Nat) (st : List Value) (h : tm_H) (K : Option Value → tm_H → Prop) : tm_A d 116 53 [some (.ref v)] st h K ↔ tm_A d 116 54 [some (.ref v)] (.ref v :: st) h K := tm_s o116_53 rfl rfl rfl
theorem o116_54 : tm_op 116 54 = some (.bipush 70, (0, 0, 0, 0)) := rfl
theorem r116_54 (d : Nat) (ls : tm_Lo) (st : List Value) (h : tm_H) (K : Option Value → tm_H → Prop) : tm_A d 116 54 ls st h K ↔ tm_A d 116 56 ls (.int (70 : Int32) :: st) h K := tm_bp o116_54 (by decide)
theorem o116_56 : tm_op 116 56 = some (.newarray .int, (1, 0, 0, 0)) := rfl
theorem r116_56 (d : Nat) (v : Int32) (ls : tm_Lo) (st : List Value) (G : tm_G) (I : Nat → Nat → Int32) (J : Nat → Nat → Int64) (R : Nat → Nat → Option Nat) (K : Option Value → tm_H → Prop) : tm_A d 116 56 ls (.int v :: st) (G, I, J, R) K ↔ (¬ v < 0 ∧ (tm_ix v) ≤ 100000) ∧ tm_A d 116 58 ls (.ref G.1 :: st) (tm_nw (1, (tm_ix v)) (tm_ix v) (G, I, J, R)) K := tm_newa o116_56
theorem o116_58 : tm_op 116 58 = some (.putfield 32, (2, 10, 16, 0)) := rfl
theorem r116_58 (d : Nat) (v : Nat) (a : Nat) (ls : tm_Lo) (st : List Value) (G : tm_G) (I : Nat → Nat → Int32) (J : Nat → Nat → Int64) (R : Nat → Nat → Option Nat) (K : Option Value → tm_H → Prop) : tm_A d 116 58 ls (.ref v :: .ref a :: st) (G, I, J, R) K ↔ G.2.2 a = (0, 10) ∧ tm_A d 116 61 ls st (G, I, J, up2 R a 16 (some v)) K := tm_putR o116_58
theorem o116_61 : tm_op 116 61 = some (.aload_n 0, (0, 0, 0, 0)) := rfl
theorem r116_61 (d : Nat) (v : Nat) (st : List Value) (h : tm_H) (K : Option Value → tm_H → Prop) : tm_A d 116 61 [some (.ref v)] st h K ↔ tm_A d 116 62 [some (.ref v)] (.ref v :: st) h K := tm_s o116_61 rfl rfl rfl
theorem o116_62 : tm_op 116 62 = some (.bipush 70, (0, 0, 0, 0)) := rfl
theorem r116_62 (d : Nat) (ls : tm_Lo) (st : List Value) (h : tm_H) (K : Option Value → tm_H → Prop) : tm_A d 116 62 ls st h K ↔ tm_A d 116 64 ls (.int (70 : Int32) :: st) h K := tm_bp o116_62 (by decide)
theorem o116_64 : tm_op 116 64 = some (.newarray .int, (1, 0, 0, 0)) := rfl
theorem r116_64 (d : Nat) (v : Int32) (ls : tm_Lo) (st : List Value) (G : tm_G) (I : Nat → Nat → Int32) (J : Nat → Nat → Int64) (R : Nat → Nat → Option Nat) (K : Option Value → tm_H → Prop) : tm_A d 116 64 ls (.int v :: st) (G, I, J, R) K ↔ (¬ v < 0 ∧ (tm_ix v) ≤ 100000) ∧ tm_A d 116 66 ls (.ref G.1 :: st) (tm_nw (1, (tm_ix v)) (tm_ix v) (G, I, J, R)) K := tm_newa o116_64
theorem o116_66 : tm_op 116 66 = some (.putfield 35, (2, 10, 17, 0)) := rfl
theorem r116_66 (d : Nat) (v : Nat) (a : Nat) (ls : tm_Lo) (st : List Value) (G : tm_G) (I : Nat → Nat → Int32) (J : Nat → Nat → Int64) (R : Nat → Nat → Option Nat) (K : Option Value → tm_H → Prop) : tm_A d 116 66 ls (.ref v :: .ref a :: st) (G, I, J, R) K ↔ G.2.2 a = (0, 10) ∧ tm_A d 116 69 ls st (G, I, J, up2 R a 17 (some v)) K := tm_putR o116_66
theorem o116_69 : tm_op 116 69 = some (.aload_n 0, (0, 0, 0, 0)) := rfl
theorem r116_69 (d : Nat) (v : Nat) (st : List Value) (h : tm_H) (K : Option Value → tm_H → Prop) : tm_A d 116 69 [some (.ref v)] st h K ↔ tm_A d 116 70 [some (.ref v)] (.ref v :: st) h K := tm_s o116_69 rfl rfl rfl
theorem o116_70 : tm_op 116 70 = some (.bipush 70, (0, 0, 0, 0)) := rfl
theorem r116_70 (d : Nat) (ls : tm_Lo) (st : List Value) (h : tm_H) (K : Option Value → tm_H → Prop) : tm_A d 116 70 ls st h K ↔ tm_A d 116 72 ls (.int (70 : Int32) :: st) h K := tm_bp o116_70 (by decide)
theorem o116_72 : tm_op 116 72 = some (.newarray .int, (1, 0, 0, 0)) := rfl
theorem r116_72 (d : Nat) (v : Int32) (ls : tm_Lo) (st : List Value) (G : tm_G) (I : Nat → Nat → Int32) (J : Nat → Nat → Int64) (R : Nat → Nat → Option Nat) (K : Option Value → tm_H → Prop) : tm_A d 116 72 ls (.int v :: st) (G, I, J, R) K ↔ (¬ v < 0 ∧ (tm_ix v) ≤ 100000) ∧ tm_A d 116 74 ls (.ref G.1 :: st) (tm_nw (1, (tm_ix v)) (tm_ix v) (G, I, J, R)) K := tm_newa o116_72
theorem o116_74 : tm_op 116 74 = some (.putfield 38, (2, 10, 18, 0)) := rfl
theorem r116_74 (d : Nat) (v : Nat) (a : Nat) (ls : tm_Lo) (st : List Value) (G : tm_G) (I : Nat → Nat → Int32) (J : Nat → Nat → Int64) (R : Nat → Nat → Option Nat) (K : Option Value → tm_H → Prop) : tm_A d 116 74 ls (.ref v :: .ref a :: st) (G, I, J, R) K ↔ G.2.2 a = (0, 10) ∧ tm_A d 116 77 ls st (G, I, J, up2 R a 18 (some v)) K := tm_putR o116_74
theorem o116_77 : tm_op 116 77 = some (.aload_n 0, (0, 0, 0, 0)) := rfl
theorem r116_77 (d : Nat) (v : Nat) (st : List Value) (h : tm_H) (K : Option Value → tm_H → Prop) : tm_A d 116 77 [some (.ref v)] st h K ↔ tm_A d 116 78 [some (.ref v)] (.ref v :: st) h K := tm_s o116_77 rfl rfl rfl
theorem o116_78 : tm_op 116 78 = some (.sipush 350, (0, 0, 0, 0)) := rfl
theorem r116_78 (d : Nat) (ls : tm_Lo) (st : List Value) (h : tm_H) (K : Option Value → tm_H → Prop) : tm_A d 116 78 ls st h K ↔ tm_A d 116 81 ls (.int (350 : Int32) :: st) h K := tm_sp o116_78 (by decide)
theorem o116_81 : tm_op 116 81 = some (.newarray .int, (1, 0, 0, 0)) := rfl
theorem r116_81 (d : Nat) (v : Int32) (ls : tm_Lo) (st : List Value) (G : tm_G) (I : Nat → Nat → Int32) (J : Nat → Nat → Int64) (R : Nat → Nat → Option Nat) (K : Option Value → tm_H → Prop) : tm_A d 116 81 ls (.int v :: st) (G, I, J, R) K ↔ (¬ v < 0 ∧ (tm_ix v) ≤ 100000) ∧ tm_A d 116 83 ls (.ref G.1 :: st) (tm_nw (1, (tm_ix v)) (tm_ix v) (G, I, J, R)) K := tm_newa o116_81
theorem o116_83 : tm_op 116 83 = some (.putfield 41, (2, 10, 19, 0)) := rfl
theorem r116_83 (d : Nat) (v : Nat) (a : Nat) (ls : tm_Lo) (st : List Value) (G : tm_G) (I : Nat → Nat → Int32) (J : Nat → Nat → Int64) (R : Nat → Nat → Option Nat) (K : Option Value → tm_H → Prop) : tm_A d 116 83 ls (.ref v :: .ref a :: st) (G, I, J, R) K ↔ G.2.2 a = (0, 10) ∧ tm_A d 116 86 ls st (G, I, J, up2 R a 19 (some v)) K := tm_putR o116_83
theorem o116_86 : tm_op 116 86 = some (.aload_n 0, (0, 0, 0, 0)) := rfl
theorem r116_86 (d : Nat) (v : Nat) (st : List Value) (h : tm_H) (K : Option Value → tm_H → Prop) : tm_A d 116 86 [some (.ref v)] st h K ↔ tm_A d 116 87 [some (.ref v)] (.ref v :: st) h K := tm_s o116_86 rfl rfl rfl
theorem o116_87 : tm_op 116 87 = some (.bipush 70, (0, 0, 0, 0)) := rfl
theorem r116_87 (d : Nat) (ls : tm_Lo) (st : List Value) (h : tm_H) (K : Option Value → tm_H → Prop) : tm_A d 116 87 ls st h K ↔ tm_A d 116 89 ls (.int (70 : Int32) :: st) h K := tm_bp o116_87 (by decide)
theorem o116_89 : tm_op 116 89 = some (.newarray .int, (1, 0, 0, 0)) := rfl
theorem r116_89 (d : Nat) (v : Int32) (ls : tm_Lo) (st : List Value) (G : tm_G) (I : Nat → Nat → Int32) (J : Nat → Nat → Int64) (R : Nat → Nat → Option Nat) (K : Option Value → tm_H → Prop) : tm_A d 116 89 ls (.int v :: st) (G, I, J, R) K ↔ (¬ v < 0 ∧ (tm_ix v) ≤ 100000) ∧ tm_A d 116 91 ls (.ref G.1 :: st) (tm_nw (1, (tm_ix v)) (tm_ix v) (G, I, J, R)) K := tm_newa o116_89
theorem o116_91 : tm_op 116 91 = some (.putfield 44, (2, 10, 20, 0)) := rfl
theorem r116_91 (d : Nat) (v : Nat) (a : Nat) (ls : tm_Lo) (st : List Value) (G : tm_G) (I : Nat → Nat → Int32) (J : Nat → Nat → Int64) (R : Nat → Nat → Option Nat) (K : Option Value → tm_H → Prop) : tm_A d 116 91 ls (.ref v :: .ref a :: st) (G, I, J, R) K ↔ G.2.2 a = (0, 10) ∧ tm_A d 116 94 ls st (G, I, J, up2 R a 20 (some v)) K := tm_putR o116_91
theorem o116_94 : tm_op 116 94 = some (.aload_n 0, (0, 0, 0, 0)) := rfl
theorem r116_94 (d : Nat) (v : Nat) (st : List Value) (h : tm_H) (K : Option Value → tm_H → Prop) : tm_A d 116 94 [some (.ref v)] st h K ↔ tm_A d 116 95 [some (.ref v)] (.ref v :: st) h K := tm_s o116_94 rfl rfl rfl
theorem o116_95 : tm_op 116 95 = some (.bipush 70, (0, 0, 0, 0)) := rfl
theorem r116_95 (d : Nat) (ls : tm_Lo) (st : List Value) (h : tm_H) (K : Option Value → tm_H → Prop) : tm_A d 116 95 ls st h K ↔ tm_A d 116 97 ls (.int (70 : Int32) :: st) h K := tm_bp o116_95 (by decide)
theorem o116_97 : tm_op 116 97 = some (.newarray .int, (1, 0, 0, 0)) := rfl
theorem r116_97 (d : Nat) (v : Int32) (ls : tm_Lo) (st : List Value) (G : tm_G) (I : Nat → Nat → Int32) (J : Nat → Nat → Int64) (R : Nat → Nat → Option Nat) (K : Option Value → tm_H → Prop) : tm_A d 116 97 ls (.int v :: st) (G, I, J, R) K ↔ (¬ v < 0 ∧ (tm_ix v) ≤ 100000) ∧ tm_A d 116 99 ls (.ref G.1 :: st) (tm_nw (1, (tm_ix v)) (tm_ix v) (G, I, J, R)) K := tm_newa o116_97
theorem o116_99 : tm_op 116 99 = some (.putfield 47, (2, 10, 21, 0)) := rfl
theorem r116_99 (d : Nat) (v : Nat) (a : Nat) (ls : tm_Lo) (st : List Value) (G : tm_G) (I : Nat → Nat → Int32) (J : Nat → Nat → Int64) (R : Nat → Nat → Option Nat) (K : Option Value → tm_H → Prop) : tm_A d 116 99 ls (.ref v :: .ref a :: st) (G, I, J, R) K ↔ G.2.2 a = (0, 10) ∧ tm_A d 116 102 ls st (G, I, J, up2 R a 21 (some v)) K := tm_putR o116_99
theorem o116_102 : tm_op 116 102 = some (.aload_n 0, (0, 0, 0, 0)) := rfl
theorem r116_102 (d : Nat) (v : Nat) (st : List Value) (h : tm_H) (K : Option Value → tm_H → Prop) : tm_A d 116 102 [some (.ref v)] st h K ↔ tm_A d 116 103 [some (.ref v)] (.ref v :: st) h K := tm_s o116_102 rfl rfl rfl
theorem o116_103 : tm_op 116 103 = some (.sipush 1260, (0, 0, 0, 0)) := rfl
theorem r116_103 (d : Nat) (ls : tm_Lo) (st : List Value) (h : tm_H) (K : Option Value → tm_H → Prop) : tm_A d 116 103 ls st h K ↔ tm_A d 116 106 ls (.int (1260 : Int32) :: st) h K := tm_sp o116_103 (by decide)
theorem o116_106 : tm_op 116 106 = some (.newarray .int, (1, 0, 0, 0)) := rfl
theorem r116_106 (d : Nat) (v : Int32) (ls : tm_Lo) (st : List Value) (G : tm_G) (I : Nat → Nat → Int32) (J : Nat → Nat → Int64) (R : Nat → Nat → Option Nat) (K : Option Value → tm_H → Prop) : tm_A d 116 106 ls (.int v :: st) (G, I, J, R) K ↔ (¬ v < 0 ∧ (tm_ix v) ≤ 100000) ∧ tm_A d 116 108 ls (.ref G.1 :: st) (tm_nw (1, (tm_ix v)) (tm_ix v) (G, I, J, R)) K := tm_newa o116_106
theorem o116_108 : tm_op 116 108 = some (.putfield 50, (2, 10, 22, 0)) := rfl
theorem r116_108 (d : Nat) (v : Nat) (a : Nat) (ls : tm_Lo) (st : List Value) (G : tm_G) (I : Nat → Nat → Int32) (J : Nat → Nat → Int64) (R : Nat → Nat → Option Nat) (K : Option Value → tm_H → Prop) : tm_A d 116 108 ls (.ref v :: .ref a :: st) (G, I, J, R) K ↔ G.2.2 a = (0, 10) ∧ tm_A d 116 111 ls st (G, I, J, up2 R a 22 (some v)) K := tm_putR o116_108
theorem o116_111 : tm_op 116 111 = some (.aload_n 0, (0, 0, 0, 0)) := rfl
theorem r116_111 (d : Nat) (v : Nat) (st : List Value) (h : tm_H) (K : Option Value → tm_H → Prop) : tm_A d 116 111 [some (.ref v)] st h K ↔ tm_A d 116 112 [some (.ref v)] (.ref v :: st) h K := tm_s o116_111 rfl rfl rfl
theorem o116_112 : tm_op 116 112 = some (.sipush 210, (0, 0, 0, 0)) := rfl
theorem r116_112 (d : Nat) (ls : tm_Lo) (st : List Value) (h : tm_H) (K : Option Value → tm_H → Prop) : tm_A d 116 112 ls st h K ↔ tm_A d 116 115 ls (.int (210 : Int32) :: st) h K := tm_sp o116_112 (by decide)
theorem o116_115 : tm_op 116 115 = some (.newarray .int, (1, 0, 0, 0)) := rfl
theorem r116_115 (d : Nat) (v : Int32) (ls : tm_Lo) (st : List Value) (G : tm_G) (I : Nat → Nat → Int32) (J : Nat → Nat → Int64) (R : Nat → Nat → Option Nat) (K : Option Value → tm_H → Prop) : tm_A d 116 115 ls (.int v :: st) (G, I, J, R) K ↔ (¬ v < 0 ∧ (tm_ix v) ≤ 100000) ∧ tm_A d 116 117 ls (.ref G.1 :: st) (tm_nw (1, (tm_ix v)) (tm_ix v) (G, I, J, R)) K := tm_newa o116_115
theorem o116_117 : tm_op 116 117 = some (.putfield 53, (2, 10, 23, 0)) := rfl
theorem r116_117 (d : Nat) (v : Nat) (a : Nat) (ls : tm_Lo) (st : List Value) (G : tm_G) (I : Nat → Nat → Int32) (J : Nat → Nat → Int64) (R : Nat → Nat → Option Nat) (K : Option Value → tm_H → Prop) : tm_A d 116 117 ls (.ref v :: .ref a :: st) (G, I, J, R) K ↔ G.2.2 a = (0, 10) ∧ tm_A d 116 120 ls st (G, I, J, up2 R a 23 (some v)) K := tm_putR o116_117
theorem o116_120 : tm_op 116 120 = some (.aload_n 0, (0, 0, 0, 0)) := rfl
theorem r116_120 (d : Nat) (v : Nat) (st : List Value) (h : tm_H) (K : Option Value → tm_H → Prop) : tm_A d 116 120 [some (.ref v)] st h K ↔ tm_A d 116 121 [some (.ref v)] (.ref v :: st) h K := tm_s o116_120 rfl rfl rfl
theorem o116_121 : tm_op 116 121 = some (.bipush 10, (0, 0, 0, 0)) := rfl
theorem r116_121 (d : Nat) (ls : tm_Lo) (st : List Value) (h : tm_H) (K : Option Value → tm_H → Prop) : tm_A d 116 121 ls st h K ↔ tm_A d 116 123 ls (.int (10 : Int32) :: st) h K := tm_bp o116_121 (by decide)
theorem o116_123 : tm_op 116 123 = some (.newarray .int, (1, 0, 0, 0)) := rfl
theorem r116_123 (d : Nat) (v : Int32) (ls : tm_Lo) (st : List Value) (G : tm_G) (I : Nat → Nat → Int32) (J : Nat → Nat → Int64) (R : Nat → Nat → Option Nat) (K : Option Value → tm_H → Prop) : tm_A d 116 123 ls (.int v :: st) (G, I, J, R) K ↔ (¬ v < 0 ∧ (tm_ix v) ≤ 100000) ∧ tm_A d 116 125 ls (.ref G.1 :: st) (tm_nw (1, (tm_ix v)) (tm_ix v) (G, I, J, R)) K := tm_newa o116_123
theorem o116_125 : tm_op 116 125 = some (.putfield 56, (2, 10, 24, 0)) := rfl
theorem r116_125 (d : Nat) (v : Nat) (a : Nat) (ls : tm_Lo) (st : List Value) (G : tm_G) (I : Nat → Nat → Int32) (J : Nat → Nat → Int64) (R : Nat → Nat → Option Nat) (K : Option Value → tm_H → Prop) : tm_A d 116 125 ls (.ref v :: .ref a :: st) (G, I, J, R) K ↔ G.2.2 a = (0, 10) ∧ tm_A d 116 128 ls st (G, I, J, up2 R a 24 (some v)) K := tm_putR o116_125
theorem o116_128 : tm_op 116 128 = some (.aload_n 0, (0, 0, 0, 0)) := rfl
theorem r116_128 (d : Nat) (v : Nat) (st : List Value) (h : tm_H) (K : Option Value → tm_H → Prop) : tm_A d 116 128 [some (.ref v)] st h K ↔ tm_A d 116 129 [some (.ref v)] (.ref v :: st) h K := tm_s o116_128 rfl rfl rfl
theorem o116_129 : tm_op 116 129 = some (.bipush 50, (0, 0, 0, 0)) := rfl
theorem r116_129 (d : Nat) (ls : tm_Lo) (st : List Value) (h : tm_H) (K : Option Value → tm_H → Prop) : tm_A d 116 129 ls st h K ↔ tm_A d 116 131 ls (.int (50 : Int32) :: st) h K := tm_bp o116_129 (by decide)
theorem o116_131 : tm_op 116 131 = some (.newarray .int, (1, 0, 0, 0)) := rfl
theorem r116_131 (d : Nat) (v : Int32) (ls : tm_Lo) (st : List Value) (G : tm_G) (I : Nat → Nat → Int32) (J : Nat → Nat → Int64) (R : Nat → Nat → Option Nat) (K : Option Value → tm_H → Prop) : tm_A d 116 131 ls (.int v :: st) (G, I, J, R) K ↔ (¬ v < 0 ∧ (tm_ix v) ≤ 100000) ∧ tm_A d 116 133 ls (.ref G.1 :: st) (tm_nw (1, (tm_ix v)) (tm_ix v) (G, I, J, R)) K := tm_newa o116_131
theorem o116_133 : tm_op 116 133 = some (.putfield 59, (2, 10, 25, 0)) := rfl
theorem r116_133 (d : Nat) (v : Nat) (a : Nat) (ls : tm_Lo) (st : List Value) (G : tm_G) (I : Nat → Nat → Int32) (J : Nat → Nat → Int64) (R : Nat → Nat → Option Nat) (K : Option Value → tm_H → Prop) : tm_A d 116 133 ls (.ref v :: .ref a :: st) (G, I, J, R) K ↔ G.2.2 a = (0, 10) ∧ tm_A d 116 136 ls st (G, I, J, up2 R a 25 (some v)) K := tm_putR o116_133
theorem o116_136 : tm_op 116 136 = some (.aload_n 0, (0, 0, 0, 0)) := rfl
theorem r116_136 (d : Nat) (v : Nat) (st : List Value) (h : tm_H) (K : Option Value → tm_H → Prop) : tm_A d 116 136 [some (.ref v)] st h K ↔ tm_A d 116 137 [some (.ref v)] (.ref v :: st) h K := tm_s o116_136 rfl rfl rfl
theorem o116_137 : tm_op 116 137 = some (.bipush 10, (0, 0, 0, 0)) := rfl
theorem r116_137 (d : Nat) (ls : tm_Lo) (st : List Value) (h : tm_H) (K : Option Value → tm_H → Prop) : tm_A d 116 137 ls st h K ↔ tm_A d 116 139 ls (.int (10 : Int32) :: st) h K := tm_bp o116_137 (by decide)
theorem o116_139 : tm_op 116 139 = some (.newarray .int, (1, 0, 0, 0)) := rfl
theorem r116_139 (d : Nat) (v : Int32) (ls : tm_Lo) (st : List Value) (G : tm_G) (I : Nat → Nat → Int32) (J : Nat → Nat → Int64) (R : Nat → Nat → Option Nat) (K : Option Value → tm_H → Prop) : tm_A d 116 139 ls (.int v :: st) (G, I, J, R) K ↔ (¬ v < 0 ∧ (tm_ix v) ≤ 100000) ∧ tm_A d 116 141 ls (.ref G.1 :: st) (tm_nw (1, (tm_ix v)) (tm_ix v) (G, I, J, R)) K := tm_newa o116_139
theorem o116_141 : tm_op 116 141 = some (.putfield 62, (2, 10, 27, 0)) := rfl
theorem r116_141 (d : Nat) (v : Nat) (a : Nat) (ls : tm_Lo) (st : List Value) (G : tm_G) (I : Nat → Nat → Int32) (J : Nat → Nat → Int64) (R : Nat → Nat → Option Nat) (K : Option Value → tm_H → Prop) : tm_A d 116 141 ls (.ref v :: .ref a :: st) (G, I, J, R) K ↔ G.2.2 a = (0, 10) ∧ tm_A d 116 144 ls st (G, I, J, up2 R a 27 (some v)) K := tm_putR o116_141
theorem o116_144 : tm_op 116 144 = some (.aload_n 0, (0, 0, 0, 0)) := rfl
theorem r116_144 (d : Nat) (v : Nat) (st : List Value) (h : tm_H) (K : Option Value → tm_H → Prop) : tm_A d 116 144 [some (.ref v)] st h K ↔ tm_A d 116 145 [some (.ref v)] (.ref v :: st) h K := tm_s o116_144 rfl rfl rfl
theorem o116_145 : tm_op 116 145 = some (.bipush 100, (0, 0, 0, 0)) := rfl
theorem r116_145 (d : Nat) (ls : tm_Lo) (st : List Value) (h : tm_H) (K : Option Value → tm_H → Prop) : tm_A d 116 145 ls st h K ↔ tm_A d 116 147 ls (.int (100 : Int32) :: st) h K := tm_bp o116_145 (by decide)
theorem o116_147 : tm_op 116 147 = some (.newarray .int, (1, 0, 0, 0)) := rfl
theorem r116_147 (d : Nat) (v : Int32) (ls : tm_Lo) (st : List Value) (G : tm_G) (I : Nat → Nat → Int32) (J : Nat → Nat → Int64) (R : Nat → Nat → Option Nat) (K : Option Value → tm_H → Prop) : tm_A d 116 147 ls (.int v :: st) (G, I, J, R) K ↔ (¬ v < 0 ∧ (tm_ix v) ≤ 100000) ∧ tm_A d 116 149 ls (.ref G.1 :: st) (tm_nw (1, (tm_ix v)) (tm_ix v) (G, I, J, R)) K := tm_newa o116_147
theorem o116_149 : tm_op 116 149 = some (.putfield 65, (2, 10, 28, 0)) := rfl
theorem r116_149 (d : Nat) (v : Nat) (a : Nat) (ls : tm_Lo) (st : List Value) (G : tm_G) (I : Nat → Nat → Int32) (J : Nat → Nat → Int64) (R : Nat → Nat → Option Nat) (K : Option Value → tm_H → Prop) : tm_A d 116 149 ls (.ref v :: .ref a :: st) (G, I, J, R) K ↔ G.2.2 a = (0, 10) ∧ tm_A d 116 152 ls st (G, I, J, up2 R a 28 (some v)) K := tm_putR o116_149
theorem o116_152 : tm_op 116 152 = some (.aload_n 0, (0, 0, 0, 0)) := rfl
theorem r116_152 (d : Nat) (v : Nat) (st : List Value) (h : tm_H) (K : Option Value → tm_H → Prop) : tm_A d 116 152 [some (.ref v)] st h K ↔ tm_A d 116 153 [some (.ref v)] (.ref v :: st) h K := tm_s o116_152 rfl rfl rfl
theorem o116_153 : tm_op 116 153 = some (.bipush 100, (0, 0, 0, 0)) := rfl
theorem r116_153 (d : Nat) (ls : tm_Lo) (st : List Value) (h : tm_H) (K : Option Value → tm_H → Prop) : tm_A d 116 153 ls st h K ↔ tm_A d 116 155 ls (.int (100 : Int32) :: st) h K := tm_bp o116_153 (by decide)
theorem o116_155 : tm_op 116 155 = some (.newarray .int, (1, 0, 0, 0)) := rfl
theorem r116_155 (d : Nat) (v : Int32) (ls : tm_Lo) (st : List Value) (G : tm_G) (I : Nat → Nat → Int32) (J : Nat → Nat → Int64) (R : Nat → Nat → Option Nat) (K : Option Value → tm_H → Prop) : tm_A d 116 155 ls (.int v :: st) (G, I, J, R) K ↔ (¬ v < 0 ∧ (tm_ix v) ≤ 100000) ∧ tm_A d 116 157 ls (.ref G.1 :: st) (tm_nw (1, (tm_ix v)) (tm_ix v) (G, I, J, R)) K := tm_newa o116_155
theorem o116_157 : tm_op 116 157 = some (.putfield 68, (2, 10, 29, 0)) := rfl
theorem r116_157 (d : Nat) (v : Nat) (a : Nat) (ls : tm_Lo) (st : List Value) (G : tm_G) (I : Nat → Nat → Int32) (J : Nat → Nat → Int64) (R : Nat → Nat → Option Nat) (K : Option Value → tm_H → Prop) : tm_A d 116 157 ls (.ref v :: .ref a :: st) (G, I, J, R) K ↔ G.2.2 a = (0, 10) ∧ tm_A d 116 160 ls st (G, I, J, up2 R a 29 (some v)) K := tm_putR o116_157
theorem o116_160 : tm_op 116 160 = some (.aload_n 0, (0, 0, 0, 0)) := rfl
theorem r116_160 (d : Nat) (v : Nat) (st : List Value) (h : tm_H) (K : Option Value → tm_H → Prop) : tm_A d 116 160 [some (.ref v)] st h K ↔ tm_A d 116 161 [some (.ref v)] (.ref v :: st) h K := tm_s o116_160 rfl rfl rfl
theorem o116_161 : tm_op 116 161 = some (.bipush 10, (0, 0, 0, 0)) := rfl
theorem r116_161 (d : Nat) (ls : tm_Lo) (st : List Value) (h : tm_H) (K : Option Value → tm_H → Prop) : tm_A d 116 161 ls st h K ↔ tm_A d 116 163 ls (.int (10 : Int32) :: st) h K := tm_bp o116_161 (by decide)
theorem o116_163 : tm_op 116 163 = some (.newarray .int, (1, 0, 0, 0)) := rfl
theorem r116_163 (d : Nat) (v : Int32) (ls : tm_Lo) (st : List Value) (G : tm_G) (I : Nat → Nat → Int32) (J : Nat → Nat → Int64) (R : Nat → Nat → Option Nat) (K : Option Value → tm_H → Prop) : tm_A d 116 163 ls (.int v :: st) (G, I, J, R) K ↔ (¬ v < 0 ∧ (tm_ix v) ≤ 100000) ∧ tm_A d 116 165 ls (.ref G.1 :: st) (tm_nw (1, (tm_ix v)) (tm_ix v) (G, I, J, R)) K := tm_newa o116_163
theorem o116_165 : tm_op 116 165 = some (.putfield 71, (2, 10, 30, 0)) := rfl
theorem r116_165 (d : Nat) (v : Nat) (a : Nat) (ls : tm_Lo) (st : List Value) (G : tm_G) (I : Nat → Nat → Int32) (J : Nat → Nat → Int64) (R : Nat → Nat → Option Nat) (K : Option Value → tm_H → Prop) : tm_A d 116 165 ls (.ref v :: .ref a :: st) (G, I, J, R) K ↔ G.2.2 a = (0, 10) ∧ tm_A d 116 168 ls st (G, I, J, up2 R a 30 (some v)) K := tm_putR o116_165
theorem o116_168 : tm_op 116 168 = some (.aload_n 0, (0, 0, 0, 0)) := rfl
theorem r116_168 (d : Nat) (v : Nat) (st : List Value) (h : tm_H) (K : Option Value → tm_H → Prop) : tm_A d 116 168 [some (.ref v)] st h K ↔ tm_A d 116 169 [some (.ref v)] (.ref v :: st) h K := tm_s o116_168 rfl rfl rfl
theorem o116_169 : tm_op 116 169 = some (.bipush 10, (0, 0, 0, 0)) := rfl
theorem r116_169 (d : Nat) (ls : tm_Lo) (st : List Value) (h : tm_H) (K : Option Value → tm_H → Prop) : tm_A d 116 169 ls st h K ↔ tm_A d 116 171 ls (.int (10 : Int32) :: st) h K := tm_bp o116_169 (by decide)
theorem o116_171 : tm_op 116 171 = some (.newarray .int, (1, 0, 0, 0)) := rfl
theorem r116_171 (d : Nat) (v : Int32) (ls : tm_Lo) (st : List Value) (G : tm_G) (I : Nat → Nat → Int32) (J : Nat → Nat → Int64) (R : Nat → Nat → Option Nat) (K : Option Value → tm_H → Prop) : tm_A d 116 171 ls (.int v :: st) (G, I, J, R) K ↔ (¬ v < 0 ∧ (tm_ix v) ≤ 100000) ∧ tm_A d 116 173 ls (.ref G.1 :: st) (tm_nw (1, (tm_ix v)) (tm_ix v) (G, I, J, R)) K := tm_newa o116_171
theorem o116_173 : tm_op 116 173 = some (.putfield 74, (2, 10, 31, 0)) := rfl
theorem r116_173 (d : Nat) (v : Nat) (a : Nat) (ls : tm_Lo) (st : List Value) (G : tm_G) (I : Nat → Nat → Int32) (J : Nat → Nat → Int64) (R : Nat → Nat → Option Nat) (K : Option Value → tm_H → Prop) : tm_A d 116 173 ls (.ref v :: .ref a :: st) (G, I, J, R) K ↔ G.2.2 a = (0, 10) ∧ tm_A d 116 176 ls st (G, I, J, up2 R a 31 (some v)) K := tm_putR o116_173
theorem o116_176 : tm_op 116 176 = some (.aload_n 0, (0, 0, 0, 0)) := rfl
theorem r116_176 (d : Nat) (v : Nat) (st : List Value) (h : tm_H) (K : Option Value → tm_H → Prop) : tm_A d 116 176 [some (.ref v)] st h K ↔ tm_A d 116 177 [some (.ref v)] (.ref v :: st) h K := tm_s o116_176 rfl rfl rfl
theorem o116_177 : tm_op 116 177 = some (.bipush 10, (0, 0, 0, 0)) := rfl
theorem r116_177 (d : Nat) (ls : tm_Lo) (st : List Value) (h : tm_H) (K : Option Value → tm_H → Prop) : tm_A d 116 177 ls st h K ↔ tm_A d 116 179 ls (.int (10 : Int32) :: st) h K := tm_bp o116_177 (by decide)
theorem o116_179 : tm_op 116 179 = some (.newarray .int, (1, 0, 0, 0)) := rfl
theorem r116_179 (d : Nat) (v : Int32) (ls : tm_Lo) (st : List Value) (G : tm_G) (I : Nat → Nat → Int32) (J : Nat → Nat → Int64) (R : Nat → Nat → Option Nat) (K : Option Value → tm_H → Prop) : tm_A d 116 179 ls (.int v :: st) (G, I, J, R) K ↔ (¬ v < 0 ∧ (tm_ix v) ≤ 100000) ∧ tm_A d 116 181 ls (.ref G.1 :: st) (tm_nw (1, (tm_ix v)) (tm_ix v) (G, I, J, R)) K := tm_newa o116_179
theorem o116_181 : tm_op 116 181 = some (.putfield 77, (2, 10, 35, 0)) := rfl
theorem r116_181 (d : Nat) (v : Nat) (a : Nat) (ls : tm_Lo) (st : List Value) (G : tm_G) (I : Nat → Nat → Int32) (J : Nat → Nat → Int64) (R : Nat → Nat → Option Nat) (K : Option Value → tm_H → Prop) : tm_A d 116 181 ls (.ref v :: .ref a :: st) (G, I, J, R) K ↔ G.2.2 a = (0, 10) ∧ tm_A d 116 184 ls st (G, I, J, up2 R a 35 (some v)) K := tm_putR o116_181
theorem o116_184 : tm_op 116 184 = some (.aload_n 0, (0, 0, 0, 0)) := rfl
theorem r116_184 (d : Nat) (v : Nat) (st : List Value) (h : tm_H) (K : Option Value → tm_H → Prop) : tm_A d 116 184 [some (.ref v)] st h K ↔ tm_A d 116 185 [some (.ref v)] (.ref v :: st) h K := tm_s o116_184 rfl rfl rfl
theorem o116_185 : tm_op 116 185 = some (.iconst 3, (0, 0, 0, 0)) := rfl
theorem r116_185 (d : Nat) (ls : tm_Lo) (st : List Value) (h : tm_H) (K : Option Value → tm_H → Prop) : tm_A d 116 185 ls st h K ↔ tm_A d 116 186 ls (.int (3 : Int32) :: st) h K := tm_ic o116_185 (by decide)
theorem o116_186 : tm_op 116 186 = some (.newarray .int, (1, 0, 0, 0)) := rfl
theorem r116_186 (d : Nat) (v : Int32) (ls : tm_Lo) (st : List Value) (G : tm_G) (I : Nat → Nat → Int32) (J : Nat → Nat → Int64) (R : Nat → Nat → Option Nat) (K : Option Value → tm_H → Prop) : tm_A d 116 186 ls (.int v :: st) (G, I, J, R) K ↔ (¬ v < 0 ∧ (tm_ix v) ≤ 100000) ∧ tm_A d 116 188 ls (.ref G.1 :: st) (tm_nw (1, (tm_ix v)) (tm_ix v) (G, I, J, R)) K := tm_newa o116_186
theorem o116_188 : tm_op 116 188 = some (.putfield 80, (2, 10, 36, 0)) := rfl
theorem r116_188 (d : Nat) (v : Nat) (a : Nat) (ls : tm_Lo) (st : List Value) (G : tm_G) (I : Nat → Nat → Int32) (J : Nat → Nat → Int64) (R : Nat → Nat → Option Nat) (K : Option Value → tm_H → Prop) : tm_A d 116 188 ls (.ref v :: .ref a :: st) (G, I, J, R) K ↔ G.2.2 a = (0, 10) ∧ tm_A d 116 191 ls st (G, I, J, up2 R a 36 (some v)) K := tm_putR o116_188
theorem o116_191 : tm_op 116 191 = some (.return_, (0, 0, 0, 0)) := rfl
theorem r116_191 (d : Nat) (ls : tm_Lo) (h : tm_H) (K : Option Value → tm_H → Prop) : tm_A d 116 191 ls [] h K ↔ K none h := tm_retv o116_191 rfl
theorem o117_0 : tm_op 117 0 = some (.iload_n 0, (0, 0, 0, 0)) := rfl
theorem r117_0 (d : Nat) (v : Int32) (l1 l2 : Option Value) (st : List Value) (h : tm_H) (K : Option Value → tm_H → Prop) : tm_A d 117 0 [some (.int v), l1, l2] st h K ↔ tm_A d 117 1 [some (.int v), l1, l2] (.int v :: st) h K := tm_s o117_0 rfl rfl rfl
theorem o117_1 : tm_op 117 1 = some (.iload_n 1, (0, 0, 0, 0)) := rfl
theorem r117_1 (d : Nat) (v : Int32) (l0 l2 : Option Value) (st : List Value) (h : tm_H) (K : Option Value → tm_H → Prop) : tm_A d 117 1 [l0, some (.int v), l2] st h K ↔ tm_A d 117 2 [l0, some (.int v), l2] (.int v :: st) h K := tm_s o117_1 rfl rfl rfl
theorem o117_2 : tm_op 117 2 = some (.if_icmp .lt 12, (0, 0, 0, 0)) := rfl
theorem r117_2 (d : Nat) (y x : Int32) (ls : tm_Lo) (st : List Value) (h : tm_H) (K : Option Value → tm_H → Prop) : tm_A d 117 2 ls (.int y :: .int x :: st) h K ↔ if x < y then tm_A d 117 14 ls st h K else tm_A d 117 5 ls st h K := tm_b o117_2 rfl rfl rfl rfl
theorem o117_5 : tm_op 117 5 = some (.iload_n 0, (0, 0, 0, 0)) := rfl
theorem r117_5 (d : Nat) (v : Int32) (l1 l2 : Option Value) (st : List Value) (h : tm_H) (K : Option Value → tm_H → Prop) : tm_A d 117 5 [some (.int v), l1, l2] st h K ↔ tm_A d 117 6 [some (.int v), l1, l2] (.int v :: st) h K := tm_s o117_5 rfl rfl rfl
theorem o117_6 : tm_op 117 6 = some (.iload_n 2, (0, 0, 0, 0)) := rfl
theorem r117_6 (d : Nat) (v : Int32) (l0 l1 : Option Value) (st : List Value) (h : tm_H) (K : Option Value → tm_H → Prop) : tm_A d 117 6 [l0, l1, some (.int v)] st h K ↔ tm_A d 117 7 [l0, l1, some (.int v)] (.int v :: st) h K := tm_s o117_6 rfl rfl rfl
theorem o117_7 : tm_op 117 7 = some (.if_icmp .gt 7, (0, 0, 0, 0)) := rfl
theorem r117_7 (d : Nat) (y x : Int32) (ls : tm_Lo) (st : List Value) (h : tm_H) (K : Option Value → tm_H → Prop) : tm_A d 117 7 ls (.int y :: .int x :: st) h K ↔ if y < x then tm_A d 117 14 ls st h K else tm_A d 117 10 ls st h K := tm_b o117_7 rfl rfl rfl rfl
theorem o117_10 : tm_op 117 10 = some (.iconst 1, (0, 0, 0, 0)) := rfl
theorem r117_10 (d : Nat) (ls : tm_Lo) (st : List Value) (h : tm_H) (K : Option Value → tm_H → Prop) : tm_A d 117 10 ls st h K ↔ tm_A d 117 11 ls (.int (1 : Int32) :: st) h K := tm_ic o117_10 (by decide)
theorem o117_11 : tm_op 117 11 = some (.goto 4, (0, 0, 0, 0)) := rfl
theorem r117_11 (d : Nat) (ls : tm_Lo) (st : List Value) (h : tm_H) (K : Option Value → tm_H → Prop) : tm_A d 117 11 ls st h K ↔ tm_A d 117 15 ls st h K := tm_s o117_11 rfl rfl rfl
theorem o117_14 : tm_op 117 14 = some (.iconst 0, (0, 0, 0, 0)) := rfl
theorem r117_14 (d : Nat) (ls : tm_Lo) (st : List Value) (h : tm_H) (K : Option Value → tm_H → Prop) : tm_A d 117 14 ls st h K ↔ tm_A d 117 15 ls (.int (0 : Int32) :: st) h K := tm_ic o117_14 (by decide)
theorem o117_15 : tm_op 117 15 = some (.ireturn, (0, 0, 0, 0)) := rfl
theorem r117_15 (d : Nat) (v : Int32) (ls : tm_Lo) (h : tm_H) (K : Option Value → tm_H → Prop) : tm_A d 117 15 ls [.int v] h K ↔ (v = 0 ∨ v = 1) ∧ K (some (.int v)) h := tm_retz o117_15 rfl
theorem o118_0 : tm_op 118 0 = some (.iload_n 1, (0, 0, 0, 0)) := rfl
theorem r118_0 (d : Nat) (v : Int32) (l0 : Option Value) (st : List Value) (h : tm_H) (K : Option Value → tm_H → Prop) : tm_A d 118 0 [l0, some (.int v)] st h K ↔ tm_A d 118 1 [l0, some (.int v)] (.int v :: st) h K := tm_s o118_0 rfl rfl rfl
theorem o118_1 : tm_op 118 1 = some (.iconst 0, (0, 0, 0, 0)) := rfl
theorem r118_1 (d : Nat) (ls : tm_Lo) (st : List Value) (h : tm_H) (K : Option Value → tm_H → Prop) : tm_A d 118 1 ls st h K ↔ tm_A d 118 2 ls (.int (0 : Int32) :: st) h K := tm_ic o118_1 (by decide)
theorem o118_2 : tm_op 118 2 = some (.sipush 1000, (0, 0, 0, 0)) := rfl
theorem r118_2 (d : Nat) (ls : tm_Lo) (st : List Value) (h : tm_H) (K : Option Value → tm_H → Prop) : tm_A d 118 2 ls st h K ↔ tm_A d 118 5 ls (.int (1000 : Int32) :: st) h K := tm_sp o118_2 (by decide)
theorem o118_5 : tm_op 118 5 = some (.invokestatic 83, (1, 117, 3, 0)) := rfl
theorem r118_5 (d : Nat) (v0 : Int32) (v1 : Int32) (v2 : Int32) (ls : tm_Lo) (st : List Value) (h : tm_H) (K : Option Value → tm_H → Prop) : tm_A (d + 1) 118 5 ls (.int v2 :: .int v1 :: .int v0 :: st) h K ↔ tm_cs st ∧ tm_R d 117 [.int v0, .int v1, .int v2] h (fun r h' => tm_A (d + 1) 118 8 ls (r.toList ++ st) h' K) := tm_callS (as := [.int v0, .int v1, .int v2]) o118_5 rfl rfl rfl rfl
theorem o118_8 : tm_op 118 8 = some (.ifCond .eq 15, (0, 0, 0, 0)) := rfl
theorem r118_8 (d : Nat) (x : Int32) (ls : tm_Lo) (st : List Value) (h : tm_H) (K : Option Value → tm_H → Prop) : tm_A d 118 8 ls (.int x :: st) h K ↔ if x = 0 then tm_A d 118 23 ls st h K else tm_A d 118 11 ls st h K := tm_b o118_8 rfl rfl rfl rfl
theorem o118_11 : tm_op 118 11 = some (.aload_n 0, (0, 0, 0, 0)) := rfl
theorem r118_11 (d : Nat) (v : Nat) (l1 : Option Value) (st : List Value) (h : tm_H) (K : Option Value → tm_H → Prop) : tm_A d 118 11 [some (.ref v), l1] st h K ↔ tm_A d 118 12 [some (.ref v), l1] (.ref v :: st) h K := tm_s o118_11 rfl rfl rfl
theorem o118_12 : tm_op 118 12 = some (.getfield 87, (0, 10, 0, 0)) := rfl
theorem r118_12 (d : Nat) (a : Nat) (ls : tm_Lo) (st : List Value) (G : tm_G) (I : Nat → Nat → Int32) (J : Nat → Nat → Int64) (R : Nat → Nat → Option Nat) (K : Option Value → tm_H → Prop) : tm_A d 118 12 ls (.ref a :: st) (G, I, J, R) K ↔ G.2.2 a = (0, 10) ∧ tm_A d 118 15 ls (.int (I a 0) :: st) (G, I, J, R) K := tm_getI o118_12
theorem o118_15 : tm_op 118 15 = some (.iload_n 1, (0, 0, 0, 0)) := rfl
theorem r118_15 (d : Nat) (v : Int32) (l0 : Option Value) (st : List Value) (h : tm_H) (K : Option Value → tm_H → Prop) : tm_A d 118 15 [l0, some (.int v)] st h K ↔ tm_A d 118 16 [l0, some (.int v)] (.int v :: st) h K := tm_s o118_15 rfl rfl rfl
theorem o118_16 : tm_op 118 16 = some (.iadd, (0, 0, 0, 0)) := rfl
theorem r118_16 (d : Nat) (u v : Int32) (ls : tm_Lo) (st : List Value) (h : tm_H) (K : Option Value → tm_H → Prop) : tm_A d 118 16 ls (.int u :: .int v :: st) h K ↔ tm_A d 118 17 ls (.int (v + u) :: st) h K := tm_s o118_16 rfl rfl rfl
theorem o118_17 : tm_op 118 17 = some (.sipush 1000, (0, 0, 0, 0)) := rfl
theorem r118_17 (d : Nat) (ls : tm_Lo) (st : List Value) (h : tm_H) (K : Option Value → tm_H → Prop) : tm_A d 118 17 ls st h K ↔ tm_A d 118 20 ls (.int (1000 : Int32) :: st) h K := tm_sp o118_17 (by decide)
theorem o118_20 : tm_op 118 20 = some (.if_icmp .le 5, (0, 0, 0, 0)) := rfl
theorem r118_20 (d : Nat) (y x : Int32) (ls : tm_Lo) (st : List Value) (h : tm_H) (K : Option Value → tm_H → Prop) : tm_A d 118 20 ls (.int y :: .int x :: st) h K ↔ if x ≤ y then tm_A d 118 25 ls st h K else tm_A d 118 23 ls st h K := tm_b o118_20 rfl rfl rfl rfl
theorem o118_23 : tm_op 118 23 = some (.iconst (-1), (0, 0, 0, 0)) := rfl
theorem r118_23 (d : Nat) (ls : tm_Lo) (st : List Value) (h : tm_H) (K : Option Value → tm_H → Prop) : tm_A d 118 23 ls st h K ↔ tm_A d 118 24 ls (.int (-1 : Int32) :: st) h K := tm_ic o118_23 (by decide)
theorem o118_24 : tm_op 118 24 = some (.ireturn, (0, 0, 0, 0)) := rfl
theorem r118_24 (d : Nat) (v : Int32) (ls : tm_Lo) (h : tm_H) (K : Option Value → tm_H → Prop) : tm_A d 118 24 ls [.int v] h K ↔ K (some (.int v)) h := tm_reti o118_24 rfl
theorem o118_25 : tm_op 118 25 = some (.aload_n 0, (0, 0, 0, 0)) := rfl
theorem r118_25 (d : Nat) (v : Nat) (l1 : Option Value) (st : List Value) (h : tm_H) (K : Option Value → tm_H → Prop) : tm_A d 118 25 [some (.ref v), l1] st h K ↔ tm_A d 118 26 [some (.ref v), l1] (.ref v :: st) h K := tm_s o118_25 rfl rfl rfl
theorem o118_26 : tm_op 118 26 = some (.dup, (0, 0, 0, 0)) := rfl
theorem r118_26 (d : Nat) (v : Nat) (ls : tm_Lo) (st : List Value) (h : tm_H) (K : Option Value → tm_H → Prop) : tm_A d 118 26 ls (.ref v :: st) h K ↔ tm_A d 118 27 ls (.ref v :: .ref v :: st) h K := tm_s o118_26 rfl rfl rfl
theorem r118_26i (d : Nat) (v : Int32) (ls : tm_Lo) (st : List Value) (h : tm_H) (K : Option Value → tm_H → Prop) : tm_A d 118 26 ls (.int v :: st) h K ↔ tm_A d 118 27 ls (.int v :: .int v :: st) h K := tm_s o118_26 rfl rfl rfl
theorem o118_27 : tm_op 118 27 = some (.getfield 87, (0, 10, 0, 0)) := rfl
theorem r118_27 (d : Nat) (a : Nat) (ls : tm_Lo) (st : List Value) (G : tm_G) (I : Nat → Nat → Int32) (J : Nat → Nat → Int64) (R : Nat → Nat → Option Nat) (K : Option Value → tm_H → Prop) : tm_A d 118 27 ls (.ref a :: st) (G, I, J, R) K ↔ G.2.2 a = (0, 10) ∧ tm_A d 118 30 ls (.int (I a 0) :: st) (G, I, J, R) K := tm_getI o118_27
theorem o118_30 : tm_op 118 30 = some (.iload_n 1, (0, 0, 0, 0)) := rfl
theorem r118_30 (d : Nat) (v : Int32) (l0 : Option Value) (st : List Value) (h : tm_H) (K : Option Value → tm_H → Prop) : tm_A d 118 30 [l0, some (.int v)] st h K ↔ tm_A d 118 31 [l0, some (.int v)] (.int v :: st) h K := tm_s o118_30 rfl rfl rfl
theorem o118_31 : tm_op 118 31 = some (.iadd, (0, 0, 0, 0)) := rfl
theorem r118_31 (d : Nat) (u v : Int32) (ls : tm_Lo) (st : List Value) (h : tm_H) (K : Option Value → tm_H → Prop) : tm_A d 118 31 ls (.int u :: .int v :: st) h K ↔ tm_A d 118 32 ls (.int (v + u) :: st) h K := tm_s o118_31 rfl rfl rfl
theorem o118_32 : tm_op 118 32 = some (.putfield 87, (0, 10, 0, 0)) := rfl
theorem r118_32 (d : Nat) (v : Int32) (a : Nat) (ls : tm_Lo) (st : List Value) (G : tm_G) (I : Nat → Nat → Int32) (J : Nat → Nat → Int64) (R : Nat → Nat → Option Nat) (K : Option Value → tm_H → Prop) : tm_A d 118 32 ls (.int v :: .ref a :: st) (G, I, J, R) K ↔ G.2.2 a = (0, 10) ∧ tm_A d 118 35 ls st (G, up2 I a 0 v, J, R) K := tm_putI o118_32
theorem o118_35 : tm_op 118 35 = some (.aload_n 0, (0, 0, 0, 0)) := rfl
theorem r118_35 (d : Nat) (v : Nat) (l1 : Option Value) (st : List Value) (h : tm_H) (K : Option Value → tm_H → Prop) : tm_A d 118 35 [some (.ref v), l1] st h K ↔ tm_A d 118 36 [some (.ref v), l1] (.ref v :: st) h K := tm_s o118_35 rfl rfl rfl
theorem o118_36 : tm_op 118 36 = some (.getfield 87, (0, 10, 0, 0)) := rfl
theorem r118_36 (d : Nat) (a : Nat) (ls : tm_Lo) (st : List Value) (G : tm_G) (I : Nat → Nat → Int32) (J : Nat → Nat → Int64) (R : Nat → Nat → Option Nat) (K : Option Value → tm_H → Prop) : tm_A d 118 36 ls (.ref a :: st) (G, I, J, R) K ↔ G.2.2 a = (0, 10) ∧ tm_A d 118 39 ls (.int (I a 0) :: st) (G, I, J, R) K := tm_getI o118_36
theorem o118_39 : tm_op 118 39 = some (.ireturn, (0, 0, 0, 0)) := rfl
theorem r118_39 (d : Nat) (v : Int32) (ls : tm_Lo) (h : tm_H) (K : Option Value → tm_H → Prop) : tm_A d 118 39 ls [.int v] h K ↔ K (some (.int v)) h := tm_reti o118_39 rfl
theorem o119_0 : tm_op 119 0 = some (.iload 5, (0, 0, 0, 0)) := rfl
theorem r119_0 (d : Nat) (v : Int32) (l0 l1 l2 l3 l4 l6 : Option Value) (st : List Value) (h : tm_H) (K : Option Value → tm_H → Prop) : tm_A d 119 0 [l0, l1, l2, l3, l4, some (.int v), l6] st h K ↔ tm_A d 119 2 [l0, l1, l2, l3, l4, some (.int v), l6] (.int v :: st) h K := tm_s o119_0 rfl rfl rfl
theorem o119_2 : tm_op 119 2 = some (.iconst 4, (0, 0, 0, 0)) := rfl
theorem r119_2 (d : Nat) (ls : tm_Lo) (st : List Value) (h : tm_H) (K : Option Value → tm_H → Prop) : tm_A d 119 2 ls st h K ↔ tm_A d 119 3 ls (.int (4 : Int32) :: st) h K := tm_ic o119_2 (by decide)
theorem o119_3 : tm_op 119 3 = some (.if_icmp .ge 7, (0, 0, 0, 0)) := rfl
theorem r119_3 (d : Nat) (y x : Int32) (ls : tm_Lo) (st : List Value) (h : tm_H) (K : Option Value → tm_H → Prop) : tm_A d 119 3 ls (.int y :: .int x :: st) h K ↔ if y ≤ x then tm_A d 119 10 ls st h K else tm_A d 119 6 ls st h K := tm_b o119_3 rfl rfl rfl rfl
theorem o119_6 : tm_op 119 6 = some (.iload_n 0, (0, 0, 0, 0)) := rfl
theorem r119_6 (d : Nat) (v : Int32) (l1 l2 l3 l4 l5 l6 : Option Value) (st : List Value) (h : tm_H) (K : Option Value → tm_H → Prop) : tm_A d 119 6 [some (.int v), l1, l2, l3, l4, l5, l6] st h K ↔ tm_A d 119 7 [some (.int v), l1, l2, l3, l4, l5, l6] (.int v :: st) h K := tm_s o119_6 rfl rfl rfl
theorem o119_7 : tm_op 119 7 = some (.goto 38, (0, 0, 0, 0)) := rfl
theorem r119_7 (d : Nat) (ls : tm_Lo) (st : List Value) (h : tm_H) (K : Option Value → tm_H → Prop) : tm_A d 119 7 ls st h K ↔ tm_A d 119 45 ls st h K := tm_s o119_7 rfl rfl rfl
theorem o119_10 : tm_op 119 10 = some (.iload 5, (0, 0, 0, 0)) := rfl
theorem r119_10 (d : Nat) (v : Int32) (l0 l1 l2 l3 l4 l6 : Option Value) (st : List Value) (h : tm_H) (K : Option Value → tm_H → Prop) : tm_A d 119 10 [l0, l1, l2, l3, l4, some (.int v), l6] st h K ↔ tm_A d 119 12 [l0, l1, l2, l3, l4, some (.int v), l6] (.int v :: st) h K := tm_s o119_10 rfl rfl rfl
theorem o119_12 : tm_op 119 12 = some (.bipush 8, (0, 0, 0, 0)) := rfl
theorem r119_12 (d : Nat) (ls : tm_Lo) (st : List Value) (h : tm_H) (K : Option Value → tm_H → Prop) : tm_A d 119 12 ls st h K ↔ tm_A d 119 14 ls (.int (8 : Int32) :: st) h K := tm_bp o119_12 (by decide)
theorem o119_14 : tm_op 119 14 = some (.if_icmp .ge 7, (0, 0, 0, 0)) := rfl
theorem r119_14 (d : Nat) (y x : Int32) (ls : tm_Lo) (st : List Value) (h : tm_H) (K : Option Value → tm_H → Prop) : tm_A d 119 14 ls (.int y :: .int x :: st) h K ↔ if y ≤ x then tm_A d 119 21 ls st h K else tm_A d 119 17 ls st h K := tm_b o119_14 rfl rfl rfl rfl
theorem o119_17 : tm_op 119 17 = some (.iload_n 1, (0, 0, 0, 0)) := rfl
theorem r119_17 (d : Nat) (v : Int32) (l0 l2 l3 l4 l5 l6 : Option Value) (st : List Value) (h : tm_H) (K : Option Value → tm_H → Prop) : tm_A d 119 17 [l0, some (.int v), l2, l3, l4, l5, l6] st h K ↔ tm_A d 119 18 [l0, some (.int v), l2, l3, l4, l5, l6] (.int v :: st) h K := tm_s o119_17 rfl rfl rfl
theorem o119_18 : tm_op 119 18 = some (.goto 27, (0, 0, 0, 0)) := rfl
theorem r119_18 (d : Nat) (ls : tm_Lo) (st : List Value) (h : tm_H) (K : Option Value → tm_H → Prop) : tm_A d 119 18 ls st h K ↔ tm_A d 119 45 ls st h K := tm_s o119_18 rfl rfl rfl
theorem o119_21 : tm_op 119 21 = some (.iload 5, (0, 0, 0, 0)) := rfl
theorem r119_21 (d : Nat) (v : Int32) (l0 l1 l2 l3 l4 l6 : Option Value) (st : List Value) (h : tm_H) (K : Option Value → tm_H → Prop) : tm_A d 119 21 [l0, l1, l2, l3, l4, some (.int v), l6] st h K ↔ tm_A d 119 23 [l0, l1, l2, l3, l4, some (.int v), l6] (.int v :: st) h K := tm_s o119_21 rfl rfl rfl
theorem o119_23 : tm_op 119 23 = some (.bipush 12, (0, 0, 0, 0)) := rfl
theorem r119_23 (d : Nat) (ls : tm_Lo) (st : List Value) (h : tm_H) (K : Option Value → tm_H → Prop) : tm_A d 119 23 ls st h K ↔ tm_A d 119 25 ls (.int (12 : Int32) :: st) h K := tm_bp o119_23 (by decide)
theorem o119_25 : tm_op 119 25 = some (.if_icmp .ge 7, (0, 0, 0, 0)) := rfl
theorem r119_25 (d : Nat) (y x : Int32) (ls : tm_Lo) (st : List Value) (h : tm_H) (K : Option Value → tm_H → Prop) : tm_A d 119 25 ls (.int y :: .int x :: st) h K ↔ if y ≤ x then tm_A d 119 32 ls st h K else tm_A d 119 28 ls st h K := tm_b o119_25 rfl rfl rfl rfl
theorem o119_28 : tm_op 119 28 = some (.iload_n 2, (0, 0, 0, 0)) := rfl
theorem r119_28 (d : Nat) (v : Int32) (l0 l1 l3 l4 l5 l6 : Option Value) (st : List Value) (h : tm_H) (K : Option Value → tm_H → Prop) : tm_A d 119 28 [l0, l1, some (.int v), l3, l4, l5, l6] st h K ↔ tm_A d 119 29 [l0, l1, some (.int v), l3, l4, l5, l6] (.int v :: st) h K := tm_s o119_28 rfl rfl rfl
theorem o119_29 : tm_op 119 29 = some (.goto 16, (0, 0, 0, 0)) := rfl
theorem r119_29 (d : Nat) (ls : tm_Lo) (st : List Value) (h : tm_H) (K : Option Value → tm_H → Prop) : tm_A d 119 29 ls st h K ↔ tm_A d 119 45 ls st h K := tm_s o119_29 rfl rfl rfl
theorem o119_32 : tm_op 119 32 = some (.iload 5, (0, 0, 0, 0)) := rfl
theorem r119_32 (d : Nat) (v : Int32) (l0 l1 l2 l3 l4 l6 : Option Value) (st : List Value) (h : tm_H) (K : Option Value → tm_H → Prop) : tm_A d 119 32 [l0, l1, l2, l3, l4, some (.int v), l6] st h K ↔ tm_A d 119 34 [l0, l1, l2, l3, l4, some (.int v), l6] (.int v :: st) h K := tm_s o119_32 rfl rfl rfl
theorem o119_34 : tm_op 119 34 = some (.bipush 16, (0, 0, 0, 0)) := rfl
theorem r119_34 (d : Nat) (ls : tm_Lo) (st : List Value) (h : tm_H) (K : Option Value → tm_H → Prop) : tm_A d 119 34 ls st h K ↔ tm_A d 119 36 ls (.int (16 : Int32) :: st) h K := tm_bp o119_34 (by decide)
theorem o119_36 : tm_op 119 36 = some (.if_icmp .ge 7, (0, 0, 0, 0)) := rfl
theorem r119_36 (d : Nat) (y x : Int32) (ls : tm_Lo) (st : List Value) (h : tm_H) (K : Option Value → tm_H → Prop) : tm_A d 119 36 ls (.int y :: .int x :: st) h K ↔ if y ≤ x then tm_A d 119 43 ls st h K else tm_A d 119 39 ls st h K := tm_b o119_36 rfl rfl rfl rfl
theorem o119_39 : tm_op 119 39 = some (.iload_n 3, (0, 0, 0, 0)) := rfl
theorem r119_39 (d : Nat) (v : Int32) (l0 l1 l2 l4 l5 l6 : Option Value) (st : List Value) (h : tm_H) (K : Option Value → tm_H → Prop) : tm_A d 119 39 [l0, l1, l2, some (.int v), l4, l5, l6] st h K ↔ tm_A d 119 40 [l0, l1, l2, some (.int v), l4, l5, l6] (.int v :: st) h K := tm_s o119_39 rfl rfl rfl
theorem o119_40 : tm_op 119 40 = some (.goto 5, (0, 0, 0, 0)) := rfl
theorem r119_40 (d : Nat) (ls : tm_Lo) (st : List Value) (h : tm_H) (K : Option Value → tm_H → Prop) : tm_A d 119 40 ls st h K ↔ tm_A d 119 45 ls st h K := tm_s o119_40 rfl rfl rfl
theorem o119_43 : tm_op 119 43 = some (.iload 4, (0, 0, 0, 0)) := rfl
theorem r119_43 (d : Nat) (v : Int32) (l0 l1 l2 l3 l5 l6 : Option Value) (st : List Value) (h : tm_H) (K : Option Value → tm_H → Prop) : tm_A d 119 43 [l0, l1, l2, l3, some (.int v), l5, l6] st h K ↔ tm_A d 119 45 [l0, l1, l2, l3, some (.int v), l5, l6] (.int v :: st) h K := tm_s o119_43 rfl rfl rfl
theorem o119_45 : tm_op 119 45 = some (.istore 6, (0, 0, 0, 0)) := rfl
theorem r119_45 (d : Nat) (v : Int32) (l0 l1 l2 l3 l4 l5 l6 : Option Value) (st : List Value) (h : tm_H) (K : Option Value → tm_H → Prop) : tm_A d 119 45 [l0, l1, l2, l3, l4, l5, l6] (.int v :: st) h K ↔ tm_A d 119 47 [l0, l1, l2, l3, l4, l5, some (.int v)] st h K := tm_s o119_45 rfl rfl rfl
theorem o119_47 : tm_op 119 47 = some (.iload 6, (0, 0, 0, 0)) := rfl
theorem r119_47 (d : Nat) (v : Int32) (l0 l1 l2 l3 l4 l5 : Option Value) (st : List Value) (h : tm_H) (K : Option Value → tm_H → Prop) : tm_A d 119 47 [l0, l1, l2, l3, l4, l5, some (.int v)] st h K ↔ tm_A d 119 49 [l0, l1, l2, l3, l4, l5, some (.int v)] (.int v :: st) h K := tm_s o119_47 rfl rfl rfl
theorem o119_49 : tm_op 119 49 = some (.bipush 24, (0, 0, 0, 0)) := rfl
theorem r119_49 (d : Nat) (ls : tm_Lo) (st : List Value) (h : tm_H) (K : Option Value → tm_H → Prop) : tm_A d 119 49 ls st h K ↔ tm_A d 119 51 ls (.int (24 : Int32) :: st) h K := tm_bp o119_49 (by decide)
theorem o119_51 : tm_op 119 51 = some (.bipush 8, (0, 0, 0, 0)) := rfl
theorem r119_51 (d : Nat) (ls : tm_Lo) (st : List Value) (h : tm_H) (K : Option Value → tm_H → Prop) : tm_A d 119 51 ls st h K ↔ tm_A d 119 53 ls (.int (8 : Int32) :: st) h K := tm_bp o119_51 (by decide)
theorem o119_53 : tm_op 119 53 = some (.iload 5, (0, 0, 0, 0)) := rfl
theorem r119_53 (d : Nat) (v : Int32) (l0 l1 l2 l3 l4 l6 : Option Value) (st : List Value) (h : tm_H) (K : Option Value → tm_H → Prop) : tm_A d 119 53 [l0, l1, l2, l3, l4, some (.int v), l6] st h K ↔ tm_A d 119 55 [l0, l1, l2, l3, l4, some (.int v), l6] (.int v :: st) h K := tm_s o119_53 rfl rfl rfl
theorem o119_55 : tm_op 119 55 = some (.iconst 4, (0, 0, 0, 0)) := rfl
theorem r119_55 (d : Nat) (ls : tm_Lo) (st : List Value) (h : tm_H) (K : Option Value → tm_H → Prop) : tm_A d 119 55 ls st h K ↔ tm_A d 119 56 ls (.int (4 : Int32) :: st) h K := tm_ic o119_55 (by decide)
theorem o119_56 : tm_op 119 56 = some (.irem, (0, 0, 0, 0)) := rfl
theorem r119_56 (d : Nat) (u v : Int32) (ls : tm_Lo) (st : List Value) (h : tm_H) (K : Option Value → tm_H → Prop) : tm_A d 119 56 ls (.int u :: .int v :: st) h K ↔ ¬ u = 0 ∧ tm_A d 119 57 ls (.int (v - v / u * u) :: st) h K := tm_irm o119_56
theorem o119_57 : tm_op 119 57 = some (.imul, (0, 0, 0, 0)) := rfl
theorem r119_57 (d : Nat) (u v : Int32) (ls : tm_Lo) (st : List Value) (h : tm_H) (K : Option Value → tm_H → Prop) : tm_A d 119 57 ls (.int u :: .int v :: st) h K ↔ tm_A d 119 58 ls (.int (v * u) :: st) h K := tm_s o119_57 rfl rfl rfl
theorem o119_58 : tm_op 119 58 = some (.isub, (0, 0, 0, 0)) := rfl
theorem r119_58 (d : Nat) (u v : Int32) (ls : tm_Lo) (st : List Value) (h : tm_H) (K : Option Value → tm_H → Prop) : tm_A d 119 58 ls (.int u :: .int v :: st) h K ↔ tm_A d 119 59 ls (.int (v - u) :: st) h K := tm_s o119_58 rfl rfl rfl
theorem o119_59 : tm_op 119 59 = some (.ishr, (0, 0, 0, 0)) := rfl
theorem r119_59 (d : Nat) (u v : Int32) (ls : tm_Lo) (st : List Value) (h : tm_H) (K : Option Value → tm_H → Prop) : tm_A d 119 59 ls (.int u :: .int v :: st) h K ↔ tm_A d 119 60 ls (.int (v >>> (u &&& 31)) :: st) h K := tm_s o119_59 rfl rfl rfl
theorem o119_60 : tm_op 119 60 = some (.sipush 255, (0, 0, 0, 0)) := rfl
theorem r119_60 (d : Nat) (ls : tm_Lo) (st : List Value) (h : tm_H) (K : Option Value → tm_H → Prop) : tm_A d 119 60 ls st h K ↔ tm_A d 119 63 ls (.int (255 : Int32) :: st) h K := tm_sp o119_60 (by decide)
theorem o119_63 : tm_op 119 63 = some (.iand, (0, 0, 0, 0)) := rfl
theorem r119_63 (d : Nat) (u v : Int32) (ls : tm_Lo) (st : List Value) (h : tm_H) (K : Option Value → tm_H → Prop) : tm_A d 119 63 ls (.int u :: .int v :: st) h K ↔ tm_A d 119 64 ls (.int (v &&& u) :: st) h K := tm_s o119_63 rfl rfl rfl
theorem o119_64 : tm_op 119 64 = some (.ireturn, (0, 0, 0, 0)) := rfl
theorem r119_64 (d : Nat) (v : Int32) (ls : tm_Lo) (h : tm_H) (K : Option Value → tm_H → Prop) : tm_A d 119 64 ls [.int v] h K ↔ K (some (.int v)) h := tm_reti o119_64 rfl
theorem o120_0 : tm_op 120 0 = some (.iconst 0, (0, 0, 0, 0)) := rfl
theorem r120_0 (d : Nat) (ls : tm_Lo) (st : List Value) (h : tm_H) (K : Option Value → tm_H → Prop) : tm_A d 120 0 ls st h K ↔ tm_A d 120 1 ls (.int (0 : Int32) :: st) h K := tm_ic o120_0 (by decide)
theorem o120_1 : tm_op 120 1 = some (.istore 6, (0, 0, 0, 0)) := rfl
theorem r120_1 (d : Nat) (v : Int32) (l0 l1 l2 l3 l4 l5 l6 l7 l8 : Option Value) (st : List Value) (h : tm_H) (K : Option Value → tm_H → Prop) : tm_A d 120 1 [l0, l1, l2, l3, l4, l5, l6, l7, l8] (.int v :: st) h K ↔ tm_A d 120 3 [l0, l1, l2, l3, l4, l5, some (.int v), l7, l8] st h K := tm_s o120_1 rfl rfl rfl
theorem o120_3 : tm_op 120 3 = some (.iconst 0, (0, 0, 0, 0)) := rfl
theorem r120_3 (d : Nat) (ls : tm_Lo) (st : List Value) (h : tm_H) (K : Option Value → tm_H → Prop) : tm_A d 120 3 ls st h K ↔ tm_A d 120 4 ls (.int (0 : Int32) :: st) h K := tm_ic o120_3 (by decide)
theorem o120_4 : tm_op 120 4 = some (.istore 7, (0, 0, 0, 0)) := rfl
theorem r120_4 (d : Nat) (v : Int32) (l0 l1 l2 l3 l4 l5 l6 l7 l8 : Option Value) (st : List Value) (h : tm_H) (K : Option Value → tm_H → Prop) : tm_A d 120 4 [l0, l1, l2, l3, l4, l5, l6, l7, l8] (.int v :: st) h K ↔ tm_A d 120 6 [l0, l1, l2, l3, l4, l5, l6, some (.int v), l8] st h K := tm_s o120_4 rfl rfl rfl
theorem o120_6 : tm_op 120 6 = some (.iload 7, (0, 0, 0, 0)) := rfl
theorem r120_6 (d : Nat) (v : Int32) (l0 l1 l2 l3 l4 l5 l6 l8 : Option Value) (st : List Value) (h : tm_H) (K : Option Value → tm_H → Prop) : tm_A d 120 6 [l0, l1, l2, l3, l4, l5, l6, some (.int v), l8] st h K ↔ tm_A d 120 8 [l0, l1, l2, l3, l4, l5, l6, some (.int v), l8] (.int v :: st) h K := tm_s o120_6 rfl rfl rfl
theorem o120_8 : tm_op 120 8 = some (.bipush 20, (0, 0, 0, 0)) := rfl
theorem r120_8 (d : Nat) (ls : tm_Lo) (st : List Value) (h : tm_H) (K : Option Value → tm_H → Prop) : tm_A d 120 8 ls st h K ↔ tm_A d 120 10 ls (.int (20 : Int32) :: st) h K := tm_bp o120_8 (by decide)
theorem o120_10 : tm_op 120 10 = some (.if_icmp .ge 34, (0, 0, 0, 0)) := rfl
theorem r120_10 (d : Nat) (y x : Int32) (ls : tm_Lo) (st : List Value) (h : tm_H) (K : Option Value → tm_H → Prop) : tm_A d 120 10 ls (.int y :: .int x :: st) h K ↔ if y ≤ x then tm_A d 120 44 ls st h K else tm_A d 120 13 ls st h K := tm_b o120_10 rfl rfl rfl rfl
theorem o120_13 : tm_op 120 13 = some (.iload 6, (0, 0, 0, 0)) := rfl
theorem r120_13 (d : Nat) (v : Int32) (l0 l1 l2 l3 l4 l5 l7 l8 : Option Value) (st : List Value) (h : tm_H) (K : Option Value → tm_H → Prop) : tm_A d 120 13 [l0, l1, l2, l3, l4, l5, some (.int v), l7, l8] st h K ↔ tm_A d 120 15 [l0, l1, l2, l3, l4, l5, some (.int v), l7, l8] (.int v :: st) h K := tm_s o120_13 rfl rfl rfl
theorem o120_15 : tm_op 120 15 = some (.iload_n 1, (0, 0, 0, 0)) := rfl
theorem r120_15 (d : Nat) (v : Int32) (l0 l2 l3 l4 l5 l6 l7 l8 : Option Value) (st : List Value) (h : tm_H) (K : Option Value → tm_H → Prop) : tm_A d 120 15 [l0, some (.int v), l2, l3, l4, l5, l6, l7, l8] st h K ↔ tm_A d 120 16 [l0, some (.int v), l2, l3, l4, l5, l6, l7, l8] (.int v :: st) h K := tm_s o120_15 rfl rfl rfl
theorem o120_16 : tm_op 120 16 = some (.iload_n 2, (0, 0, 0, 0)) := rfl
theorem r120_16 (d : Nat) (v : Int32) (l0 l1 l3 l4 l5 l6 l7 l8 : Option Value) (st : List Value) (h : tm_H) (K : Option Value → tm_H → Prop) : tm_A d 120 16 [l0, l1, some (.int v), l3, l4, l5, l6, l7, l8] st h K ↔ tm_A d 120 17 [l0, l1, some (.int v), l3, l4, l5, l6, l7, l8] (.int v :: st) h K := tm_s o120_16 rfl rfl rfl
theorem o120_17 : tm_op 120 17 = some (.iload_n 3, (0, 0, 0, 0)) := rfl
theorem r120_17 (d : Nat) (v : Int32) (l0 l1 l2 l4 l5 l6 l7 l8 : Option Value) (st : List Value) (h : tm_H) (K : Option Value → tm_H → Prop) : tm_A d 120 17 [l0, l1, l2, some (.int v), l4, l5, l6, l7, l8] st h K ↔ tm_A d 120 18 [l0, l1, l2, some (.int v), l4, l5, l6, l7, l8] (.int v :: st) h K := tm_s o120_17 rfl rfl rfl
theorem o120_18 : tm_op 120 18 = some (.iload 4, (0, 0, 0, 0)) := rfl
theorem r120_18 (d : Nat) (v : Int32) (l0 l1 l2 l3 l5 l6 l7 l8 : Option Value) (st : List Value) (h : tm_H) (K : Option Value → tm_H → Prop) : tm_A d 120 18 [l0, l1, l2, l3, some (.int v), l5, l6, l7, l8] st h K ↔ tm_A d 120 20 [l0, l1, l2, l3, some (.int v), l5, l6, l7, l8] (.int v :: st) h K := tm_s o120_18 rfl rfl rfl
theorem o120_20 : tm_op 120 20 = some (.iload 5, (0, 0, 0, 0)) := rfl
theorem r120_20 (d : Nat) (v : Int32) (l0 l1 l2 l3 l4 l6 l7 l8 : Option Value) (st : List Value) (h : tm_H) (K : Option Value → tm_H → Prop) : tm_A d 120 20 [l0, l1, l2, l3, l4, some (.int v), l6, l7, l8] st h K ↔ tm_A d 120 22 [l0, l1, l2, l3, l4, some (.int v), l6, l7, l8] (.int v :: st) h K := tm_s o120_20 rfl rfl rfl
theorem o120_22 : tm_op 120 22 = some (.iload 7, (0, 0, 0, 0)) := rfl
theorem r120_22 (d : Nat) (v : Int32) (l0 l1 l2 l3 l4 l5 l6 l8 : Option Value) (st : List Value) (h : tm_H) (K : Option Value → tm_H → Prop) : tm_A d 120 22 [l0, l1, l2, l3, l4, l5, l6, some (.int v), l8] st h K ↔ tm_A d 120 24 [l0, l1, l2, l3, l4, l5, l6, some (.int v), l8] (.int v :: st) h K := tm_s o120_22 rfl rfl rfl
theorem o120_24 : tm_op 120 24 = some (.invokestatic 90, (1, 119, 6, 0)) := rfl
theorem r120_24 (d : Nat) (v0 : Int32) (v1 : Int32) (v2 : Int32) (v3 : Int32) (v4 : Int32) (v5 : Int32) (ls : tm_Lo) (st : List Value) (h : tm_H) (K : Option Value → tm_H → Prop) : tm_A (d + 1) 120 24 ls (.int v5 :: .int v4 :: .int v3 :: .int v2 :: .int v1 :: .int v0 :: st) h K ↔ tm_cs st ∧ tm_R d 119 [.int v0, .int v1, .int v2, .int v3, .int v4, .int v5] h (fun r h' => tm_A (d + 1) 120 27 ls (r.toList ++ st) h' K) := tm_callS (as := [.int v0, .int v1, .int v2, .int v3, .int v4, .int v5]) o120_24 rfl rfl rfl rfl
theorem o120_27 : tm_op 120 27 = some (.ifCond .eq 7, (0, 0, 0, 0)) := rfl
theorem r120_27 (d : Nat) (x : Int32) (ls : tm_Lo) (st : List Value) (h : tm_H) (K : Option Value → tm_H → Prop) : tm_A d 120 27 ls (.int x :: st) h K ↔ if x = 0 then tm_A d 120 34 ls st h K else tm_A d 120 30 ls st h K := tm_b o120_27 rfl rfl rfl rfl
theorem o120_30 : tm_op 120 30 = some (.iconst 1, (0, 0, 0, 0)) := rfl
theorem r120_30 (d : Nat) (ls : tm_Lo) (st : List Value) (h : tm_H) (K : Option Value → tm_H → Prop) : tm_A d 120 30 ls st h K ↔ tm_A d 120 31 ls (.int (1 : Int32) :: st) h K := tm_ic o120_30 (by decide)
theorem o120_31 : tm_op 120 31 = some (.goto 4, (0, 0, 0, 0)) := rfl
theorem r120_31 (d : Nat) (ls : tm_Lo) (st : List Value) (h : tm_H) (K : Option Value → tm_H → Prop) : tm_A d 120 31 ls st h K ↔ tm_A d 120 35 ls st h K := tm_s o120_31 rfl rfl rfl
theorem o120_34 : tm_op 120 34 = some (.iconst 0, (0, 0, 0, 0)) := rfl
theorem r120_34 (d : Nat) (ls : tm_Lo) (st : List Value) (h : tm_H) (K : Option Value → tm_H → Prop) : tm_A d 120 34 ls st h K ↔ tm_A d 120 35 ls (.int (0 : Int32) :: st) h K := tm_ic o120_34 (by decide)
theorem o120_35 : tm_op 120 35 = some (.iadd, (0, 0, 0, 0)) := rfl
theorem r120_35 (d : Nat) (u v : Int32) (ls : tm_Lo) (st : List Value) (h : tm_H) (K : Option Value → tm_H → Prop) : tm_A d 120 35 ls (.int u :: .int v :: st) h K ↔ tm_A d 120 36 ls (.int (v + u) :: st) h K := tm_s o120_35 rfl rfl rfl
theorem o120_36 : tm_op 120 36 = some (.istore 6, (0, 0, 0, 0)) := rfl
theorem r120_36 (d : Nat) (v : Int32) (l0 l1 l2 l3 l4 l5 l6 l7 l8 : Option Value) (st : List Value) (h : tm_H) (K : Option Value → tm_H → Prop) : tm_A d 120 36 [l0, l1, l2, l3, l4, l5, l6, l7, l8] (.int v :: st) h K ↔ tm_A d 120 38 [l0, l1, l2, l3, l4, l5, some (.int v), l7, l8] st h K := tm_s o120_36 rfl rfl rfl
theorem o120_38 : tm_op 120 38 = some (.iinc 7 1, (0, 0, 0, 0)) := rfl
theorem r120_38 (d : Nat) (v : Int32) (l0 l1 l2 l3 l4 l5 l6 l8 : Option Value) (st : List Value) (h : tm_H) (K : Option Value → tm_H → Prop) : tm_A d 120 38 [l0, l1, l2, l3, l4, l5, l6, some (.int v), l8] st h K ↔ tm_A d 120 41 [l0, l1, l2, l3, l4, l5, l6, some (.int (v + (1 : Int32))), l8] st h K := tm_s o120_38 rfl rfl rfl
theorem o120_41 : tm_op 120 41 = some (.goto (-35), (0, 0, 0, 0)) := rfl
theorem r120_41 (d : Nat) (ls : tm_Lo) (st : List Value) (h : tm_H) (K : Option Value → tm_H → Prop) : tm_A d 120 41 ls st h K ↔ tm_A d 120 6 ls st h K := tm_s o120_41 rfl rfl rfl
theorem o120_44 : tm_op 120 44 = some (.aload_n 0, (0, 0, 0, 0)) := rfl
theorem r120_44 (d : Nat) (v : Nat) (l1 l2 l3 l4 l5 l6 l7 l8 : Option Value) (st : List Value) (h : tm_H) (K : Option Value → tm_H → Prop) : tm_A d 120 44 [some (.ref v), l1, l2, l3, l4, l5, l6, l7, l8] st h K ↔ tm_A d 120 45 [some (.ref v), l1, l2, l3, l4, l5, l6, l7, l8] (.ref v :: st) h K := tm_s o120_44 rfl rfl rfl
theorem o120_45 : tm_op 120 45 = some (.getfield 94, (0, 10, 6, 0)) := rfl
theorem r120_45 (d : Nat) (a : Nat) (ls : tm_Lo) (st : List Value) (G : tm_G) (I : Nat → Nat → Int32) (J : Nat → Nat → Int64) (R : Nat → Nat → Option Nat) (K : Option Value → tm_H → Prop) : tm_A d 120 45 ls (.ref a :: st) (G, I, J, R) K ↔ G.2.2 a = (0, 10) ∧ tm_A d 120 48 ls (.int (I a 6) :: st) (G, I, J, R) K := tm_getI o120_45
theorem o120_48 : tm_op 120 48 = some (.iload 6, (0, 0, 0, 0)) := rfl
theorem r120_48 (d : Nat) (v : Int32) (l0 l1 l2 l3 l4 l5 l7 l8 : Option Value) (st : List Value) (h : tm_H) (K : Option Value → tm_H → Prop) : tm_A d 120 48 [l0, l1, l2, l3, l4, l5, some (.int v), l7, l8] st h K ↔ tm_A d 120 50 [l0, l1, l2, l3, l4, l5, some (.int v), l7, l8] (.int v :: st) h K := tm_s o120_48 rfl rfl rfl
theorem o120_50 : tm_op 120 50 = some (.iadd, (0, 0, 0, 0)) := rfl
theorem r120_50 (d : Nat) (u v : Int32) (ls : tm_Lo) (st : List Value) (h : tm_H) (K : Option Value → tm_H → Prop) : tm_A d 120 50 ls (.int u :: .int v :: st) h K ↔ tm_A d 120 51 ls (.int (v + u) :: st) h K := tm_s o120_50 rfl rfl rfl
theorem o120_51 : tm_op 120 51 = some (.bipush 100, (0, 0, 0, 0)) := rfl
theorem r120_51 (d : Nat) (ls : tm_Lo) (st : List Value) (h : tm_H) (K : Option Value → tm_H → Prop) : tm_A d 120 51 ls st h K ↔ tm_A d 120 53 ls (.int (100 : Int32) :: st) h K := tm_bp o120_51 (by decide)
theorem o120_53 : tm_op 120 53 = some (.if_icmp .le 5, (0, 0, 0, 0)) := rfl
theorem r120_53 (d : Nat) (y x : Int32) (ls : tm_Lo) (st : List Value) (h : tm_H) (K : Option Value → tm_H → Prop) : tm_A d 120 53 ls (.int y :: .int x :: st) h K ↔ if x ≤ y then tm_A d 120 58 ls st h K else tm_A d 120 56 ls st h K := tm_b o120_53 rfl rfl rfl rfl
theorem o120_56 : tm_op 120 56 = some (.iconst (-1), (0, 0, 0, 0)) := rfl
theorem r120_56 (d : Nat) (ls : tm_Lo) (st : List Value) (h : tm_H) (K : Option Value → tm_H → Prop) : tm_A d 120 56 ls st h K ↔ tm_A d 120 57 ls (.int (-1 : Int32) :: st) h K := tm_ic o120_56 (by decide)
theorem o120_57 : tm_op 120 57 = some (.ireturn, (0, 0, 0, 0)) := rfl
theorem r120_57 (d : Nat) (v : Int32) (ls : tm_Lo) (h : tm_H) (K : Option Value → tm_H → Prop) : tm_A d 120 57 ls [.int v] h K ↔ K (some (.int v)) h := tm_reti o120_57 rfl
theorem o120_58 : tm_op 120 58 = some (.iconst 0, (0, 0, 0, 0)) := rfl
theorem r120_58 (d : Nat) (ls : tm_Lo) (st : List Value) (h : tm_H) (K : Option Value → tm_H → Prop) : tm_A d 120 58 ls st h K ↔ tm_A d 120 59 ls (.int (0 : Int32) :: st) h K := tm_ic o120_58 (by decide)
theorem o120_59 : tm_op 120 59 = some (.istore 7, (0, 0, 0, 0)) := rfl
theorem r120_59 (d : Nat) (v : Int32) (l0 l1 l2 l3 l4 l5 l6 l7 l8 : Option Value) (st : List Value) (h : tm_H) (K : Option Value → tm_H → Prop) : tm_A d 120 59 [l0, l1, l2, l3, l4, l5, l6, l7, l8] (.int v :: st) h K ↔ tm_A d 120 61 [l0, l1, l2, l3, l4, l5, l6, some (.int v), l8] st h K := tm_s o120_59 rfl rfl rfl
theorem o120_61 : tm_op 120 61 = some (.iload 7, (0, 0, 0, 0)) := rfl
theorem r120_61 (d : Nat) (v : Int32) (l0 l1 l2 l3 l4 l5 l6 l8 : Option Value) (st : List Value) (h : tm_H) (K : Option Value → tm_H → Prop) : tm_A d 120 61 [l0, l1, l2, l3, l4, l5, l6, some (.int v), l8] st h K ↔ tm_A d 120 63 [l0, l1, l2, l3, l4, l5, l6, some (.int v), l8] (.int v :: st) h K := tm_s o120_61 rfl rfl rfl
theorem o120_63 : tm_op 120 63 = some (.bipush 20, (0, 0, 0, 0)) := rfl
theorem r120_63 (d : Nat) (ls : tm_Lo) (st : List Value) (h : tm_H) (K : Option Value → tm_H → Prop) : tm_A d 120 63 ls st h K ↔ tm_A d 120 65 ls (.int (20 : Int32) :: st) h K := tm_bp o120_63 (by decide)
theorem o120_65 : tm_op 120 65 = some (.if_icmp .ge 49, (0, 0, 0, 0)) := rfl
theorem r120_65 (d : Nat) (y x : Int32) (ls : tm_Lo) (st : List Value) (h : tm_H) (K : Option Value → tm_H → Prop) : tm_A d 120 65 ls (.int y :: .int x :: st) h K ↔ if y ≤ x then tm_A d 120 114 ls st h K else tm_A d 120 68 ls st h K := tm_b o120_65 rfl rfl rfl rfl
theorem o120_68 : tm_op 120 68 = some (.iload_n 1, (0, 0, 0, 0)) := rfl
theorem r120_68 (d : Nat) (v : Int32) (l0 l2 l3 l4 l5 l6 l7 l8 : Option Value) (st : List Value) (h : tm_H) (K : Option Value → tm_H → Prop) : tm_A d 120 68 [l0, some (.int v), l2, l3, l4, l5, l6, l7, l8] st h K ↔ tm_A d 120 69 [l0, some (.int v), l2, l3, l4, l5, l6, l7, l8] (.int v :: st) h K := tm_s o120_68 rfl rfl rfl
theorem o120_69 : tm_op 120 69 = some (.iload_n 2, (0, 0, 0, 0)) := rfl
theorem r120_69 (d : Nat) (v : Int32) (l0 l1 l3 l4 l5 l6 l7 l8 : Option Value) (st : List Value) (h : tm_H) (K : Option Value → tm_H → Prop) : tm_A d 120 69 [l0, l1, some (.int v), l3, l4, l5, l6, l7, l8] st h K ↔ tm_A d 120 70 [l0, l1, some (.int v), l3, l4, l5, l6, l7, l8] (.int v :: st) h K := tm_s o120_69 rfl rfl rfl
theorem o120_70 : tm_op 120 70 = some (.iload_n 3, (0, 0, 0, 0)) := rfl
theorem r120_70 (d : Nat) (v : Int32) (l0 l1 l2 l4 l5 l6 l7 l8 : Option Value) (st : List Value) (h : tm_H) (K : Option Value → tm_H → Prop) : tm_A d 120 70 [l0, l1, l2, some (.int v), l4, l5, l6, l7, l8] st h K ↔ tm_A d 120 71 [l0, l1, l2, some (.int v), l4, l5, l6, l7, l8] (.int v :: st) h K := tm_s o120_70 rfl rfl rfl
theorem o120_71 : tm_op 120 71 = some (.iload 4, (0, 0, 0, 0)) := rfl
theorem r120_71 (d : Nat) (v : Int32) (l0 l1 l2 l3 l5 l6 l7 l8 : Option Value) (st : List Value) (h : tm_H) (K : Option Value → tm_H → Prop) : tm_A d 120 71 [l0, l1, l2, l3, some (.int v), l5, l6, l7, l8] st h K ↔ tm_A d 120 73 [l0, l1, l2, l3, some (.int v), l5, l6, l7, l8] (.int v :: st) h K := tm_s o120_71 rfl rfl rfl
theorem o120_73 : tm_op 120 73 = some (.iload 5, (0, 0, 0, 0)) := rfl
theorem r120_73 (d : Nat) (v : Int32) (l0 l1 l2 l3 l4 l6 l7 l8 : Option Value) (st : List Value) (h : tm_H) (K : Option Value → tm_H → Prop) : tm_A d 120 73 [l0, l1, l2, l3, l4, some (.int v), l6, l7, l8] st h K ↔ tm_A d 120 75 [l0, l1, l2, l3, l4, some (.int v), l6, l7, l8] (.int v :: st) h K := tm_s o120_73 rfl rfl rfl
theorem o120_75 : tm_op 120 75 = some (.iload 7, (0, 0, 0, 0)) := rfl
theorem r120_75 (d : Nat) (v : Int32) (l0 l1 l2 l3 l4 l5 l6 l8 : Option Value) (st : List Value) (h : tm_H) (K : Option Value → tm_H → Prop) : tm_A d 120 75 [l0, l1, l2, l3, l4, l5, l6, some (.int v), l8] st h K ↔ tm_A d 120 77 [l0, l1, l2, l3, l4, l5, l6, some (.int v), l8] (.int v :: st) h K := tm_s o120_75 rfl rfl rfl
theorem o120_77 : tm_op 120 77 = some (.invokestatic 90, (1, 119, 6, 0)) := rfl
theorem r120_77 (d : Nat) (v0 : Int32) (v1 : Int32) (v2 : Int32) (v3 : Int32) (v4 : Int32) (v5 : Int32) (ls : tm_Lo) (st : List Value) (h : tm_H) (K : Option Value → tm_H → Prop) : tm_A (d + 1) 120 77 ls (.int v5 :: .int v4 :: .int v3 :: .int v2 :: .int v1 :: .int v0 :: st) h K ↔ tm_cs st ∧ tm_R d 119 [.int v0, .int v1, .int v2, .int v3, .int v4, .int v5] h (fun r h' => tm_A (d + 1) 120 80 ls (r.toList ++ st) h' K) := tm_callS (as := [.int v0, .int v1, .int v2, .int v3, .int v4, .int v5]) o120_77 rfl rfl rfl rfl
theorem o120_80 : tm_op 120 80 = some (.istore 8, (0, 0, 0, 0)) := rfl
theorem r120_80 (d : Nat) (v : Int32) (l0 l1 l2 l3 l4 l5 l6 l7 l8 : Option Value) (st : List Value) (h : tm_H) (K : Option Value → tm_H → Prop) : tm_A d 120 80 [l0, l1, l2, l3, l4, l5, l6, l7, l8] (.int v :: st) h K ↔ tm_A d 120 82 [l0, l1, l2, l3, l4, l5, l6, l7, some (.int v)] st h K := tm_s o120_80 rfl rfl rfl
theorem o120_82 : tm_op 120 82 = some (.iload 8, (0, 0, 0, 0)) := rfl
theorem r120_82 (d : Nat) (v : Int32) (l0 l1 l2 l3 l4 l5 l6 l7 : Option Value) (st : List Value) (h : tm_H) (K : Option Value → tm_H → Prop) : tm_A d 120 82 [l0, l1, l2, l3, l4, l5, l6, l7, some (.int v)] st h K ↔ tm_A d 120 84 [l0, l1, l2, l3, l4, l5, l6, l7, some (.int v)] (.int v :: st) h K := tm_s o120_82 rfl rfl rfl
theorem o120_84 : tm_op 120 84 = some (.ifCond .eq 24, (0, 0, 0, 0)) := rfl
theorem r120_84 (d : Nat) (x : Int32) (ls : tm_Lo) (st : List Value) (h : tm_H) (K : Option Value → tm_H → Prop) : tm_A d 120 84 ls (.int x :: st) h K ↔ if x = 0 then tm_A d 120 108 ls st h K else tm_A d 120 87 ls st h K := tm_b o120_84 rfl rfl rfl rfl
theorem o120_87 : tm_op 120 87 = some (.aload_n 0, (0, 0, 0, 0)) := rfl
theorem r120_87 (d : Nat) (v : Nat) (l1 l2 l3 l4 l5 l6 l7 l8 : Option Value) (st : List Value) (h : tm_H) (K : Option Value → tm_H → Prop) : tm_A d 120 87 [some (.ref v), l1, l2, l3, l4, l5, l6, l7, l8] st h K ↔ tm_A d 120 88 [some (.ref v), l1, l2, l3, l4, l5, l6, l7, l8] (.ref v :: st) h K := tm_s o120_87 rfl rfl rfl
theorem o120_88 : tm_op 120 88 = some (.getfield 16, (2, 10, 5, 0)) := rfl
theorem r120_88 (d : Nat) (a : Nat) (ls : tm_Lo) (st : List Value) (G : tm_G) (I : Nat → Nat → Int32) (J : Nat → Nat → Int64) (R : Nat → Nat → Option Nat) (K : Option Value → tm_H → Prop) : tm_A d 120 88 ls (.ref a :: st) (G, I, J, R) K ↔ G.2.2 a = (0, 10) ∧ tm_A d 120 91 ls (tm_rf (R a 5) :: st) (G, I, J, R) K := tm_getR o120_88
theorem o120_91 : tm_op 120 91 = some (.aload_n 0, (0, 0, 0, 0)) := rfl
theorem r120_91 (d : Nat) (v : Nat) (l1 l2 l3 l4 l5 l6 l7 l8 : Option Value) (st : List Value) (h : tm_H) (K : Option Value → tm_H → Prop) : tm_A d 120 91 [some (.ref v), l1, l2, l3, l4, l5, l6, l7, l8] st h K ↔ tm_A d 120 92 [some (.ref v), l1, l2, l3, l4, l5, l6, l7, l8] (.ref v :: st) h K := tm_s o120_91 rfl rfl rfl
theorem o120_92 : tm_op 120 92 = some (.getfield 94, (0, 10, 6, 0)) := rfl
theorem r120_92 (d : Nat) (a : Nat) (ls : tm_Lo) (st : List Value) (G : tm_G) (I : Nat → Nat → Int32) (J : Nat → Nat → Int64) (R : Nat → Nat → Option Nat) (K : Option Value → tm_H → Prop) : tm_A d 120 92 ls (.ref a :: st) (G, I, J, R) K ↔ G.2.2 a = (0, 10) ∧ tm_A d 120 95 ls (.int (I a 6) :: st) (G, I, J, R) K := tm_getI o120_92
theorem o120_95 : tm_op 120 95 = some (.iload 8, (0, 0, 0, 0)) := rfl
theorem r120_95 (d : Nat) (v : Int32) (l0 l1 l2 l3 l4 l5 l6 l7 : Option Value) (st : List Value) (h : tm_H) (K : Option Value → tm_H → Prop) : tm_A d 120 95 [l0, l1, l2, l3, l4, l5, l6, l7, some (.int v)] st h K ↔ tm_A d 120 97 [l0, l1, l2, l3, l4, l5, l6, l7, some (.int v)] (.int v :: st) h K := tm_s o120_95 rfl rfl rfl
theorem o120_97 : tm_op 120 97 = some (.iastore, (0, 0, 0, 0)) := rfl
theorem r120_97 (d : Nat) (u v : Int32) (a : Nat) (ls : tm_Lo) (st : List Value) (G : tm_G) (I : Nat → Nat → Int32) (J : Nat → Nat → Int64) (R : Nat → Nat → Option Nat) (K : Option Value → tm_H → Prop) : tm_A d 120 97 ls (.int u :: .int v :: .ref a :: st) (G, I, J, R) K ↔ (3 ≤ a ∧ (G.2.2 a).1 = 1 ∧ tm_in v (G.2.2 a).2) ∧ tm_A d 120 98 ls st (G, up2 I a (tm_ix v) u, J, R) K := tm_iast o120_97
theorem o120_98 : tm_op 120 98 = some (.aload_n 0, (0, 0, 0, 0)) := rfl
theorem r120_98 (d : Nat) (v : Nat) (l1 l2 l3 l4 l5 l6 l7 l8 : Option Value) (st : List Value) (h : tm_H) (K : Option Value → tm_H → Prop) : tm_A d 120 98 [some (.ref v), l1, l2, l3, l4, l5, l6, l7, l8] st h K ↔ tm_A d 120 99 [some (.ref v), l1, l2, l3, l4, l5, l6, l7, l8] (.ref v :: st) h K := tm_s o120_98 rfl rfl rfl
theorem o120_99 : tm_op 120 99 = some (.dup, (0, 0, 0, 0)) := rfl
theorem r120_99 (d : Nat) (v : Nat) (ls : tm_Lo) (st : List Value) (h : tm_H) (K : Option Value → tm_H → Prop) : tm_A d 120 99 ls (.ref v :: st) h K ↔ tm_A d 120 100 ls (.ref v :: .ref v :: st) h K := tm_s o120_99 rfl rfl rfl
theorem r120_99i (d : Nat) (v : Int32) (ls : tm_Lo) (st : List Value) (h : tm_H) (K : Option Value → tm_H → Prop) : tm_A d 120 99 ls (.int v :: st) h K ↔ tm_A d 120 100 ls (.int v :: .int v :: st) h K := tm_s o120_99 rfl rfl rfl
theorem o120_100 : tm_op 120 100 = some (.getfield 94, (0, 10, 6, 0)) := rfl
theorem r120_100 (d : Nat) (a : Nat) (ls : tm_Lo) (st : List Value) (G : tm_G) (I : Nat → Nat → Int32) (J : Nat → Nat → Int64) (R : Nat → Nat → Option Nat) (K : Option Value → tm_H → Prop) : tm_A d 120 100 ls (.ref a :: st) (G, I, J, R) K ↔ G.2.2 a = (0, 10) ∧ tm_A d 120 103 ls (.int (I a 6) :: st) (G, I, J, R) K := tm_getI o120_100
theorem o120_103 : tm_op 120 103 = some (.iconst 1, (0, 0, 0, 0)) := rfl
theorem r120_103 (d : Nat) (ls : tm_Lo) (st : List Value) (h : tm_H) (K : Option Value → tm_H → Prop) : tm_A d 120 103 ls st h K ↔ tm_A d 120 104 ls (.int (1 : Int32) :: st) h K := tm_ic o120_103 (by decide)
theorem o120_104 : tm_op 120 104 = some (.iadd, (0, 0, 0, 0)) := rfl
theorem r120_104 (d : Nat) (u v : Int32) (ls : tm_Lo) (st : List Value) (h : tm_H) (K : Option Value → tm_H → Prop) : tm_A d 120 104 ls (.int u :: .int v :: st) h K ↔ tm_A d 120 105 ls (.int (v + u) :: st) h K := tm_s o120_104 rfl rfl rfl
theorem o120_105 : tm_op 120 105 = some (.putfield 94, (0, 10, 6, 0)) := rfl
theorem r120_105 (d : Nat) (v : Int32) (a : Nat) (ls : tm_Lo) (st : List Value) (G : tm_G) (I : Nat → Nat → Int32) (J : Nat → Nat → Int64) (R : Nat → Nat → Option Nat) (K : Option Value → tm_H → Prop) : tm_A d 120 105 ls (.int v :: .ref a :: st) (G, I, J, R) K ↔ G.2.2 a = (0, 10) ∧ tm_A d 120 108 ls st (G, up2 I a 6 v, J, R) K := tm_putI o120_105
theorem o120_108 : tm_op 120 108 = some (.iinc 7 1, (0, 0, 0, 0)) := rfl
theorem r120_108 (d : Nat) (v : Int32) (l0 l1 l2 l3 l4 l5 l6 l8 : Option Value) (st : List Value) (h : tm_H) (K : Option Value → tm_H → Prop) : tm_A d 120 108 [l0, l1, l2, l3, l4, l5, l6, some (.int v), l8] st h K ↔ tm_A d 120 111 [l0, l1, l2, l3, l4, l5, l6, some (.int (v + (1 : Int32))), l8] st h K := tm_s o120_108 rfl rfl rfl
theorem o120_111 : tm_op 120 111 = some (.goto (-50), (0, 0, 0, 0)) := rfl
theorem r120_111 (d : Nat) (ls : tm_Lo) (st : List Value) (h : tm_H) (K : Option Value → tm_H → Prop) : tm_A d 120 111 ls st h K ↔ tm_A d 120 61 ls st h K := tm_s o120_111 rfl rfl rfl
theorem o120_114 : tm_op 120 114 = some (.aload_n 0, (0, 0, 0, 0)) := rfl
theorem r120_114 (d : Nat) (v : Nat) (l1 l2 l3 l4 l5 l6 l7 l8 : Option Value) (st : List Value) (h : tm_H) (K : Option Value → tm_H → Prop) : tm_A d 120 114 [some (.ref v), l1, l2, l3, l4, l5, l6, l7, l8] st h K ↔ tm_A d 120 115 [some (.ref v), l1, l2, l3, l4, l5, l6, l7, l8] (.ref v :: st) h K := tm_s o120_114 rfl rfl rfl
theorem o120_115 : tm_op 120 115 = some (.getfield 94, (0, 10, 6, 0)) := rfl
theorem r120_115 (d : Nat) (a : Nat) (ls : tm_Lo) (st : List Value) (G : tm_G) (I : Nat → Nat → Int32) (J : Nat → Nat → Int64) (R : Nat → Nat → Option Nat) (K : Option Value → tm_H → Prop) : tm_A d 120 115 ls (.ref a :: st) (G, I, J, R) K ↔ G.2.2 a = (0, 10) ∧ tm_A d 120 118 ls (.int (I a 6) :: st) (G, I, J, R) K := tm_getI o120_115
theorem o120_118 : tm_op 120 118 = some (.ireturn, (0, 0, 0, 0)) := rfl
theorem r120_118 (d : Nat) (v : Int32) (ls : tm_Lo) (h : tm_H) (K : Option Value → tm_H → Prop) : tm_A d 120 118 ls [.int v] h K ↔ K (some (.int v)) h := tm_reti o120_118 rfl
theorem o121_0 : tm_op 121 0 = some (.iload_n 1, (0, 0, 0, 0)) := rfl
theorem r121_0 (d : Nat) (v : Int32) (l0 : Option Value) (st : List Value) (h : tm_H) (K : Option Value → tm_H → Prop) : tm_A d 121 0 [l0, some (.int v)] st h K ↔ tm_A d 121 1 [l0, some (.int v)] (.int v :: st) h K := tm_s o121_0 rfl rfl rfl
theorem o121_1 : tm_op 121 1 = some (.ifCond .lt 11, (0, 0, 0, 0)) := rfl
theorem r121_1 (d : Nat) (x : Int32) (ls : tm_Lo) (st : List Value) (h : tm_H) (K : Option Value → tm_H → Prop) : tm_A d 121 1 ls (.int x :: st) h K ↔ if x < 0 then tm_A d 121 12 ls st h K else tm_A d 121 4 ls st h K := tm_b o121_1 rfl rfl rfl rfl
theorem o121_4 : tm_op 121 4 = some (.iload_n 1, (0, 0, 0, 0)) := rfl
theorem r121_4 (d : Nat) (v : Int32) (l0 : Option Value) (st : List Value) (h : tm_H) (K : Option Value → tm_H → Prop) : tm_A d 121 4 [l0, some (.int v)] st h K ↔ tm_A d 121 5 [l0, some (.int v)] (.int v :: st) h K := tm_s o121_4 rfl rfl rfl
theorem o121_5 : tm_op 121 5 = some (.aload_n 0, (0, 0, 0, 0)) := rfl
theorem r121_5 (d : Nat) (v : Nat) (l1 : Option Value) (st : List Value) (h : tm_H) (K : Option Value → tm_H → Prop) : tm_A d 121 5 [some (.ref v), l1] st h K ↔ tm_A d 121 6 [some (.ref v), l1] (.ref v :: st) h K := tm_s o121_5 rfl rfl rfl
theorem o121_6 : tm_op 121 6 = some (.getfield 94, (0, 10, 6, 0)) := rfl
theorem r121_6 (d : Nat) (a : Nat) (ls : tm_Lo) (st : List Value) (G : tm_G) (I : Nat → Nat → Int32) (J : Nat → Nat → Int64) (R : Nat → Nat → Option Nat) (K : Option Value → tm_H → Prop) : tm_A d 121 6 ls (.ref a :: st) (G, I, J, R) K ↔ G.2.2 a = (0, 10) ∧ tm_A d 121 9 ls (.int (I a 6) :: st) (G, I, J, R) K := tm_getI o121_6
theorem o121_9 : tm_op 121 9 = some (.if_icmp .le 5, (0, 0, 0, 0)) := rfl
theorem r121_9 (d : Nat) (y x : Int32) (ls : tm_Lo) (st : List Value) (h : tm_H) (K : Option Value → tm_H → Prop) : tm_A d 121 9 ls (.int y :: .int x :: st) h K ↔ if x ≤ y then tm_A d 121 14 ls st h K else tm_A d 121 12 ls st h K := tm_b o121_9 rfl rfl rfl rfl
theorem o121_12 : tm_op 121 12 = some (.iconst 0, (0, 0, 0, 0)) := rfl
theorem r121_12 (d : Nat) (ls : tm_Lo) (st : List Value) (h : tm_H) (K : Option Value → tm_H → Prop) : tm_A d 121 12 ls st h K ↔ tm_A d 121 13 ls (.int (0 : Int32) :: st) h K := tm_ic o121_12 (by decide)
theorem o121_13 : tm_op 121 13 = some (.ireturn, (0, 0, 0, 0)) := rfl
theorem r121_13 (d : Nat) (v : Int32) (ls : tm_Lo) (h : tm_H) (K : Option Value → tm_H → Prop) : tm_A d 121 13 ls [.int v] h K ↔ (v = 0 ∨ v = 1) ∧ K (some (.int v)) h := tm_retz o121_13 rfl
theorem o121_14 : tm_op 121 14 = some (.aload_n 0, (0, 0, 0, 0)) := rfl
theorem r121_14 (d : Nat) (v : Nat) (l1 : Option Value) (st : List Value) (h : tm_H) (K : Option Value → tm_H → Prop) : tm_A d 121 14 [some (.ref v), l1] st h K ↔ tm_A d 121 15 [some (.ref v), l1] (.ref v :: st) h K := tm_s o121_14 rfl rfl rfl
theorem o121_15 : tm_op 121 15 = some (.iload_n 1, (0, 0, 0, 0)) := rfl
theorem r121_15 (d : Nat) (v : Int32) (l0 : Option Value) (st : List Value) (h : tm_H) (K : Option Value → tm_H → Prop) : tm_A d 121 15 [l0, some (.int v)] st h K ↔ tm_A d 121 16 [l0, some (.int v)] (.int v :: st) h K := tm_s o121_15 rfl rfl rfl
theorem o121_16 : tm_op 121 16 = some (.putfield 94, (0, 10, 6, 0)) := rfl
theorem r121_16 (d : Nat) (v : Int32) (a : Nat) (ls : tm_Lo) (st : List Value) (G : tm_G) (I : Nat → Nat → Int32) (J : Nat → Nat → Int64) (R : Nat → Nat → Option Nat) (K : Option Value → tm_H → Prop) : tm_A d 121 16 ls (.int v :: .ref a :: st) (G, I, J, R) K ↔ G.2.2 a = (0, 10) ∧ tm_A d 121 19 ls st (G, up2 I a 6 v, J, R) K := tm_putI o121_16
theorem o121_19 : tm_op 121 19 = some (.iconst 1, (0, 0, 0, 0)) := rfl
theorem r121_19 (d : Nat) (ls : tm_Lo) (st : List Value) (h : tm_H) (K : Option Value → tm_H → Prop) : tm_A d 121 19 ls st h K ↔ tm_A d 121 20 ls (.int (1 : Int32) :: st) h K := tm_ic o121_19 (by decide)
theorem o121_20 : tm_op 121 20 = some (.ireturn, (0, 0, 0, 0)) := rfl
theorem r121_20 (d : Nat) (v : Int32) (ls : tm_Lo) (h : tm_H) (K : Option Value → tm_H → Prop) : tm_A d 121 20 ls [.int v] h K ↔ (v = 0 ∨ v = 1) ∧ K (some (.int v)) h := tm_retz o121_20 rfl
theorem o122_0 : tm_op 122 0 = some (.iload_n 1, (0, 0, 0, 0)) := rfl
theorem r122_0 (d : Nat) (v : Int32) (l0 : Option Value) (st : List Value) (h : tm_H) (K : Option Value → tm_H → Prop) : tm_A d 122 0 [l0, some (.int v)] st h K ↔ tm_A d 122 1 [l0, some (.int v)] (.int v :: st) h K := tm_s o122_0 rfl rfl rfl
theorem o122_1 : tm_op 122 1 = some (.aload_n 0, (0, 0, 0, 0)) := rfl
theorem r122_1 (d : Nat) (v : Nat) (l1 : Option Value) (st : List Value) (h : tm_H) (K : Option Value → tm_H → Prop) : tm_A d 122 1 [some (.ref v), l1] st h K ↔ tm_A d 122 2 [some (.ref v), l1] (.ref v :: st) h K := tm_s o122_1 rfl rfl rfl
theorem o122_2 : tm_op 122 2 = some (.getfield 94, (0, 10, 6, 0)) := rfl
theorem r122_2 (d : Nat) (a : Nat) (ls : tm_Lo) (st : List Value) (G : tm_G) (I : Nat → Nat → Int32) (J : Nat → Nat → Int64) (R : Nat → Nat → Option Nat) (K : Option Value → tm_H → Prop) : tm_A d 122 2 ls (.ref a :: st) (G, I, J, R) K ↔ G.2.2 a = (0, 10) ∧ tm_A d 122 5 ls (.int (I a 6) :: st) (G, I, J, R) K := tm_getI o122_2
theorem o122_5 : tm_op 122 5 = some (.if_icmp .ge 12, (0, 0, 0, 0)) := rfl
theorem r122_5 (d : Nat) (y x : Int32) (ls : tm_Lo) (st : List Value) (h : tm_H) (K : Option Value → tm_H → Prop) : tm_A d 122 5 ls (.int y :: .int x :: st) h K ↔ if y ≤ x then tm_A d 122 17 ls st h K else tm_A d 122 8 ls st h K := tm_b o122_5 rfl rfl rfl rfl
theorem o122_8 : tm_op 122 8 = some (.aload_n 0, (0, 0, 0, 0)) := rfl
theorem r122_8 (d : Nat) (v : Nat) (l1 : Option Value) (st : List Value) (h : tm_H) (K : Option Value → tm_H → Prop) : tm_A d 122 8 [some (.ref v), l1] st h K ↔ tm_A d 122 9 [some (.ref v), l1] (.ref v :: st) h K := tm_s o122_8 rfl rfl rfl
theorem o122_9 : tm_op 122 9 = some (.getfield 16, (2, 10, 5, 0)) := rfl
theorem r122_9 (d : Nat) (a : Nat) (ls : tm_Lo) (st : List Value) (G : tm_G) (I : Nat → Nat → Int32) (J : Nat → Nat → Int64) (R : Nat → Nat → Option Nat) (K : Option Value → tm_H → Prop) : tm_A d 122 9 ls (.ref a :: st) (G, I, J, R) K ↔ G.2.2 a = (0, 10) ∧ tm_A d 122 12 ls (tm_rf (R a 5) :: st) (G, I, J, R) K := tm_getR o122_9
theorem o122_12 : tm_op 122 12 = some (.iload_n 1, (0, 0, 0, 0)) := rfl
theorem r122_12 (d : Nat) (v : Int32) (l0 : Option Value) (st : List Value) (h : tm_H) (K : Option Value → tm_H → Prop) : tm_A d 122 12 [l0, some (.int v)] st h K ↔ tm_A d 122 13 [l0, some (.int v)] (.int v :: st) h K := tm_s o122_12 rfl rfl rfl
theorem o122_13 : tm_op 122 13 = some (.iaload, (0, 0, 0, 0)) := rfl
theorem r122_13 (d : Nat) (v : Int32) (a : Nat) (ls : tm_Lo) (st : List Value) (G : tm_G) (I : Nat → Nat → Int32) (J : Nat → Nat → Int64) (R : Nat → Nat → Option Nat) (K : Option Value → tm_H → Prop) : tm_A d 122 13 ls (.int v :: .ref a :: st) (G, I, J, R) K ↔ ((G.2.2 a).1 = 1 ∧ tm_in v (G.2.2 a).2) ∧ tm_A d 122 14 ls (.int (I a (tm_ix v)) :: st) (G, I, J, R) K := tm_iald o122_13
theorem o122_14 : tm_op 122 14 = some (.goto 4, (0, 0, 0, 0)) := rfl
theorem r122_14 (d : Nat) (ls : tm_Lo) (st : List Value) (h : tm_H) (K : Option Value → tm_H → Prop) : tm_A d 122 14 ls st h K ↔ tm_A d 122 18 ls st h K := tm_s o122_14 rfl rfl rfl
theorem o122_17 : tm_op 122 17 = some (.iconst (-1), (0, 0, 0, 0)) := rfl
theorem r122_17 (d : Nat) (ls : tm_Lo) (st : List Value) (h : tm_H) (K : Option Value → tm_H → Prop) : tm_A d 122 17 ls st h K ↔ tm_A d 122 18 ls (.int (-1 : Int32) :: st) h K := tm_ic o122_17 (by decide)
theorem o122_18 : tm_op 122 18 = some (.ireturn, (0, 0, 0, 0)) := rfl
theorem r122_18 (d : Nat) (v : Int32) (ls : tm_Lo) (h : tm_H) (K : Option Value → tm_H → Prop) : tm_A d 122 18 ls [.int v] h K ↔ K (some (.int v)) h := tm_reti o122_18 rfl
theorem o123_0 : tm_op 123 0 = some (.iload_n 0, (0, 0, 0, 0)) := rfl
theorem r123_0 (d : Nat) (v : Int32) (st : List Value) (h : tm_H) (K : Option Value → tm_H → Prop) : tm_A d 123 0 [some (.int v)] st h K ↔ tm_A d 123 1 [some (.int v)] (.int v :: st) h K := tm_s o123_0 rfl rfl rfl
theorem o123_1 : tm_op 123 1 = some (.bipush 48, (0, 0, 0, 0)) := rfl
theorem r123_1 (d : Nat) (ls : tm_Lo) (st : List Value) (h : tm_H) (K : Option Value → tm_H → Prop) : tm_A d 123 1 ls st h K ↔ tm_A d 123 3 ls (.int (48 : Int32) :: st) h K := tm_bp o123_1 (by decide)
theorem o123_3 : tm_op 123 3 = some (.if_icmp .lt 13, (0, 0, 0, 0)) := rfl
theorem r123_3 (d : Nat) (y x : Int32) (ls : tm_Lo) (st : List Value) (h : tm_H) (K : Option Value → tm_H → Prop) : tm_A d 123 3 ls (.int y :: .int x :: st) h K ↔ if x < y then tm_A d 123 16 ls st h K else tm_A d 123 6 ls st h K := tm_b o123_3 rfl rfl rfl rfl
theorem o123_6 : tm_op 123 6 = some (.iload_n 0, (0, 0, 0, 0)) := rfl
theorem r123_6 (d : Nat) (v : Int32) (st : List Value) (h : tm_H) (K : Option Value → tm_H → Prop) : tm_A d 123 6 [some (.int v)] st h K ↔ tm_A d 123 7 [some (.int v)] (.int v :: st) h K := tm_s o123_6 rfl rfl rfl
theorem o123_7 : tm_op 123 7 = some (.bipush 57, (0, 0, 0, 0)) := rfl
theorem r123_7 (d : Nat) (ls : tm_Lo) (st : List Value) (h : tm_H) (K : Option Value → tm_H → Prop) : tm_A d 123 7 ls st h K ↔ tm_A d 123 9 ls (.int (57 : Int32) :: st) h K := tm_bp o123_7 (by decide)
theorem o123_9 : tm_op 123 9 = some (.if_icmp .gt 7, (0, 0, 0, 0)) := rfl
theorem r123_9 (d : Nat) (y x : Int32) (ls : tm_Lo) (st : List Value) (h : tm_H) (K : Option Value → tm_H → Prop) : tm_A d 123 9 ls (.int y :: .int x :: st) h K ↔ if y < x then tm_A d 123 16 ls st h K else tm_A d 123 12 ls st h K := tm_b o123_9 rfl rfl rfl rfl
theorem o123_12 : tm_op 123 12 = some (.iconst 1, (0, 0, 0, 0)) := rfl
theorem r123_12 (d : Nat) (ls : tm_Lo) (st : List Value) (h : tm_H) (K : Option Value → tm_H → Prop) : tm_A d 123 12 ls st h K ↔ tm_A d 123 13 ls (.int (1 : Int32) :: st) h K := tm_ic o123_12 (by decide)
theorem o123_13 : tm_op 123 13 = some (.goto 4, (0, 0, 0, 0)) := rfl
theorem r123_13 (d : Nat) (ls : tm_Lo) (st : List Value) (h : tm_H) (K : Option Value → tm_H → Prop) : tm_A d 123 13 ls st h K ↔ tm_A d 123 17 ls st h K := tm_s o123_13 rfl rfl rfl
theorem o123_16 : tm_op 123 16 = some (.iconst 0, (0, 0, 0, 0)) := rfl
theorem r123_16 (d : Nat) (ls : tm_Lo) (st : List Value) (h : tm_H) (K : Option Value → tm_H → Prop) : tm_A d 123 16 ls st h K ↔ tm_A d 123 17 ls (.int (0 : Int32) :: st) h K := tm_ic o123_16 (by decide)
theorem o123_17 : tm_op 123 17 = some (.ireturn, (0, 0, 0, 0)) := rfl
theorem r123_17 (d : Nat) (v : Int32) (ls : tm_Lo) (h : tm_H) (K : Option Value → tm_H → Prop) : tm_A d 123 17 ls [.int v] h K ↔ (v = 0 ∨ v = 1) ∧ K (some (.int v)) h := tm_retz o123_17 rfl
theorem o124_0 : tm_op 124 0 = some (.iload_n 0, (0, 0, 0, 0)) := rfl
theorem r124_0 (d : Nat) (v : Int32) (st : List Value) (h : tm_H) (K : Option Value → tm_H → Prop) : tm_A d 124 0 [some (.int v)] st h K ↔ tm_A d 124 1 [some (.int v)] (.int v :: st) h K := tm_s o124_0 rfl rfl rfl
theorem o124_1 : tm_op 124 1 = some (.bipush 97, (0, 0, 0, 0)) := rfl
theorem r124_1 (d : Nat) (ls : tm_Lo) (st : List Value) (h : tm_H) (K : Option Value → tm_H → Prop) : tm_A d 124 1 ls st h K ↔ tm_A d 124 3 ls (.int (97 : Int32) :: st) h K := tm_bp o124_1 (by decide)
theorem o124_3 : tm_op 124 3 = some (.if_icmp .lt 13, (0, 0, 0, 0)) := rfl
theorem r124_3 (d : Nat) (y x : Int32) (ls : tm_Lo) (st : List Value) (h : tm_H) (K : Option Value → tm_H → Prop) : tm_A d 124 3 ls (.int y :: .int x :: st) h K ↔ if x < y then tm_A d 124 16 ls st h K else tm_A d 124 6 ls st h K := tm_b o124_3 rfl rfl rfl rfl
theorem o124_6 : tm_op 124 6 = some (.iload_n 0, (0, 0, 0, 0)) := rfl
theorem r124_6 (d : Nat) (v : Int32) (st : List Value) (h : tm_H) (K : Option Value → tm_H → Prop) : tm_A d 124 6 [some (.int v)] st h K ↔ tm_A d 124 7 [some (.int v)] (.int v :: st) h K := tm_s o124_6 rfl rfl rfl
theorem o124_7 : tm_op 124 7 = some (.bipush 122, (0, 0, 0, 0)) := rfl
theorem r124_7 (d : Nat) (ls : tm_Lo) (st : List Value) (h : tm_H) (K : Option Value → tm_H → Prop) : tm_A d 124 7 ls st h K ↔ tm_A d 124 9 ls (.int (122 : Int32) :: st) h K := tm_bp o124_7 (by decide)
theorem o124_9 : tm_op 124 9 = some (.if_icmp .gt 7, (0, 0, 0, 0)) := rfl
theorem r124_9 (d : Nat) (y x : Int32) (ls : tm_Lo) (st : List Value) (h : tm_H) (K : Option Value → tm_H → Prop) : tm_A d 124 9 ls (.int y :: .int x :: st) h K ↔ if y < x then tm_A d 124 16 ls st h K else tm_A d 124 12 ls st h K := tm_b o124_9 rfl rfl rfl rfl
theorem o124_12 : tm_op 124 12 = some (.iconst 1, (0, 0, 0, 0)) := rfl
theorem r124_12 (d : Nat) (ls : tm_Lo) (st : List Value) (h : tm_H) (K : Option Value → tm_H → Prop) : tm_A d 124 12 ls st h K ↔ tm_A d 124 13 ls (.int (1 : Int32) :: st) h K := tm_ic o124_12 (by decide)
theorem o124_13 : tm_op 124 13 = some (.goto 4, (0, 0, 0, 0)) := rfl
theorem r124_13 (d : Nat) (ls : tm_Lo) (st : List Value) (h : tm_H) (K : Option Value → tm_H → Prop) : tm_A d 124 13 ls st h K ↔ tm_A d 124 17 ls st h K := tm_s o124_13 rfl rfl rfl
theorem o124_16 : tm_op 124 16 = some (.iconst 0, (0, 0, 0, 0)) := rfl
theorem r124_16 (d : Nat) (ls : tm_Lo) (st : List Value) (h : tm_H) (K : Option Value → tm_H → Prop) : tm_A d 124 16 ls st h K ↔ tm_A d 124 17 ls (.int (0 : Int32) :: st) h K := tm_ic o124_16 (by decide)
theorem o124_17 : tm_op 124 17 = some (.ireturn, (0, 0, 0, 0)) := rfl
theorem r124_17 (d : Nat) (v : Int32) (ls : tm_Lo) (h : tm_H) (K : Option Value → tm_H → Prop) : tm_A d 124 17 ls [.int v] h K ↔ (v = 0 ∨ v = 1) ∧ K (some (.int v)) h := tm_retz o124_17 rfl
theorem o125_0 : tm_op 125 0 = some (.iload_n 1, (0, 0, 0, 0)) := rfl
theorem r125_0 (d : Nat) (v : Int32) (l0 l2 l3 : Option Value) (st : List Value) (h : tm_H) (K : Option Value → tm_H → Prop) : tm_A d 125 0 [l0, some (.int v), l2, l3] st h K ↔ tm_A d 125 1 [l0, some (.int v), l2, l3] (.int v :: st) h K := tm_s o125_0 rfl rfl rfl
theorem o125_1 : tm_op 125 1 = some (.istore_n 2, (0, 0, 0, 0)) := rfl
theorem r125_1 (d : Nat) (v : Int32) (l0 l1 l2 l3 : Option Value) (st : List Value) (h : tm_H) (K : Option Value → tm_H → Prop) : tm_A d 125 1 [l0, l1, l2, l3] (.int v :: st) h K ↔ tm_A d 125 2 [l0, l1, some (.int v), l3] st h K := tm_s o125_1 rfl rfl rfl
theorem o125_2 : tm_op 125 2 = some (.iconst 0, (0, 0, 0, 0)) := rfl
theorem r125_2 (d : Nat) (ls : tm_Lo) (st : List Value) (h : tm_H) (K : Option Value → tm_H → Prop) : tm_A d 125 2 ls st h K ↔ tm_A d 125 3 ls (.int (0 : Int32) :: st) h K := tm_ic o125_2 (by decide)
theorem o125_3 : tm_op 125 3 = some (.istore_n 3, (0, 0, 0, 0)) := rfl
theorem r125_3 (d : Nat) (v : Int32) (l0 l1 l2 l3 : Option Value) (st : List Value) (h : tm_H) (K : Option Value → tm_H → Prop) : tm_A d 125 3 [l0, l1, l2, l3] (.int v :: st) h K ↔ tm_A d 125 4 [l0, l1, l2, some (.int v)] st h K := tm_s o125_3 rfl rfl rfl
theorem o125_4 : tm_op 125 4 = some (.aload_n 0, (0, 0, 0, 0)) := rfl
theorem r125_4 (d : Nat) (v : Nat) (l1 l2 l3 : Option Value) (st : List Value) (h : tm_H) (K : Option Value → tm_H → Prop) : tm_A d 125 4 [some (.ref v), l1, l2, l3] st h K ↔ tm_A d 125 5 [some (.ref v), l1, l2, l3] (.ref v :: st) h K := tm_s o125_4 rfl rfl rfl
theorem o125_5 : tm_op 125 5 = some (.iload_n 2, (0, 0, 0, 0)) := rfl
theorem r125_5 (d : Nat) (v : Int32) (l0 l1 l3 : Option Value) (st : List Value) (h : tm_H) (K : Option Value → tm_H → Prop) : tm_A d 125 5 [l0, l1, some (.int v), l3] st h K ↔ tm_A d 125 6 [l0, l1, some (.int v), l3] (.int v :: st) h K := tm_s o125_5 rfl rfl rfl
theorem o125_6 : tm_op 125 6 = some (.invokevirtual 97, (2, 122, 2, 10)) := rfl
theorem r125_6 (d : Nat) (v1 : Int32) (a : Nat) (ls : tm_Lo) (st : List Value) (h : tm_H) (K : Option Value → tm_H → Prop) : tm_A (d + 1) 125 6 ls (.int v1 :: .ref a :: st) h K ↔ (h.1.2.2 a = (0, 10) ∧ tm_cs st) ∧ tm_R d 122 [.ref a, .int v1] h (fun r h' => tm_A (d + 1) 125 9 ls (r.toList ++ st) h' K) := tm_callV (as := [.int v1]) o125_6 rfl rfl rfl rfl
theorem o125_9 : tm_op 125 9 = some (.invokestatic 101, (1, 123, 1, 0)) := rfl
theorem r125_9 (d : Nat) (v0 : Int32) (ls : tm_Lo) (st : List Value) (h : tm_H) (K : Option Value → tm_H → Prop) : tm_A (d + 1) 125 9 ls (.int v0 :: st) h K ↔ tm_cs st ∧ tm_R d 123 [.int v0] h (fun r h' => tm_A (d + 1) 125 12 ls (r.toList ++ st) h' K) := tm_callS (as := [.int v0]) o125_9 rfl rfl rfl rfl
theorem o125_12 : tm_op 125 12 = some (.ifCond .eq 37, (0, 0, 0, 0)) := rfl
theorem r125_12 (d : Nat) (x : Int32) (ls : tm_Lo) (st : List Value) (h : tm_H) (K : Option Value → tm_H → Prop) : tm_A d 125 12 ls (.int x :: st) h K ↔ if x = 0 then tm_A d 125 49 ls st h K else tm_A d 125 15 ls st h K := tm_b o125_12 rfl rfl rfl rfl
theorem o125_15 : tm_op 125 15 = some (.iload_n 2, (0, 0, 0, 0)) := rfl
theorem r125_15 (d : Nat) (v : Int32) (l0 l1 l3 : Option Value) (st : List Value) (h : tm_H) (K : Option Value → tm_H → Prop) : tm_A d 125 15 [l0, l1, some (.int v), l3] st h K ↔ tm_A d 125 16 [l0, l1, some (.int v), l3] (.int v :: st) h K := tm_s o125_15 rfl rfl rfl
theorem o125_16 : tm_op 125 16 = some (.iload_n 1, (0, 0, 0, 0)) := rfl
theorem r125_16 (d : Nat) (v : Int32) (l0 l2 l3 : Option Value) (st : List Value) (h : tm_H) (K : Option Value → tm_H → Prop) : tm_A d 125 16 [l0, some (.int v), l2, l3] st h K ↔ tm_A d 125 17 [l0, some (.int v), l2, l3] (.int v :: st) h K := tm_s o125_16 rfl rfl rfl
theorem o125_17 : tm_op 125 17 = some (.isub, (0, 0, 0, 0)) := rfl
theorem r125_17 (d : Nat) (u v : Int32) (ls : tm_Lo) (st : List Value) (h : tm_H) (K : Option Value → tm_H → Prop) : tm_A d 125 17 ls (.int u :: .int v :: st) h K ↔ tm_A d 125 18 ls (.int (v - u) :: st) h K := tm_s o125_17 rfl rfl rfl
theorem o125_18 : tm_op 125 18 = some (.iconst 4, (0, 0, 0, 0)) := rfl
theorem r125_18 (d : Nat) (ls : tm_Lo) (st : List Value) (h : tm_H) (K : Option Value → tm_H → Prop) : tm_A d 125 18 ls st h K ↔ tm_A d 125 19 ls (.int (4 : Int32) :: st) h K := tm_ic o125_18 (by decide)
theorem o125_19 : tm_op 125 19 = some (.if_icmp .ge 20, (0, 0, 0, 0)) := rfl
theorem r125_19 (d : Nat) (y x : Int32) (ls : tm_Lo) (st : List Value) (h : tm_H) (K : Option Value → tm_H → Prop) : tm_A d 125 19 ls (.int y :: .int x :: st) h K ↔ if y ≤ x then tm_A d 125 39 ls st h K else tm_A d 125 22 ls st h K := tm_b o125_19 rfl rfl rfl rfl
theorem o125_22 : tm_op 125 22 = some (.bipush 10, (0, 0, 0, 0)) := rfl
theorem r125_22 (d : Nat) (ls : tm_Lo) (st : List Value) (h : tm_H) (K : Option Value → tm_H → Prop) : tm_A d 125 22 ls st h K ↔ tm_A d 125 24 ls (.int (10 : Int32) :: st) h K := tm_bp o125_22 (by decide)
theorem o125_24 : tm_op 125 24 = some (.iload_n 3, (0, 0, 0, 0)) := rfl
theorem r125_24 (d : Nat) (v : Int32) (l0 l1 l2 : Option Value) (st : List Value) (h : tm_H) (K : Option Value → tm_H → Prop) : tm_A d 125 24 [l0, l1, l2, some (.int v)] st h K ↔ tm_A d 125 25 [l0, l1, l2, some (.int v)] (.int v :: st) h K := tm_s o125_24 rfl rfl rfl
theorem o125_25 : tm_op 125 25 = some (.imul, (0, 0, 0, 0)) := rfl
theorem r125_25 (d : Nat) (u v : Int32) (ls : tm_Lo) (st : List Value) (h : tm_H) (K : Option Value → tm_H → Prop) : tm_A d 125 25 ls (.int u :: .int v :: st) h K ↔ tm_A d 125 26 ls (.int (v * u) :: st) h K := tm_s o125_25 rfl rfl rfl
theorem o125_26 : tm_op 125 26 = some (.aload_n 0, (0, 0, 0, 0)) := rfl
theorem r125_26 (d : Nat) (v : Nat) (l1 l2 l3 : Option Value) (st : List Value) (h : tm_H) (K : Option Value → tm_H → Prop) : tm_A d 125 26 [some (.ref v), l1, l2, l3] st h K ↔ tm_A d 125 27 [some (.ref v), l1, l2, l3] (.ref v :: st) h K := tm_s o125_26 rfl rfl rfl
theorem o125_27 : tm_op 125 27 = some (.getfield 16, (2, 10, 5, 0)) := rfl
theorem r125_27 (d : Nat) (a : Nat) (ls : tm_Lo) (st : List Value) (G : tm_G) (I : Nat → Nat → Int32) (J : Nat → Nat → Int64) (R : Nat → Nat → Option Nat) (K : Option Value → tm_H → Prop) : tm_A d 125 27 ls (.ref a :: st) (G, I, J, R) K ↔ G.2.2 a = (0, 10) ∧ tm_A d 125 30 ls (tm_rf (R a 5) :: st) (G, I, J, R) K := tm_getR o125_27
theorem o125_30 : tm_op 125 30 = some (.iload_n 2, (0, 0, 0, 0)) := rfl
theorem r125_30 (d : Nat) (v : Int32) (l0 l1 l3 : Option Value) (st : List Value) (h : tm_H) (K : Option Value → tm_H → Prop) : tm_A d 125 30 [l0, l1, some (.int v), l3] st h K ↔ tm_A d 125 31 [l0, l1, some (.int v), l3] (.int v :: st) h K := tm_s o125_30 rfl rfl rfl
theorem o125_31 : tm_op 125 31 = some (.iaload, (0, 0, 0, 0)) := rfl
theorem r125_31 (d : Nat) (v : Int32) (a : Nat) (ls : tm_Lo) (st : List Value) (G : tm_G) (I : Nat → Nat → Int32) (J : Nat → Nat → Int64) (R : Nat → Nat → Option Nat) (K : Option Value → tm_H → Prop) : tm_A d 125 31 ls (.int v :: .ref a :: st) (G, I, J, R) K ↔ ((G.2.2 a).1 = 1 ∧ tm_in v (G.2.2 a).2) ∧ tm_A d 125 32 ls (.int (I a (tm_ix v)) :: st) (G, I, J, R) K := tm_iald o125_31
theorem o125_32 : tm_op 125 32 = some (.iadd, (0, 0, 0, 0)) := rfl
theorem r125_32 (d : Nat) (u v : Int32) (ls : tm_Lo) (st : List Value) (h : tm_H) (K : Option Value → tm_H → Prop) : tm_A d 125 32 ls (.int u :: .int v :: st) h K ↔ tm_A d 125 33 ls (.int (v + u) :: st) h K := tm_s o125_32 rfl rfl rfl
theorem o125_33 : tm_op 125 33 = some (.bipush 48, (0, 0, 0, 0)) := rfl
theorem r125_33 (d : Nat) (ls : tm_Lo) (st : List Value) (h : tm_H) (K : Option Value → tm_H → Prop) : tm_A d 125 33 ls st h K ↔ tm_A d 125 35 ls (.int (48 : Int32) :: st) h K := tm_bp o125_33 (by decide)
theorem o125_35 : tm_op 125 35 = some (.isub, (0, 0, 0, 0)) := rfl
theorem r125_35 (d : Nat) (u v : Int32) (ls : tm_Lo) (st : List Value) (h : tm_H) (K : Option Value → tm_H → Prop) : tm_A d 125 35 ls (.int u :: .int v :: st) h K ↔ tm_A d 125 36 ls (.int (v - u) :: st) h K := tm_s o125_35 rfl rfl rfl
theorem o125_36 : tm_op 125 36 = some (.goto 6, (0, 0, 0, 0)) := rfl
theorem r125_36 (d : Nat) (ls : tm_Lo) (st : List Value) (h : tm_H) (K : Option Value → tm_H → Prop) : tm_A d 125 36 ls st h K ↔ tm_A d 125 42 ls st h K := tm_s o125_36 rfl rfl rfl
theorem o125_39 : tm_op 125 39 = some (.sipush 10000, (0, 0, 0, 0)) := rfl
theorem r125_39 (d : Nat) (ls : tm_Lo) (st : List Value) (h : tm_H) (K : Option Value → tm_H → Prop) : tm_A d 125 39 ls st h K ↔ tm_A d 125 42 ls (.int (10000 : Int32) :: st) h K := tm_sp o125_39 (by decide)
theorem o125_42 : tm_op 125 42 = some (.istore_n 3, (0, 0, 0, 0)) := rfl
theorem r125_42 (d : Nat) (v : Int32) (l0 l1 l2 l3 : Option Value) (st : List Value) (h : tm_H) (K : Option Value → tm_H → Prop) : tm_A d 125 42 [l0, l1, l2, l3] (.int v :: st) h K ↔ tm_A d 125 43 [l0, l1, l2, some (.int v)] st h K := tm_s o125_42 rfl rfl rfl
theorem o125_43 : tm_op 125 43 = some (.iinc 2 1, (0, 0, 0, 0)) := rfl
theorem r125_43 (d : Nat) (v : Int32) (l0 l1 l3 : Option Value) (st : List Value) (h : tm_H) (K : Option Value → tm_H → Prop) : tm_A d 125 43 [l0, l1, some (.int v), l3] st h K ↔ tm_A d 125 46 [l0, l1, some (.int (v + (1 : Int32))), l3] st h K := tm_s o125_43 rfl rfl rfl
theorem o125_46 : tm_op 125 46 = some (.goto (-42), (0, 0, 0, 0)) := rfl
theorem r125_46 (d : Nat) (ls : tm_Lo) (st : List Value) (h : tm_H) (K : Option Value → tm_H → Prop) : tm_A d 125 46 ls st h K ↔ tm_A d 125 4 ls st h K := tm_s o125_46 rfl rfl rfl
theorem o125_49 : tm_op 125 49 = some (.aload_n 0, (0, 0, 0, 0)) := rfl
theorem r125_49 (d : Nat) (v : Nat) (l1 l2 l3 : Option Value) (st : List Value) (h : tm_H) (K : Option Value → tm_H → Prop) : tm_A d 125 49 [some (.ref v), l1, l2, l3] st h K ↔ tm_A d 125 50 [some (.ref v), l1, l2, l3] (.ref v :: st) h K := tm_s o125_49 rfl rfl rfl
theorem o125_50 : tm_op 125 50 = some (.iload_n 2, (0, 0, 0, 0)) := rfl
theorem r125_50 (d : Nat) (v : Int32) (l0 l1 l3 : Option Value) (st : List Value) (h : tm_H) (K : Option Value → tm_H → Prop) : tm_A d 125 50 [l0, l1, some (.int v), l3] st h K ↔ tm_A d 125 51 [l0, l1, some (.int v), l3] (.int v :: st) h K := tm_s o125_50 rfl rfl rfl
theorem o125_51 : tm_op 125 51 = some (.iload_n 1, (0, 0, 0, 0)) := rfl
theorem r125_51 (d : Nat) (v : Int32) (l0 l2 l3 : Option Value) (st : List Value) (h : tm_H) (K : Option Value → tm_H → Prop) : tm_A d 125 51 [l0, some (.int v), l2, l3] st h K ↔ tm_A d 125 52 [l0, some (.int v), l2, l3] (.int v :: st) h K := tm_s o125_51 rfl rfl rfl
theorem o125_52 : tm_op 125 52 = some (.if_icmp .ne 9, (0, 0, 0, 0)) := rfl
theorem r125_52 (d : Nat) (y x : Int32) (ls : tm_Lo) (st : List Value) (h : tm_H) (K : Option Value → tm_H → Prop) : tm_A d 125 52 ls (.int y :: .int x :: st) h K ↔ if ¬ x = y then tm_A d 125 61 ls st h K else tm_A d 125 55 ls st h K := tm_b o125_52 rfl rfl rfl rfl
theorem o125_55 : tm_op 125 55 = some (.sipush 10000, (0, 0, 0, 0)) := rfl
theorem r125_55 (d : Nat) (ls : tm_Lo) (st : List Value) (h : tm_H) (K : Option Value → tm_H → Prop) : tm_A d 125 55 ls st h K ↔ tm_A d 125 58 ls (.int (10000 : Int32) :: st) h K := tm_sp o125_55 (by decide)
theorem o125_58 : tm_op 125 58 = some (.goto 4, (0, 0, 0, 0)) := rfl
theorem r125_58 (d : Nat) (ls : tm_Lo) (st : List Value) (h : tm_H) (K : Option Value → tm_H → Prop) : tm_A d 125 58 ls st h K ↔ tm_A d 125 62 ls st h K := tm_s o125_58 rfl rfl rfl
theorem o125_61 : tm_op 125 61 = some (.iload_n 3, (0, 0, 0, 0)) := rfl
theorem r125_61 (d : Nat) (v : Int32) (l0 l1 l2 : Option Value) (st : List Value) (h : tm_H) (K : Option Value → tm_H → Prop) : tm_A d 125 61 [l0, l1, l2, some (.int v)] st h K ↔ tm_A d 125 62 [l0, l1, l2, some (.int v)] (.int v :: st) h K := tm_s o125_61 rfl rfl rfl
theorem o125_62 : tm_op 125 62 = some (.putfield 105, (0, 10, 13, 0)) := rfl
theorem r125_62 (d : Nat) (v : Int32) (a : Nat) (ls : tm_Lo) (st : List Value) (G : tm_G) (I : Nat → Nat → Int32) (J : Nat → Nat → Int64) (R : Nat → Nat → Option Nat) (K : Option Value → tm_H → Prop) : tm_A d 125 62 ls (.int v :: .ref a :: st) (G, I, J, R) K ↔ G.2.2 a = (0, 10) ∧ tm_A d 125 65 ls st (G, up2 I a 13 v, J, R) K := tm_putI o125_62
theorem o125_65 : tm_op 125 65 = some (.iload_n 2, (0, 0, 0, 0)) := rfl
theorem r125_65 (d : Nat) (v : Int32) (l0 l1 l3 : Option Value) (st : List Value) (h : tm_H) (K : Option Value → tm_H → Prop) : tm_A d 125 65 [l0, l1, some (.int v), l3] st h K ↔ tm_A d 125 66 [l0, l1, some (.int v), l3] (.int v :: st) h K := tm_s o125_65 rfl rfl rfl
theorem o125_66 : tm_op 125 66 = some (.ireturn, (0, 0, 0, 0)) := rfl
theorem r125_66 (d : Nat) (v : Int32) (ls : tm_Lo) (h : tm_H) (K : Option Value → tm_H → Prop) : tm_A d 125 66 ls [.int v] h K ↔ K (some (.int v)) h := tm_reti o125_66 rfl
theorem o126_0 : tm_op 126 0 = some (.iload_n 0, (0, 0, 0, 0)) := rfl
theorem r126_0 (d : Nat) (v : Int32) (st : List Value) (h : tm_H) (K : Option Value → tm_H → Prop) : tm_A d 126 0 [some (.int v)] st h K ↔ tm_A d 126 1 [some (.int v)] (.int v :: st) h K := tm_s o126_0 rfl rfl rfl
theorem o126_1 : tm_op 126 1 = some (.ifCond .ne 8, (0, 0, 0, 0)) := rfl
theorem r126_1 (d : Nat) (x : Int32) (ls : tm_Lo) (st : List Value) (h : tm_H) (K : Option Value → tm_H → Prop) : tm_A d 126 1 ls (.int x :: st) h K ↔ if ¬ x = 0 then tm_A d 126 9 ls st h K else tm_A d 126 4 ls st h K := tm_b o126_1 rfl rfl rfl rfl
theorem o126_4 : tm_op 126 4 = some (.bipush 99, (0, 0, 0, 0)) := rfl
theorem r126_4 (d : Nat) (ls : tm_Lo) (st : List Value) (h : tm_H) (K : Option Value → tm_H → Prop) : tm_A d 126 4 ls st h K ↔ tm_A d 126 6 ls (.int (99 : Int32) :: st) h K := tm_bp o126_4 (by decide)
theorem o126_6 : tm_op 126 6 = some (.goto 26, (0, 0, 0, 0)) := rfl
theorem r126_6 (d : Nat) (ls : tm_Lo) (st : List Value) (h : tm_H) (K : Option Value → tm_H → Prop) : tm_A d 126 6 ls st h K ↔ tm_A d 126 32 ls st h K := tm_s o126_6 rfl rfl rfl
theorem o126_9 : tm_op 126 9 = some (.iload_n 0, (0, 0, 0, 0)) := rfl
theorem r126_9 (d : Nat) (v : Int32) (st : List Value) (h : tm_H) (K : Option Value → tm_H → Prop) : tm_A d 126 9 [some (.int v)] st h K ↔ tm_A d 126 10 [some (.int v)] (.int v :: st) h K := tm_s o126_9 rfl rfl rfl
theorem o126_10 : tm_op 126 10 = some (.iconst 1, (0, 0, 0, 0)) := rfl
theorem r126_10 (d : Nat) (ls : tm_Lo) (st : List Value) (h : tm_H) (K : Option Value → tm_H → Prop) : tm_A d 126 10 ls st h K ↔ tm_A d 126 11 ls (.int (1 : Int32) :: st) h K := tm_ic o126_10 (by decide)
theorem o126_11 : tm_op 126 11 = some (.if_icmp .ne 9, (0, 0, 0, 0)) := rfl
theorem r126_11 (d : Nat) (y x : Int32) (ls : tm_Lo) (st : List Value) (h : tm_H) (K : Option Value → tm_H → Prop) : tm_A d 126 11 ls (.int y :: .int x :: st) h K ↔ if ¬ x = y then tm_A d 126 20 ls st h K else tm_A d 126 14 ls st h K := tm_b o126_11 rfl rfl rfl rfl
theorem o126_14 : tm_op 126 14 = some (.sipush 999, (0, 0, 0, 0)) := rfl
theorem r126_14 (d : Nat) (ls : tm_Lo) (st : List Value) (h : tm_H) (K : Option Value → tm_H → Prop) : tm_A d 126 14 ls st h K ↔ tm_A d 126 17 ls (.int (999 : Int32) :: st) h K := tm_sp o126_14 (by decide)
theorem o126_17 : tm_op 126 17 = some (.goto 15, (0, 0, 0, 0)) := rfl
theorem r126_17 (d : Nat) (ls : tm_Lo) (st : List Value) (h : tm_H) (K : Option Value → tm_H → Prop) : tm_A d 126 17 ls st h K ↔ tm_A d 126 32 ls st h K := tm_s o126_17 rfl rfl rfl
theorem o126_20 : tm_op 126 20 = some (.iload_n 0, (0, 0, 0, 0)) := rfl
theorem r126_20 (d : Nat) (v : Int32) (st : List Value) (h : tm_H) (K : Option Value → tm_H → Prop) : tm_A d 126 20 [some (.int v)] st h K ↔ tm_A d 126 21 [some (.int v)] (.int v :: st) h K := tm_s o126_20 rfl rfl rfl
theorem o126_21 : tm_op 126 21 = some (.iconst 2, (0, 0, 0, 0)) := rfl
theorem r126_21 (d : Nat) (ls : tm_Lo) (st : List Value) (h : tm_H) (K : Option Value → tm_H → Prop) : tm_A d 126 21 ls st h K ↔ tm_A d 126 22 ls (.int (2 : Int32) :: st) h K := tm_ic o126_21 (by decide)
theorem o126_22 : tm_op 126 22 = some (.if_icmp .ne 9, (0, 0, 0, 0)) := rfl
theorem r126_22 (d : Nat) (y x : Int32) (ls : tm_Lo) (st : List Value) (h : tm_H) (K : Option Value → tm_H → Prop) : tm_A d 126 22 ls (.int y :: .int x :: st) h K ↔ if ¬ x = y then tm_A d 126 31 ls st h K else tm_A d 126 25 ls st h K := tm_b o126_22 rfl rfl rfl rfl
theorem o126_25 : tm_op 126 25 = some (.sipush 9999, (0, 0, 0, 0)) := rfl
theorem r126_25 (d : Nat) (ls : tm_Lo) (st : List Value) (h : tm_H) (K : Option Value → tm_H → Prop) : tm_A d 126 25 ls st h K ↔ tm_A d 126 28 ls (.int (9999 : Int32) :: st) h K := tm_sp o126_25 (by decide)
theorem o126_28 : tm_op 126 28 = some (.goto 4, (0, 0, 0, 0)) := rfl
theorem r126_28 (d : Nat) (ls : tm_Lo) (st : List Value) (h : tm_H) (K : Option Value → tm_H → Prop) : tm_A d 126 28 ls st h K ↔ tm_A d 126 32 ls st h K := tm_s o126_28 rfl rfl rfl
theorem o126_31 : tm_op 126 31 = some (.iconst 2, (0, 0, 0, 0)) := rfl
theorem r126_31 (d : Nat) (ls : tm_Lo) (st : List Value) (h : tm_H) (K : Option Value → tm_H → Prop) : tm_A d 126 31 ls st h K ↔ tm_A d 126 32 ls (.int (2 : Int32) :: st) h K := tm_ic o126_31 (by decide)
theorem o126_32 : tm_op 126 32 = some (.ireturn, (0, 0, 0, 0)) := rfl
theorem r126_32 (d : Nat) (v : Int32) (ls : tm_Lo) (h : tm_H) (K : Option Value → tm_H → Prop) : tm_A d 126 32 ls [.int v] h K ↔ K (some (.int v)) h := tm_reti o126_32 rfl
theorem o127_0 : tm_op 127 0 = some (.aload_n 0, (0, 0, 0, 0)) := rfl
theorem r127_0 (d : Nat) (v : Nat) (l1 l2 l3 l4 : Option Value) (st : List Value) (h : tm_H) (K : Option Value → tm_H → Prop) : tm_A d 127 0 [some (.ref v), l1, l2, l3, l4] st h K ↔ tm_A d 127 1 [some (.ref v), l1, l2, l3, l4] (.ref v :: st) h K := tm_s o127_0 rfl rfl rfl
theorem o127_1 : tm_op 127 1 = some (.getfield 16, (2, 10, 5, 0)) := rfl
theorem r127_1 (d : Nat) (a : Nat) (ls : tm_Lo) (st : List Value) (G : tm_G) (I : Nat → Nat → Int32) (J : Nat → Nat → Int64) (R : Nat → Nat → Option Nat) (K : Option Value → tm_H → Prop) : tm_A d 127 1 ls (.ref a :: st) (G, I, J, R) K ↔ G.2.2 a = (0, 10) ∧ tm_A d 127 4 ls (tm_rf (R a 5) :: st) (G, I, J, R) K := tm_getR o127_1
theorem o127_4 : tm_op 127 4 = some (.iload_n 1, (0, 0, 0, 0)) := rfl
theorem r127_4 (d : Nat) (v : Int32) (l0 l2 l3 l4 : Option Value) (st : List Value) (h : tm_H) (K : Option Value → tm_H → Prop) : tm_A d 127 4 [l0, some (.int v), l2, l3, l4] st h K ↔ tm_A d 127 5 [l0, some (.int v), l2, l3, l4] (.int v :: st) h K := tm_s o127_4 rfl rfl rfl
theorem o127_5 : tm_op 127 5 = some (.iaload, (0, 0, 0, 0)) := rfl
theorem r127_5 (d : Nat) (v : Int32) (a : Nat) (ls : tm_Lo) (st : List Value) (G : tm_G) (I : Nat → Nat → Int32) (J : Nat → Nat → Int64) (R : Nat → Nat → Option Nat) (K : Option Value → tm_H → Prop) : tm_A d 127 5 ls (.int v :: .ref a :: st) (G, I, J, R) K ↔ ((G.2.2 a).1 = 1 ∧ tm_in v (G.2.2 a).2) ∧ tm_A d 127 6 ls (.int (I a (tm_ix v)) :: st) (G, I, J, R) K := tm_iald o127_5
theorem o127_6 : tm_op 127 6 = some (.istore_n 2, (0, 0, 0, 0)) := rfl
theorem r127_6 (d : Nat) (v : Int32) (l0 l1 l2 l3 l4 : Option Value) (st : List Value) (h : tm_H) (K : Option Value → tm_H → Prop) : tm_A d 127 6 [l0, l1, l2, l3, l4] (.int v :: st) h K ↔ tm_A d 127 7 [l0, l1, some (.int v), l3, l4] st h K := tm_s o127_6 rfl rfl rfl
theorem o127_7 : tm_op 127 7 = some (.iload_n 2, (0, 0, 0, 0)) := rfl
theorem r127_7 (d : Nat) (v : Int32) (l0 l1 l3 l4 : Option Value) (st : List Value) (h : tm_H) (K : Option Value → tm_H → Prop) : tm_A d 127 7 [l0, l1, some (.int v), l3, l4] st h K ↔ tm_A d 127 8 [l0, l1, some (.int v), l3, l4] (.int v :: st) h K := tm_s o127_7 rfl rfl rfl
theorem o127_8 : tm_op 127 8 = some (.bipush 112, (0, 0, 0, 0)) := rfl
theorem r127_8 (d : Nat) (ls : tm_Lo) (st : List Value) (h : tm_H) (K : Option Value → tm_H → Prop) : tm_A d 127 8 ls st h K ↔ tm_A d 127 10 ls (.int (112 : Int32) :: st) h K := tm_bp o127_8 (by decide)
theorem o127_10 : tm_op 127 10 = some (.if_icmp .ne 7, (0, 0, 0, 0)) := rfl
theorem r127_10 (d : Nat) (y x : Int32) (ls : tm_Lo) (st : List Value) (h : tm_H) (K : Option Value → tm_H → Prop) : tm_A d 127 10 ls (.int y :: .int x :: st) h K ↔ if ¬ x = y then tm_A d 127 17 ls st h K else tm_A d 127 13 ls st h K := tm_b o127_10 rfl rfl rfl rfl
theorem o127_13 : tm_op 127 13 = some (.iconst 0, (0, 0, 0, 0)) := rfl
theorem r127_13 (d : Nat) (ls : tm_Lo) (st : List Value) (h : tm_H) (K : Option Value → tm_H → Prop) : tm_A d 127 13 ls st h K ↔ tm_A d 127 14 ls (.int (0 : Int32) :: st) h K := tm_ic o127_13 (by decide)
theorem o127_14 : tm_op 127 14 = some (.goto 44, (0, 0, 0, 0)) := rfl
theorem r127_14 (d : Nat) (ls : tm_Lo) (st : List Value) (h : tm_H) (K : Option Value → tm_H → Prop) : tm_A d 127 14 ls st h K ↔ tm_A d 127 58 ls st h K := tm_s o127_14 rfl rfl rfl
theorem o127_17 : tm_op 127 17 = some (.iload_n 2, (0, 0, 0, 0)) := rfl
theorem r127_17 (d : Nat) (v : Int32) (l0 l1 l3 l4 : Option Value) (st : List Value) (h : tm_H) (K : Option Value → tm_H → Prop) : tm_A d 127 17 [l0, l1, some (.int v), l3, l4] st h K ↔ tm_A d 127 18 [l0, l1, some (.int v), l3, l4] (.int v :: st) h K := tm_s o127_17 rfl rfl rfl
theorem o127_18 : tm_op 127 18 = some (.bipush 100, (0, 0, 0, 0)) := rfl
theorem r127_18 (d : Nat) (ls : tm_Lo) (st : List Value) (h : tm_H) (K : Option Value → tm_H → Prop) : tm_A d 127 18 ls st h K ↔ tm_A d 127 20 ls (.int (100 : Int32) :: st) h K := tm_bp o127_18 (by decide)
theorem o127_20 : tm_op 127 20 = some (.if_icmp .ne 7, (0, 0, 0, 0)) := rfl
theorem r127_20 (d : Nat) (y x : Int32) (ls : tm_Lo) (st : List Value) (h : tm_H) (K : Option Value → tm_H → Prop) : tm_A d 127 20 ls (.int y :: .int x :: st) h K ↔ if ¬ x = y then tm_A d 127 27 ls st h K else tm_A d 127 23 ls st h K := tm_b o127_20 rfl rfl rfl rfl
theorem o127_23 : tm_op 127 23 = some (.iconst 1, (0, 0, 0, 0)) := rfl
theorem r127_23 (d : Nat) (ls : tm_Lo) (st : List Value) (h : tm_H) (K : Option Value → tm_H → Prop) : tm_A d 127 23 ls st h K ↔ tm_A d 127 24 ls (.int (1 : Int32) :: st) h K := tm_ic o127_23 (by decide)
theorem o127_24 : tm_op 127 24 = some (.goto 34, (0, 0, 0, 0)) := rfl
theorem r127_24 (d : Nat) (ls : tm_Lo) (st : List Value) (h : tm_H) (K : Option Value → tm_H → Prop) : tm_A d 127 24 ls st h K ↔ tm_A d 127 58 ls st h K := tm_s o127_24 rfl rfl rfl
theorem o127_27 : tm_op 127 27 = some (.iload_n 2, (0, 0, 0, 0)) := rfl
theorem r127_27 (d : Nat) (v : Int32) (l0 l1 l3 l4 : Option Value) (st : List Value) (h : tm_H) (K : Option Value → tm_H → Prop) : tm_A d 127 27 [l0, l1, some (.int v), l3, l4] st h K ↔ tm_A d 127 28 [l0, l1, some (.int v), l3, l4] (.int v :: st) h K := tm_s o127_27 rfl rfl rfl
theorem o127_28 : tm_op 127 28 = some (.bipush 110, (0, 0, 0, 0)) := rfl
theorem r127_28 (d : Nat) (ls : tm_Lo) (st : List Value) (h : tm_H) (K : Option Value → tm_H → Prop) : tm_A d 127 28 ls st h K ↔ tm_A d 127 30 ls (.int (110 : Int32) :: st) h K := tm_bp o127_28 (by decide)
theorem o127_30 : tm_op 127 30 = some (.if_icmp .ne 7, (0, 0, 0, 0)) := rfl
theorem r127_30 (d : Nat) (y x : Int32) (ls : tm_Lo) (st : List Value) (h : tm_H) (K : Option Value → tm_H → Prop) : tm_A d 127 30 ls (.int y :: .int x :: st) h K ↔ if ¬ x = y then tm_A d 127 37 ls st h K else tm_A d 127 33 ls st h K := tm_b o127_30 rfl rfl rfl rfl
theorem o127_33 : tm_op 127 33 = some (.iconst 2, (0, 0, 0, 0)) := rfl
theorem r127_33 (d : Nat) (ls : tm_Lo) (st : List Value) (h : tm_H) (K : Option Value → tm_H → Prop) : tm_A d 127 33 ls st h K ↔ tm_A d 127 34 ls (.int (2 : Int32) :: st) h K := tm_ic o127_33 (by decide)
theorem o127_34 : tm_op 127 34 = some (.goto 24, (0, 0, 0, 0)) := rfl
theorem r127_34 (d : Nat) (ls : tm_Lo) (st : List Value) (h : tm_H) (K : Option Value → tm_H → Prop) : tm_A d 127 34 ls st h K ↔ tm_A d 127 58 ls st h K := tm_s o127_34 rfl rfl rfl
theorem o127_37 : tm_op 127 37 = some (.iload_n 2, (0, 0, 0, 0)) := rfl
theorem r127_37 (d : Nat) (v : Int32) (l0 l1 l3 l4 : Option Value) (st : List Value) (h : tm_H) (K : Option Value → tm_H → Prop) : tm_A d 127 37 [l0, l1, some (.int v), l3, l4] st h K ↔ tm_A d 127 38 [l0, l1, some (.int v), l3, l4] (.int v :: st) h K := tm_s o127_37 rfl rfl rfl
theorem o127_38 : tm_op 127 38 = some (.bipush 119, (0, 0, 0, 0)) := rfl
theorem r127_38 (d : Nat) (ls : tm_Lo) (st : List Value) (h : tm_H) (K : Option Value → tm_H → Prop) : tm_A d 127 38 ls st h K ↔ tm_A d 127 40 ls (.int (119 : Int32) :: st) h K := tm_bp o127_38 (by decide)
theorem o127_40 : tm_op 127 40 = some (.if_icmp .ne 7, (0, 0, 0, 0)) := rfl
theorem r127_40 (d : Nat) (y x : Int32) (ls : tm_Lo) (st : List Value) (h : tm_H) (K : Option Value → tm_H → Prop) : tm_A d 127 40 ls (.int y :: .int x :: st) h K ↔ if ¬ x = y then tm_A d 127 47 ls st h K else tm_A d 127 43 ls st h K := tm_b o127_40 rfl rfl rfl rfl
theorem o127_43 : tm_op 127 43 = some (.iconst 3, (0, 0, 0, 0)) := rfl
theorem r127_43 (d : Nat) (ls : tm_Lo) (st : List Value) (h : tm_H) (K : Option Value → tm_H → Prop) : tm_A d 127 43 ls st h K ↔ tm_A d 127 44 ls (.int (3 : Int32) :: st) h K := tm_ic o127_43 (by decide)
theorem o127_44 : tm_op 127 44 = some (.goto 14, (0, 0, 0, 0)) := rfl
theorem r127_44 (d : Nat) (ls : tm_Lo) (st : List Value) (h : tm_H) (K : Option Value → tm_H → Prop) : tm_A d 127 44 ls st h K ↔ tm_A d 127 58 ls st h K := tm_s o127_44 rfl rfl rfl
theorem o127_47 : tm_op 127 47 = some (.iload_n 2, (0, 0, 0, 0)) := rfl
theorem r127_47 (d : Nat) (v : Int32) (l0 l1 l3 l4 : Option Value) (st : List Value) (h : tm_H) (K : Option Value → tm_H → Prop) : tm_A d 127 47 [l0, l1, some (.int v), l3, l4] st h K ↔ tm_A d 127 48 [l0, l1, some (.int v), l3, l4] (.int v :: st) h K := tm_s o127_47 rfl rfl rfl
theorem o127_48 : tm_op 127 48 = some (.bipush 107, (0, 0, 0, 0)) := rfl
theorem r127_48 (d : Nat) (ls : tm_Lo) (st : List Value) (h : tm_H) (K : Option Value → tm_H → Prop) : tm_A d 127 48 ls st h K ↔ tm_A d 127 50 ls (.int (107 : Int32) :: st) h K := tm_bp o127_48 (by decide)
theorem o127_50 : tm_op 127 50 = some (.if_icmp .ne 7, (0, 0, 0, 0)) := rfl
theorem r127_50 (d : Nat) (y x : Int32) (ls : tm_Lo) (st : List Value) (h : tm_H) (K : Option Value → tm_H → Prop) : tm_A d 127 50 ls (.int y :: .int x :: st) h K ↔ if ¬ x = y then tm_A d 127 57 ls st h K else tm_A d 127 53 ls st h K := tm_b o127_50 rfl rfl rfl rfl
theorem o127_53 : tm_op 127 53 = some (.iconst 4, (0, 0, 0, 0)) := rfl
theorem r127_53 (d : Nat) (ls : tm_Lo) (st : List Value) (h : tm_H) (K : Option Value → tm_H → Prop) : tm_A d 127 53 ls st h K ↔ tm_A d 127 54 ls (.int (4 : Int32) :: st) h K := tm_ic o127_53 (by decide)
theorem o127_54 : tm_op 127 54 = some (.goto 4, (0, 0, 0, 0)) := rfl
theorem r127_54 (d : Nat) (ls : tm_Lo) (st : List Value) (h : tm_H) (K : Option Value → tm_H → Prop) : tm_A d 127 54 ls st h K ↔ tm_A d 127 58 ls st h K := tm_s o127_54 rfl rfl rfl
theorem o127_57 : tm_op 127 57 = some (.iconst (-1), (0, 0, 0, 0)) := rfl
theorem r127_57 (d : Nat) (ls : tm_Lo) (st : List Value) (h : tm_H) (K : Option Value → tm_H → Prop) : tm_A d 127 57 ls st h K ↔ tm_A d 127 58 ls (.int (-1 : Int32) :: st) h K := tm_ic o127_57 (by decide)
theorem o127_58 : tm_op 127 58 = some (.istore_n 3, (0, 0, 0, 0)) := rfl
theorem r127_58 (d : Nat) (v : Int32) (l0 l1 l2 l3 l4 : Option Value) (st : List Value) (h : tm_H) (K : Option Value → tm_H → Prop) : tm_A d 127 58 [l0, l1, l2, l3, l4] (.int v :: st) h K ↔ tm_A d 127 59 [l0, l1, l2, some (.int v), l4] st h K := tm_s o127_58 rfl rfl rfl
theorem o127_59 : tm_op 127 59 = some (.iload_n 3, (0, 0, 0, 0)) := rfl
theorem r127_59 (d : Nat) (v : Int32) (l0 l1 l2 l4 : Option Value) (st : List Value) (h : tm_H) (K : Option Value → tm_H → Prop) : tm_A d 127 59 [l0, l1, l2, some (.int v), l4] st h K ↔ tm_A d 127 60 [l0, l1, l2, some (.int v), l4] (.int v :: st) h K := tm_s o127_59 rfl rfl rfl
theorem o127_60 : tm_op 127 60 = some (.iconst (-1), (0, 0, 0, 0)) := rfl
theorem r127_60 (d : Nat) (ls : tm_Lo) (st : List Value) (h : tm_H) (K : Option Value → tm_H → Prop) : tm_A d 127 60 ls st h K ↔ tm_A d 127 61 ls (.int (-1 : Int32) :: st) h K := tm_ic o127_60 (by decide)
theorem o127_61 : tm_op 127 61 = some (.if_icmp .eq 15, (0, 0, 0, 0)) := rfl
theorem r127_61 (d : Nat) (y x : Int32) (ls : tm_Lo) (st : List Value) (h : tm_H) (K : Option Value → tm_H → Prop) : tm_A d 127 61 ls (.int y :: .int x :: st) h K ↔ if x = y then tm_A d 127 76 ls st h K else tm_A d 127 64 ls st h K := tm_b o127_61 rfl rfl rfl rfl
theorem o127_64 : tm_op 127 64 = some (.aload_n 0, (0, 0, 0, 0)) := rfl
theorem r127_64 (d : Nat) (v : Nat) (l1 l2 l3 l4 : Option Value) (st : List Value) (h : tm_H) (K : Option Value → tm_H → Prop) : tm_A d 127 64 [some (.ref v), l1, l2, l3, l4] st h K ↔ tm_A d 127 65 [some (.ref v), l1, l2, l3, l4] (.ref v :: st) h K := tm_s o127_64 rfl rfl rfl
theorem o127_65 : tm_op 127 65 = some (.getfield 108, (0, 10, 7, 0)) := rfl
theorem r127_65 (d : Nat) (a : Nat) (ls : tm_Lo) (st : List Value) (G : tm_G) (I : Nat → Nat → Int32) (J : Nat → Nat → Int64) (R : Nat → Nat → Option Nat) (K : Option Value → tm_H → Prop) : tm_A d 127 65 ls (.ref a :: st) (G, I, J, R) K ↔ G.2.2 a = (0, 10) ∧ tm_A d 127 68 ls (.int (I a 7) :: st) (G, I, J, R) K := tm_getI o127_65
theorem o127_68 : tm_op 127 68 = some (.iload_n 3, (0, 0, 0, 0)) := rfl
theorem r127_68 (d : Nat) (v : Int32) (l0 l1 l2 l4 : Option Value) (st : List Value) (h : tm_H) (K : Option Value → tm_H → Prop) : tm_A d 127 68 [l0, l1, l2, some (.int v), l4] st h K ↔ tm_A d 127 69 [l0, l1, l2, some (.int v), l4] (.int v :: st) h K := tm_s o127_68 rfl rfl rfl
theorem o127_69 : tm_op 127 69 = some (.ishr, (0, 0, 0, 0)) := rfl
theorem r127_69 (d : Nat) (u v : Int32) (ls : tm_Lo) (st : List Value) (h : tm_H) (K : Option Value → tm_H → Prop) : tm_A d 127 69 ls (.int u :: .int v :: st) h K ↔ tm_A d 127 70 ls (.int (v >>> (u &&& 31)) :: st) h K := tm_s o127_69 rfl rfl rfl
theorem o127_70 : tm_op 127 70 = some (.iconst 1, (0, 0, 0, 0)) := rfl
theorem r127_70 (d : Nat) (ls : tm_Lo) (st : List Value) (h : tm_H) (K : Option Value → tm_H → Prop) : tm_A d 127 70 ls st h K ↔ tm_A d 127 71 ls (.int (1 : Int32) :: st) h K := tm_ic o127_70 (by decide)
theorem o127_71 : tm_op 127 71 = some (.iand, (0, 0, 0, 0)) := rfl
theorem r127_71 (d : Nat) (u v : Int32) (ls : tm_Lo) (st : List Value) (h : tm_H) (K : Option Value → tm_H → Prop) : tm_A d 127 71 ls (.int u :: .int v :: st) h K ↔ tm_A d 127 72 ls (.int (v &&& u) :: st) h K := tm_s o127_71 rfl rfl rfl
theorem o127_72 : tm_op 127 72 = some (.iconst 1, (0, 0, 0, 0)) := rfl
theorem r127_72 (d : Nat) (ls : tm_Lo) (st : List Value) (h : tm_H) (K : Option Value → tm_H → Prop) : tm_A d 127 72 ls st h K ↔ tm_A d 127 73 ls (.int (1 : Int32) :: st) h K := tm_ic o127_72 (by decide)
theorem o127_73 : tm_op 127 73 = some (.if_icmp .ne 5, (0, 0, 0, 0)) := rfl
theorem r127_73 (d : Nat) (y x : Int32) (ls : tm_Lo) (st : List Value) (h : tm_H) (K : Option Value → tm_H → Prop) : tm_A d 127 73 ls (.int y :: .int x :: st) h K ↔ if ¬ x = y then tm_A d 127 78 ls st h K else tm_A d 127 76 ls st h K := tm_b o127_73 rfl rfl rfl rfl
theorem o127_76 : tm_op 127 76 = some (.iconst (-1), (0, 0, 0, 0)) := rfl
theorem r127_76 (d : Nat) (ls : tm_Lo) (st : List Value) (h : tm_H) (K : Option Value → tm_H → Prop) : tm_A d 127 76 ls st h K ↔ tm_A d 127 77 ls (.int (-1 : Int32) :: st) h K := tm_ic o127_76 (by decide)
theorem o127_77 : tm_op 127 77 = some (.ireturn, (0, 0, 0, 0)) := rfl
theorem r127_77 (d : Nat) (v : Int32) (ls : tm_Lo) (h : tm_H) (K : Option Value → tm_H → Prop) : tm_A d 127 77 ls [.int v] h K ↔ K (some (.int v)) h := tm_reti o127_77 rfl
theorem o127_78 : tm_op 127 78 = some (.aload_n 0, (0, 0, 0, 0)) := rfl
theorem r127_78 (d : Nat) (v : Nat) (l1 l2 l3 l4 : Option Value) (st : List Value) (h : tm_H) (K : Option Value → tm_H → Prop) : tm_A d 127 78 [some (.ref v), l1, l2, l3, l4] st h K ↔ tm_A d 127 79 [some (.ref v), l1, l2, l3, l4] (.ref v :: st) h K := tm_s o127_78 rfl rfl rfl
theorem o127_79 : tm_op 127 79 = some (.dup, (0, 0, 0, 0)) := rfl
theorem r127_79 (d : Nat) (v : Nat) (ls : tm_Lo) (st : List Value) (h : tm_H) (K : Option Value → tm_H → Prop) : tm_A d 127 79 ls (.ref v :: st) h K ↔ tm_A d 127 80 ls (.ref v :: .ref v :: st) h K := tm_s o127_79 rfl rfl rfl
theorem r127_79i (d : Nat) (v : Int32) (ls : tm_Lo) (st : List Value) (h : tm_H) (K : Option Value → tm_H → Prop) : tm_A d 127 79 ls (.int v :: st) h K ↔ tm_A d 127 80 ls (.int v :: .int v :: st) h K := tm_s o127_79 rfl rfl rfl
theorem o127_80 : tm_op 127 80 = some (.getfield 108, (0, 10, 7, 0)) := rfl
theorem r127_80 (d : Nat) (a : Nat) (ls : tm_Lo) (st : List Value) (G : tm_G) (I : Nat → Nat → Int32) (J : Nat → Nat → Int64) (R : Nat → Nat → Option Nat) (K : Option Value → tm_H → Prop) : tm_A d 127 80 ls (.ref a :: st) (G, I, J, R) K ↔ G.2.2 a = (0, 10) ∧ tm_A d 127 83 ls (.int (I a 7) :: st) (G, I, J, R) K := tm_getI o127_80
theorem o127_83 : tm_op 127 83 = some (.iconst 1, (0, 0, 0, 0)) := rfl
theorem r127_83 (d : Nat) (ls : tm_Lo) (st : List Value) (h : tm_H) (K : Option Value → tm_H → Prop) : tm_A d 127 83 ls st h K ↔ tm_A d 127 84 ls (.int (1 : Int32) :: st) h K := tm_ic o127_83 (by decide)
theorem o127_84 : tm_op 127 84 = some (.iload_n 3, (0, 0, 0, 0)) := rfl
theorem r127_84 (d : Nat) (v : Int32) (l0 l1 l2 l4 : Option Value) (st : List Value) (h : tm_H) (K : Option Value → tm_H → Prop) : tm_A d 127 84 [l0, l1, l2, some (.int v), l4] st h K ↔ tm_A d 127 85 [l0, l1, l2, some (.int v), l4] (.int v :: st) h K := tm_s o127_84 rfl rfl rfl
theorem o127_85 : tm_op 127 85 = some (.ishl, (0, 0, 0, 0)) := rfl
theorem r127_85 (d : Nat) (u v : Int32) (ls : tm_Lo) (st : List Value) (h : tm_H) (K : Option Value → tm_H → Prop) : tm_A d 127 85 ls (.int u :: .int v :: st) h K ↔ tm_A d 127 86 ls (.int (v <<< (u &&& 31)) :: st) h K := tm_s o127_85 rfl rfl rfl
theorem o127_86 : tm_op 127 86 = some (.ior, (0, 0, 0, 0)) := rfl
theorem r127_86 (d : Nat) (u v : Int32) (ls : tm_Lo) (st : List Value) (h : tm_H) (K : Option Value → tm_H → Prop) : tm_A d 127 86 ls (.int u :: .int v :: st) h K ↔ tm_A d 127 87 ls (.int (v ||| u) :: st) h K := tm_s o127_86 rfl rfl rfl
theorem o127_87 : tm_op 127 87 = some (.putfield 108, (0, 10, 7, 0)) := rfl
theorem r127_87 (d : Nat) (v : Int32) (a : Nat) (ls : tm_Lo) (st : List Value) (G : tm_G) (I : Nat → Nat → Int32) (J : Nat → Nat → Int64) (R : Nat → Nat → Option Nat) (K : Option Value → tm_H → Prop) : tm_A d 127 87 ls (.int v :: .ref a :: st) (G, I, J, R) K ↔ G.2.2 a = (0, 10) ∧ tm_A d 127 90 ls st (G, up2 I a 7 v, J, R) K := tm_putI o127_87
theorem o127_90 : tm_op 127 90 = some (.iload_n 3, (0, 0, 0, 0)) := rfl
theorem r127_90 (d : Nat) (v : Int32) (l0 l1 l2 l4 : Option Value) (st : List Value) (h : tm_H) (K : Option Value → tm_H → Prop) : tm_A d 127 90 [l0, l1, l2, some (.int v), l4] st h K ↔ tm_A d 127 91 [l0, l1, l2, some (.int v), l4] (.int v :: st) h K := tm_s o127_90 rfl rfl rfl
theorem o127_91 : tm_op 127 91 = some (.iconst 3, (0, 0, 0, 0)) := rfl
theorem r127_91 (d : Nat) (ls : tm_Lo) (st : List Value) (h : tm_H) (K : Option Value → tm_H → Prop) : tm_A d 127 91 ls st h K ↔ tm_A d 127 92 ls (.int (3 : Int32) :: st) h K := tm_ic o127_91 (by decide)
theorem o127_92 : tm_op 127 92 = some (.if_icmp .ne 11, (0, 0, 0, 0)) := rfl
theorem r127_92 (d : Nat) (y x : Int32) (ls : tm_Lo) (st : List Value) (h : tm_H) (K : Option Value → tm_H → Prop) : tm_A d 127 92 ls (.int y :: .int x :: st) h K ↔ if ¬ x = y then tm_A d 127 103 ls st h K else tm_A d 127 95 ls st h K := tm_b o127_92 rfl rfl rfl rfl
theorem o127_95 : tm_op 127 95 = some (.aload_n 0, (0, 0, 0, 0)) := rfl
theorem r127_95 (d : Nat) (v : Nat) (l1 l2 l3 l4 : Option Value) (st : List Value) (h : tm_H) (K : Option Value → tm_H → Prop) : tm_A d 127 95 [some (.ref v), l1, l2, l3, l4] st h K ↔ tm_A d 127 96 [some (.ref v), l1, l2, l3, l4] (.ref v :: st) h K := tm_s o127_95 rfl rfl rfl
theorem o127_96 : tm_op 127 96 = some (.iload_n 1, (0, 0, 0, 0)) := rfl
theorem r127_96 (d : Nat) (v : Int32) (l0 l2 l3 l4 : Option Value) (st : List Value) (h : tm_H) (K : Option Value → tm_H → Prop) : tm_A d 127 96 [l0, some (.int v), l2, l3, l4] st h K ↔ tm_A d 127 97 [l0, some (.int v), l2, l3, l4] (.int v :: st) h K := tm_s o127_96 rfl rfl rfl
theorem o127_97 : tm_op 127 97 = some (.iconst 1, (0, 0, 0, 0)) := rfl
theorem r127_97 (d : Nat) (ls : tm_Lo) (st : List Value) (h : tm_H) (K : Option Value → tm_H → Prop) : tm_A d 127 97 ls st h K ↔ tm_A d 127 98 ls (.int (1 : Int32) :: st) h K := tm_ic o127_97 (by decide)
theorem o127_98 : tm_op 127 98 = some (.iadd, (0, 0, 0, 0)) := rfl
theorem r127_98 (d : Nat) (u v : Int32) (ls : tm_Lo) (st : List Value) (h : tm_H) (K : Option Value → tm_H → Prop) : tm_A d 127 98 ls (.int u :: .int v :: st) h K ↔ tm_A d 127 99 ls (.int (v + u) :: st) h K := tm_s o127_98 rfl rfl rfl
theorem o127_99 : tm_op 127 99 = some (.invokevirtual 111, (2, 129, 2, 10)) := rfl
theorem r127_99 (d : Nat) (v1 : Int32) (a : Nat) (ls : tm_Lo) (st : List Value) (h : tm_H) (K : Option Value → tm_H → Prop) : tm_A (d + 1) 127 99 ls (.int v1 :: .ref a :: st) h K ↔ (h.1.2.2 a = (0, 10) ∧ tm_cs st) ∧ tm_R d 129 [.ref a, .int v1] h (fun r h' => tm_A (d + 1) 127 102 ls (r.toList ++ st) h' K) := tm_callV (as := [.int v1]) o127_99 rfl rfl rfl rfl
theorem o127_102 : tm_op 127 102 = some (.ireturn, (0, 0, 0, 0)) := rfl
theorem r127_102 (d : Nat) (v : Int32) (ls : tm_Lo) (h : tm_H) (K : Option Value → tm_H → Prop) : tm_A d 127 102 ls [.int v] h K ↔ K (some (.int v)) h := tm_reti o127_102 rfl
theorem o127_103 : tm_op 127 103 = some (.aload_n 0, (0, 0, 0, 0)) := rfl
theorem r127_103 (d : Nat) (v : Nat) (l1 l2 l3 l4 : Option Value) (st : List Value) (h : tm_H) (K : Option Value → tm_H → Prop) : tm_A d 127 103 [some (.ref v), l1, l2, l3, l4] st h K ↔ tm_A d 127 104 [some (.ref v), l1, l2, l3, l4] (.ref v :: st) h K := tm_s o127_103 rfl rfl rfl
theorem o127_104 : tm_op 127 104 = some (.iload_n 1, (0, 0, 0, 0)) := rfl
theorem r127_104 (d : Nat) (v : Int32) (l0 l2 l3 l4 : Option Value) (st : List Value) (h : tm_H) (K : Option Value → tm_H → Prop) : tm_A d 127 104 [l0, some (.int v), l2, l3, l4] st h K ↔ tm_A d 127 105 [l0, some (.int v), l2, l3, l4] (.int v :: st) h K := tm_s o127_104 rfl rfl rfl
theorem o127_105 : tm_op 127 105 = some (.iconst 1, (0, 0, 0, 0)) := rfl
theorem r127_105 (d : Nat) (ls : tm_Lo) (st : List Value) (h : tm_H) (K : Option Value → tm_H → Prop) : tm_A d 127 105 ls st h K ↔ tm_A d 127 106 ls (.int (1 : Int32) :: st) h K := tm_ic o127_105 (by decide)
theorem o127_106 : tm_op 127 106 = some (.iadd, (0, 0, 0, 0)) := rfl
theorem r127_106 (d : Nat) (u v : Int32) (ls : tm_Lo) (st : List Value) (h : tm_H) (K : Option Value → tm_H → Prop) : tm_A d 127 106 ls (.int u :: .int v :: st) h K ↔ tm_A d 127 107 ls (.int (v + u) :: st) h K := tm_s o127_106 rfl rfl rfl
theorem o127_107 : tm_op 127 107 = some (.invokevirtual 114, (2, 125, 2, 10)) := rfl
theorem r127_107 (d : Nat) (v1 : Int32) (a : Nat) (ls : tm_Lo) (st : List Value) (h : tm_H) (K : Option Value → tm_H → Prop) : tm_A (d + 1) 127 107 ls (.int v1 :: .ref a :: st) h K ↔ (h.1.2.2 a = (0, 10) ∧ tm_cs st) ∧ tm_R d 125 [.ref a, .int v1] h (fun r h' => tm_A (d + 1) 127 110 ls (r.toList ++ st) h' K) := tm_callV (as := [.int v1]) o127_107 rfl rfl rfl rfl
theorem o127_110 : tm_op 127 110 = some (.istore 4, (0, 0, 0, 0)) := rfl
theorem r127_110 (d : Nat) (v : Int32) (l0 l1 l2 l3 l4 : Option Value) (st : List Value) (h : tm_H) (K : Option Value → tm_H → Prop) : tm_A d 127 110 [l0, l1, l2, l3, l4] (.int v :: st) h K ↔ tm_A d 127 112 [l0, l1, l2, l3, some (.int v)] st h K := tm_s o127_110 rfl rfl rfl
theorem o127_112 : tm_op 127 112 = some (.aload_n 0, (0, 0, 0, 0)) := rfl
theorem r127_112 (d : Nat) (v : Nat) (l1 l2 l3 l4 : Option Value) (st : List Value) (h : tm_H) (K : Option Value → tm_H → Prop) : tm_A d 127 112 [some (.ref v), l1, l2, l3, l4] st h K ↔ tm_A d 127 113 [some (.ref v), l1, l2, l3, l4] (.ref v :: st) h K := tm_s o127_112 rfl rfl rfl
theorem o127_113 : tm_op 127 113 = some (.getfield 105, (0, 10, 13, 0)) := rfl
theorem r127_113 (d : Nat) (a : Nat) (ls : tm_Lo) (st : List Value) (G : tm_G) (I : Nat → Nat → Int32) (J : Nat → Nat → Int64) (R : Nat → Nat → Option Nat) (K : Option Value → tm_H → Prop) : tm_A d 127 113 ls (.ref a :: st) (G, I, J, R) K ↔ G.2.2 a = (0, 10) ∧ tm_A d 127 116 ls (.int (I a 13) :: st) (G, I, J, R) K := tm_getI o127_113
theorem o127_116 : tm_op 127 116 = some (.iload_n 3, (0, 0, 0, 0)) := rfl
theorem r127_116 (d : Nat) (v : Int32) (l0 l1 l2 l4 : Option Value) (st : List Value) (h : tm_H) (K : Option Value → tm_H → Prop) : tm_A d 127 116 [l0, l1, l2, some (.int v), l4] st h K ↔ tm_A d 127 117 [l0, l1, l2, some (.int v), l4] (.int v :: st) h K := tm_s o127_116 rfl rfl rfl
theorem o127_117 : tm_op 127 117 = some (.invokestatic 117, (1, 126, 1, 0)) := rfl
theorem r127_117 (d : Nat) (v0 : Int32) (ls : tm_Lo) (st : List Value) (h : tm_H) (K : Option Value → tm_H → Prop) : tm_A (d + 1) 127 117 ls (.int v0 :: st) h K ↔ tm_cs st ∧ tm_R d 126 [.int v0] h (fun r h' => tm_A (d + 1) 127 120 ls (r.toList ++ st) h' K) := tm_callS (as := [.int v0]) o127_117 rfl rfl rfl rfl
theorem o127_120 : tm_op 127 120 = some (.if_icmp .le 5, (0, 0, 0, 0)) := rfl
theorem r127_120 (d : Nat) (y x : Int32) (ls : tm_Lo) (st : List Value) (h : tm_H) (K : Option Value → tm_H → Prop) : tm_A d 127 120 ls (.int y :: .int x :: st) h K ↔ if x ≤ y then tm_A d 127 125 ls st h K else tm_A d 127 123 ls st h K := tm_b o127_120 rfl rfl rfl rfl
theorem o127_123 : tm_op 127 123 = some (.iconst (-1), (0, 0, 0, 0)) := rfl
theorem r127_123 (d : Nat) (ls : tm_Lo) (st : List Value) (h : tm_H) (K : Option Value → tm_H → Prop) : tm_A d 127 123 ls st h K ↔ tm_A d 127 124 ls (.int (-1 : Int32) :: st) h K := tm_ic o127_123 (by decide)
theorem o127_124 : tm_op 127 124 = some (.ireturn, (0, 0, 0, 0)) := rfl
theorem r127_124 (d : Nat) (v : Int32) (ls : tm_Lo) (h : tm_H) (K : Option Value → tm_H → Prop) : tm_A d 127 124 ls [.int v] h K ↔ K (some (.int v)) h := tm_reti o127_124 rfl
theorem o127_125 : tm_op 127 125 = some (.aload_n 0, (0, 0, 0, 0)) := rfl
theorem r127_125 (d : Nat) (v : Nat) (l1 l2 l3 l4 : Option Value) (st : List Value) (h : tm_H) (K : Option Value → tm_H → Prop) : tm_A d 127 125 [some (.ref v), l1, l2, l3, l4] st h K ↔ tm_A d 127 126 [some (.ref v), l1, l2, l3, l4] (.ref v :: st) h K := tm_s o127_125 rfl rfl rfl
theorem o127_126 : tm_op 127 126 = some (.getfield 20, (2, 10, 9, 0)) := rfl
theorem r127_126 (d : Nat) (a : Nat) (ls : tm_Lo) (st : List Value) (G : tm_G) (I : Nat → Nat → Int32) (J : Nat → Nat → Int64) (R : Nat → Nat → Option Nat) (K : Option Value → tm_H → Prop) : tm_A d 127 126 ls (.ref a :: st) (G, I, J, R) K ↔ G.2.2 a = (0, 10) ∧ tm_A d 127 129 ls (tm_rf (R a 9) :: st) (G, I, J, R) K := tm_getR o127_126
theorem o127_129 : tm_op 127 129 = some (.iload_n 3, (0, 0, 0, 0)) := rfl
theorem r127_129 (d : Nat) (v : Int32) (l0 l1 l2 l4 : Option Value) (st : List Value) (h : tm_H) (K : Option Value → tm_H → Prop) : tm_A d 127 129 [l0, l1, l2, some (.int v), l4] st h K ↔ tm_A d 127 130 [l0, l1, l2, some (.int v), l4] (.int v :: st) h K := tm_s o127_129 rfl rfl rfl
theorem o127_130 : tm_op 127 130 = some (.aload_n 0, (0, 0, 0, 0)) := rfl
theorem r127_130 (d : Nat) (v : Nat) (l1 l2 l3 l4 : Option Value) (st : List Value) (h : tm_H) (K : Option Value → tm_H → Prop) : tm_A d 127 130 [some (.ref v), l1, l2, l3, l4] st h K ↔ tm_A d 127 131 [some (.ref v), l1, l2, l3, l4] (.ref v :: st) h K := tm_s o127_130 rfl rfl rfl
theorem o127_131 : tm_op 127 131 = some (.getfield 105, (0, 10, 13, 0)) := rfl
theorem r127_131 (d : Nat) (a : Nat) (ls : tm_Lo) (st : List Value) (G : tm_G) (I : Nat → Nat → Int32) (J : Nat → Nat → Int64) (R : Nat → Nat → Option Nat) (K : Option Value → tm_H → Prop) : tm_A d 127 131 ls (.ref a :: st) (G, I, J, R) K ↔ G.2.2 a = (0, 10) ∧ tm_A d 127 134 ls (.int (I a 13) :: st) (G, I, J, R) K := tm_getI o127_131
theorem o127_134 : tm_op 127 134 = some (.iastore, (0, 0, 0, 0)) := rfl
theorem r127_134 (d : Nat) (u v : Int32) (a : Nat) (ls : tm_Lo) (st : List Value) (G : tm_G) (I : Nat → Nat → Int32) (J : Nat → Nat → Int64) (R : Nat → Nat → Option Nat) (K : Option Value → tm_H → Prop) : tm_A d 127 134 ls (.int u :: .int v :: .ref a :: st) (G, I, J, R) K ↔ (3 ≤ a ∧ (G.2.2 a).1 = 1 ∧ tm_in v (G.2.2 a).2) ∧ tm_A d 127 135 ls st (G, up2 I a (tm_ix v) u, J, R) K := tm_iast o127_134
theorem o127_135 : tm_op 127 135 = some (.aload_n 0, (0, 0, 0, 0)) := rfl
theorem r127_135 (d : Nat) (v : Nat) (l1 l2 l3 l4 : Option Value) (st : List Value) (h : tm_H) (K : Option Value → tm_H → Prop) : tm_A d 127 135 [some (.ref v), l1, l2, l3, l4] st h K ↔ tm_A d 127 136 [some (.ref v), l1, l2, l3, l4] (.ref v :: st) h K := tm_s o127_135 rfl rfl rfl
theorem o127_136 : tm_op 127 136 = some (.iload_n 3, (0, 0, 0, 0)) := rfl
theorem r127_136 (d : Nat) (v : Int32) (l0 l1 l2 l4 : Option Value) (st : List Value) (h : tm_H) (K : Option Value → tm_H → Prop) : tm_A d 127 136 [l0, l1, l2, some (.int v), l4] st h K ↔ tm_A d 127 137 [l0, l1, l2, some (.int v), l4] (.int v :: st) h K := tm_s o127_136 rfl rfl rfl
theorem o127_137 : tm_op 127 137 = some (.iconst 2, (0, 0, 0, 0)) := rfl
theorem r127_137 (d : Nat) (ls : tm_Lo) (st : List Value) (h : tm_H) (K : Option Value → tm_H → Prop) : tm_A d 127 137 ls st h K ↔ tm_A d 127 138 ls (.int (2 : Int32) :: st) h K := tm_ic o127_137 (by decide)
theorem o127_138 : tm_op 127 138 = some (.if_icmp .ne 10, (0, 0, 0, 0)) := rfl
theorem r127_138 (d : Nat) (y x : Int32) (ls : tm_Lo) (st : List Value) (h : tm_H) (K : Option Value → tm_H → Prop) : tm_A d 127 138 ls (.int y :: .int x :: st) h K ↔ if ¬ x = y then tm_A d 127 148 ls st h K else tm_A d 127 141 ls st h K := tm_b o127_138 rfl rfl rfl rfl
theorem o127_141 : tm_op 127 141 = some (.aload_n 0, (0, 0, 0, 0)) := rfl
theorem r127_141 (d : Nat) (v : Nat) (l1 l2 l3 l4 : Option Value) (st : List Value) (h : tm_H) (K : Option Value → tm_H → Prop) : tm_A d 127 141 [some (.ref v), l1, l2, l3, l4] st h K ↔ tm_A d 127 142 [some (.ref v), l1, l2, l3, l4] (.ref v :: st) h K := tm_s o127_141 rfl rfl rfl
theorem o127_142 : tm_op 127 142 = some (.getfield 105, (0, 10, 13, 0)) := rfl
theorem r127_142 (d : Nat) (a : Nat) (ls : tm_Lo) (st : List Value) (G : tm_G) (I : Nat → Nat → Int32) (J : Nat → Nat → Int64) (R : Nat → Nat → Option Nat) (K : Option Value → tm_H → Prop) : tm_A d 127 142 ls (.ref a :: st) (G, I, J, R) K ↔ G.2.2 a = (0, 10) ∧ tm_A d 127 145 ls (.int (I a 13) :: st) (G, I, J, R) K := tm_getI o127_142
theorem o127_145 : tm_op 127 145 = some (.goto 7, (0, 0, 0, 0)) := rfl
theorem r127_145 (d : Nat) (ls : tm_Lo) (st : List Value) (h : tm_H) (K : Option Value → tm_H → Prop) : tm_A d 127 145 ls st h K ↔ tm_A d 127 152 ls st h K := tm_s o127_145 rfl rfl rfl
theorem o127_148 : tm_op 127 148 = some (.aload_n 0, (0, 0, 0, 0)) := rfl
theorem r127_148 (d : Nat) (v : Nat) (l1 l2 l3 l4 : Option Value) (st : List Value) (h : tm_H) (K : Option Value → tm_H → Prop) : tm_A d 127 148 [some (.ref v), l1, l2, l3, l4] st h K ↔ tm_A d 127 149 [some (.ref v), l1, l2, l3, l4] (.ref v :: st) h K := tm_s o127_148 rfl rfl rfl
theorem o127_149 : tm_op 127 149 = some (.getfield 120, (0, 10, 10, 0)) := rfl
theorem r127_149 (d : Nat) (a : Nat) (ls : tm_Lo) (st : List Value) (G : tm_G) (I : Nat → Nat → Int32) (J : Nat → Nat → Int64) (R : Nat → Nat → Option Nat) (K : Option Value → tm_H → Prop) : tm_A d 127 149 ls (.ref a :: st) (G, I, J, R) K ↔ G.2.2 a = (0, 10) ∧ tm_A d 127 152 ls (.int (I a 10) :: st) (G, I, J, R) K := tm_getI o127_149
theorem o127_152 : tm_op 127 152 = some (.putfield 120, (0, 10, 10, 0)) := rfl
theorem r127_152 (d : Nat) (v : Int32) (a : Nat) (ls : tm_Lo) (st : List Value) (G : tm_G) (I : Nat → Nat → Int32) (J : Nat → Nat → Int64) (R : Nat → Nat → Option Nat) (K : Option Value → tm_H → Prop) : tm_A d 127 152 ls (.int v :: .ref a :: st) (G, I, J, R) K ↔ G.2.2 a = (0, 10) ∧ tm_A d 127 155 ls st (G, up2 I a 10 v, J, R) K := tm_putI o127_152
theorem o127_155 : tm_op 127 155 = some (.iload_n 3, (0, 0, 0, 0)) := rfl
theorem r127_155 (d : Nat) (v : Int32) (l0 l1 l2 l4 : Option Value) (st : List Value) (h : tm_H) (K : Option Value → tm_H → Prop) : tm_A d 127 155 [l0, l1, l2, some (.int v), l4] st h K ↔ tm_A d 127 156 [l0, l1, l2, some (.int v), l4] (.int v :: st) h K := tm_s o127_155 rfl rfl rfl
theorem o127_156 : tm_op 127 156 = some (.iconst 2, (0, 0, 0, 0)) := rfl
theorem r127_156 (d : Nat) (ls : tm_Lo) (st : List Value) (h : tm_H) (K : Option Value → tm_H → Prop) : tm_A d 127 156 ls st h K ↔ tm_A d 127 157 ls (.int (2 : Int32) :: st) h K := tm_ic o127_156 (by decide)
theorem o127_157 : tm_op 127 157 = some (.if_icmp .ne 57, (0, 0, 0, 0)) := rfl
theorem r127_157 (d : Nat) (y x : Int32) (ls : tm_Lo) (st : List Value) (h : tm_H) (K : Option Value → tm_H → Prop) : tm_A d 127 157 ls (.int y :: .int x :: st) h K ↔ if ¬ x = y then tm_A d 127 214 ls st h K else tm_A d 127 160 ls st h K := tm_b o127_157 rfl rfl rfl rfl
theorem o127_160 : tm_op 127 160 = some (.aload_n 0, (0, 0, 0, 0)) := rfl
theorem r127_160 (d : Nat) (v : Nat) (l1 l2 l3 l4 : Option Value) (st : List Value) (h : tm_H) (K : Option Value → tm_H → Prop) : tm_A d 127 160 [some (.ref v), l1, l2, l3, l4] st h K ↔ tm_A d 127 161 [some (.ref v), l1, l2, l3, l4] (.ref v :: st) h K := tm_s o127_160 rfl rfl rfl
theorem o127_161 : tm_op 127 161 = some (.iload 4, (0, 0, 0, 0)) := rfl
theorem r127_161 (d : Nat) (v : Int32) (l0 l1 l2 l3 : Option Value) (st : List Value) (h : tm_H) (K : Option Value → tm_H → Prop) : tm_A d 127 161 [l0, l1, l2, l3, some (.int v)] st h K ↔ tm_A d 127 163 [l0, l1, l2, l3, some (.int v)] (.int v :: st) h K := tm_s o127_161 rfl rfl rfl
theorem o127_163 : tm_op 127 163 = some (.invokevirtual 97, (2, 122, 2, 10)) := rfl
theorem r127_163 (d : Nat) (v1 : Int32) (a : Nat) (ls : tm_Lo) (st : List Value) (h : tm_H) (K : Option Value → tm_H → Prop) : tm_A (d + 1) 127 163 ls (.int v1 :: .ref a :: st) h K ↔ (h.1.2.2 a = (0, 10) ∧ tm_cs st) ∧ tm_R d 122 [.ref a, .int v1] h (fun r h' => tm_A (d + 1) 127 166 ls (r.toList ++ st) h' K) := tm_callV (as := [.int v1]) o127_163 rfl rfl rfl rfl
theorem o127_166 : tm_op 127 166 = some (.bipush 45, (0, 0, 0, 0)) := rfl
theorem r127_166 (d : Nat) (ls : tm_Lo) (st : List Value) (h : tm_H) (K : Option Value → tm_H → Prop) : tm_A d 127 166 ls st h K ↔ tm_A d 127 168 ls (.int (45 : Int32) :: st) h K := tm_bp o127_166 (by decide)
theorem o127_168 : tm_op 127 168 = some (.if_icmp .ne 46, (0, 0, 0, 0)) := rfl
theorem r127_168 (d : Nat) (y x : Int32) (ls : tm_Lo) (st : List Value) (h : tm_H) (K : Option Value → tm_H → Prop) : tm_A d 127 168 ls (.int y :: .int x :: st) h K ↔ if ¬ x = y then tm_A d 127 214 ls st h K else tm_A d 127 171 ls st h K := tm_b o127_168 rfl rfl rfl rfl
theorem o127_171 : tm_op 127 171 = some (.aload_n 0, (0, 0, 0, 0)) := rfl
theorem r127_171 (d : Nat) (v : Nat) (l1 l2 l3 l4 : Option Value) (st : List Value) (h : tm_H) (K : Option Value → tm_H → Prop) : tm_A d 127 171 [some (.ref v), l1, l2, l3, l4] st h K ↔ tm_A d 127 172 [some (.ref v), l1, l2, l3, l4] (.ref v :: st) h K := tm_s o127_171 rfl rfl rfl
theorem o127_172 : tm_op 127 172 = some (.iload 4, (0, 0, 0, 0)) := rfl
theorem r127_172 (d : Nat) (v : Int32) (l0 l1 l2 l3 : Option Value) (st : List Value) (h : tm_H) (K : Option Value → tm_H → Prop) : tm_A d 127 172 [l0, l1, l2, l3, some (.int v)] st h K ↔ tm_A d 127 174 [l0, l1, l2, l3, some (.int v)] (.int v :: st) h K := tm_s o127_172 rfl rfl rfl
theorem o127_174 : tm_op 127 174 = some (.iconst 1, (0, 0, 0, 0)) := rfl
theorem r127_174 (d : Nat) (ls : tm_Lo) (st : List Value) (h : tm_H) (K : Option Value → tm_H → Prop) : tm_A d 127 174 ls st h K ↔ tm_A d 127 175 ls (.int (1 : Int32) :: st) h K := tm_ic o127_174 (by decide)
theorem o127_175 : tm_op 127 175 = some (.iadd, (0, 0, 0, 0)) := rfl
theorem r127_175 (d : Nat) (u v : Int32) (ls : tm_Lo) (st : List Value) (h : tm_H) (K : Option Value → tm_H → Prop) : tm_A d 127 175 ls (.int u :: .int v :: st) h K ↔ tm_A d 127 176 ls (.int (v + u) :: st) h K := tm_s o127_175 rfl rfl rfl
theorem o127_176 : tm_op 127 176 = some (.invokevirtual 114, (2, 125, 2, 10)) := rfl
theorem r127_176 (d : Nat) (v1 : Int32) (a : Nat) (ls : tm_Lo) (st : List Value) (h : tm_H) (K : Option Value → tm_H → Prop) : tm_A (d + 1) 127 176 ls (.int v1 :: .ref a :: st) h K ↔ (h.1.2.2 a = (0, 10) ∧ tm_cs st) ∧ tm_R d 125 [.ref a, .int v1] h (fun r h' => tm_A (d + 1) 127 179 ls (r.toList ++ st) h' K) := tm_callV (as := [.int v1]) o127_176 rfl rfl rfl rfl
theorem o127_179 : tm_op 127 179 = some (.istore 4, (0, 0, 0, 0)) := rfl
theorem r127_179 (d : Nat) (v : Int32) (l0 l1 l2 l3 l4 : Option Value) (st : List Value) (h : tm_H) (K : Option Value → tm_H → Prop) : tm_A d 127 179 [l0, l1, l2, l3, l4] (.int v :: st) h K ↔ tm_A d 127 181 [l0, l1, l2, l3, some (.int v)] st h K := tm_s o127_179 rfl rfl rfl
theorem o127_181 : tm_op 127 181 = some (.aload_n 0, (0, 0, 0, 0)) := rfl
theorem r127_181 (d : Nat) (v : Nat) (l1 l2 l3 l4 : Option Value) (st : List Value) (h : tm_H) (K : Option Value → tm_H → Prop) : tm_A d 127 181 [some (.ref v), l1, l2, l3, l4] st h K ↔ tm_A d 127 182 [some (.ref v), l1, l2, l3, l4] (.ref v :: st) h K := tm_s o127_181 rfl rfl rfl
theorem o127_182 : tm_op 127 182 = some (.getfield 105, (0, 10, 13, 0)) := rfl
theorem r127_182 (d : Nat) (a : Nat) (ls : tm_Lo) (st : List Value) (G : tm_G) (I : Nat → Nat → Int32) (J : Nat → Nat → Int64) (R : Nat → Nat → Option Nat) (K : Option Value → tm_H → Prop) : tm_A d 127 182 ls (.ref a :: st) (G, I, J, R) K ↔ G.2.2 a = (0, 10) ∧ tm_A d 127 185 ls (.int (I a 13) :: st) (G, I, J, R) K := tm_getI o127_182
theorem o127_185 : tm_op 127 185 = some (.sipush 9999, (0, 0, 0, 0)) := rfl
theorem r127_185 (d : Nat) (ls : tm_Lo) (st : List Value) (h : tm_H) (K : Option Value → tm_H → Prop) : tm_A d 127 185 ls st h K ↔ tm_A d 127 188 ls (.int (9999 : Int32) :: st) h K := tm_sp o127_185 (by decide)
theorem o127_188 : tm_op 127 188 = some (.if_icmp .gt 16, (0, 0, 0, 0)) := rfl
theorem r127_188 (d : Nat) (y x : Int32) (ls : tm_Lo) (st : List Value) (h : tm_H) (K : Option Value → tm_H → Prop) : tm_A d 127 188 ls (.int y :: .int x :: st) h K ↔ if y < x then tm_A d 127 204 ls st h K else tm_A d 127 191 ls st h K := tm_b o127_188 rfl rfl rfl rfl
theorem o127_191 : tm_op 127 191 = some (.aload_n 0, (0, 0, 0, 0)) := rfl
theorem r127_191 (d : Nat) (v : Nat) (l1 l2 l3 l4 : Option Value) (st : List Value) (h : tm_H) (K : Option Value → tm_H → Prop) : tm_A d 127 191 [some (.ref v), l1, l2, l3, l4] st h K ↔ tm_A d 127 192 [some (.ref v), l1, l2, l3, l4] (.ref v :: st) h K := tm_s o127_191 rfl rfl rfl
theorem o127_192 : tm_op 127 192 = some (.getfield 105, (0, 10, 13, 0)) := rfl
theorem r127_192 (d : Nat) (a : Nat) (ls : tm_Lo) (st : List Value) (G : tm_G) (I : Nat → Nat → Int32) (J : Nat → Nat → Int64) (R : Nat → Nat → Option Nat) (K : Option Value → tm_H → Prop) : tm_A d 127 192 ls (.ref a :: st) (G, I, J, R) K ↔ G.2.2 a = (0, 10) ∧ tm_A d 127 195 ls (.int (I a 13) :: st) (G, I, J, R) K := tm_getI o127_192
theorem o127_195 : tm_op 127 195 = some (.aload_n 0, (0, 0, 0, 0)) := rfl
theorem r127_195 (d : Nat) (v : Nat) (l1 l2 l3 l4 : Option Value) (st : List Value) (h : tm_H) (K : Option Value → tm_H → Prop) : tm_A d 127 195 [some (.ref v), l1, l2, l3, l4] st h K ↔ tm_A d 127 196 [some (.ref v), l1, l2, l3, l4] (.ref v :: st) h K := tm_s o127_195 rfl rfl rfl
theorem o127_196 : tm_op 127 196 = some (.getfield 20, (2, 10, 9, 0)) := rfl
theorem r127_196 (d : Nat) (a : Nat) (ls : tm_Lo) (st : List Value) (G : tm_G) (I : Nat → Nat → Int32) (J : Nat → Nat → Int64) (R : Nat → Nat → Option Nat) (K : Option Value → tm_H → Prop) : tm_A d 127 196 ls (.ref a :: st) (G, I, J, R) K ↔ G.2.2 a = (0, 10) ∧ tm_A d 127 199 ls (tm_rf (R a 9) :: st) (G, I, J, R) K := tm_getR o127_196
theorem o127_199 : tm_op 127 199 = some (.iconst 2, (0, 0, 0, 0)) := rfl
theorem r127_199 (d : Nat) (ls : tm_Lo) (st : List Value) (h : tm_H) (K : Option Value → tm_H → Prop) : tm_A d 127 199 ls st h K ↔ tm_A d 127 200 ls (.int (2 : Int32) :: st) h K := tm_ic o127_199 (by decide)
theorem o127_200 : tm_op 127 200 = some (.iaload, (0, 0, 0, 0)) := rfl
theorem r127_200 (d : Nat) (v : Int32) (a : Nat) (ls : tm_Lo) (st : List Value) (G : tm_G) (I : Nat → Nat → Int32) (J : Nat → Nat → Int64) (R : Nat → Nat → Option Nat) (K : Option Value → tm_H → Prop) : tm_A d 127 200 ls (.int v :: .ref a :: st) (G, I, J, R) K ↔ ((G.2.2 a).1 = 1 ∧ tm_in v (G.2.2 a).2) ∧ tm_A d 127 201 ls (.int (I a (tm_ix v)) :: st) (G, I, J, R) K := tm_iald o127_200
theorem o127_201 : tm_op 127 201 = some (.if_icmp .ge 5, (0, 0, 0, 0)) := rfl
theorem r127_201 (d : Nat) (y x : Int32) (ls : tm_Lo) (st : List Value) (h : tm_H) (K : Option Value → tm_H → Prop) : tm_A d 127 201 ls (.int y :: .int x :: st) h K ↔ if y ≤ x then tm_A d 127 206 ls st h K else tm_A d 127 204 ls st h K := tm_b o127_201 rfl rfl rfl rfl
theorem o127_204 : tm_op 127 204 = some (.iconst (-1), (0, 0, 0, 0)) := rfl
theorem r127_204 (d : Nat) (ls : tm_Lo) (st : List Value) (h : tm_H) (K : Option Value → tm_H → Prop) : tm_A d 127 204 ls st h K ↔ tm_A d 127 205 ls (.int (-1 : Int32) :: st) h K := tm_ic o127_204 (by decide)
theorem o127_205 : tm_op 127 205 = some (.ireturn, (0, 0, 0, 0)) := rfl
theorem r127_205 (d : Nat) (v : Int32) (ls : tm_Lo) (h : tm_H) (K : Option Value → tm_H → Prop) : tm_A d 127 205 ls [.int v] h K ↔ K (some (.int v)) h := tm_reti o127_205 rfl
theorem o127_206 : tm_op 127 206 = some (.aload_n 0, (0, 0, 0, 0)) := rfl
theorem r127_206 (d : Nat) (v : Nat) (l1 l2 l3 l4 : Option Value) (st : List Value) (h : tm_H) (K : Option Value → tm_H → Prop) : tm_A d 127 206 [some (.ref v), l1, l2, l3, l4] st h K ↔ tm_A d 127 207 [some (.ref v), l1, l2, l3, l4] (.ref v :: st) h K := tm_s o127_206 rfl rfl rfl
theorem o127_207 : tm_op 127 207 = some (.aload_n 0, (0, 0, 0, 0)) := rfl
theorem r127_207 (d : Nat) (v : Nat) (l1 l2 l3 l4 : Option Value) (st : List Value) (h : tm_H) (K : Option Value → tm_H → Prop) : tm_A d 127 207 [some (.ref v), l1, l2, l3, l4] st h K ↔ tm_A d 127 208 [some (.ref v), l1, l2, l3, l4] (.ref v :: st) h K := tm_s o127_207 rfl rfl rfl
theorem o127_208 : tm_op 127 208 = some (.getfield 105, (0, 10, 13, 0)) := rfl
theorem r127_208 (d : Nat) (a : Nat) (ls : tm_Lo) (st : List Value) (G : tm_G) (I : Nat → Nat → Int32) (J : Nat → Nat → Int64) (R : Nat → Nat → Option Nat) (K : Option Value → tm_H → Prop) : tm_A d 127 208 ls (.ref a :: st) (G, I, J, R) K ↔ G.2.2 a = (0, 10) ∧ tm_A d 127 211 ls (.int (I a 13) :: st) (G, I, J, R) K := tm_getI o127_208
theorem o127_211 : tm_op 127 211 = some (.putfield 120, (0, 10, 10, 0)) := rfl
theorem r127_211 (d : Nat) (v : Int32) (a : Nat) (ls : tm_Lo) (st : List Value) (G : tm_G) (I : Nat → Nat → Int32) (J : Nat → Nat → Int64) (R : Nat → Nat → Option Nat) (K : Option Value → tm_H → Prop) : tm_A d 127 211 ls (.int v :: .ref a :: st) (G, I, J, R) K ↔ G.2.2 a = (0, 10) ∧ tm_A d 127 214 ls st (G, up2 I a 10 v, J, R) K := tm_putI o127_211
theorem o127_214 : tm_op 127 214 = some (.iload 4, (0, 0, 0, 0)) := rfl
theorem r127_214 (d : Nat) (v : Int32) (l0 l1 l2 l3 : Option Value) (st : List Value) (h : tm_H) (K : Option Value → tm_H → Prop) : tm_A d 127 214 [l0, l1, l2, l3, some (.int v)] st h K ↔ tm_A d 127 216 [l0, l1, l2, l3, some (.int v)] (.int v :: st) h K := tm_s o127_214 rfl rfl rfl
theorem o127_216 : tm_op 127 216 = some (.ireturn, (0, 0, 0, 0)) := rfl
theorem r127_216 (d : Nat) (v : Int32) (ls : tm_Lo) (h : tm_H) (K : Option Value → tm_H → Prop) : tm_A d 127 216 ls [.int v] h K ↔ K (some (.int v)) h := tm_reti o127_216 rfl
theorem o128_0 : tm_op 128 0 = some (.aload_n 0, (0, 0, 0, 0)) := rfl
theorem r128_0 (d : Nat) (v : Nat) (l1 l2 l3 : Option Value) (st : List Value) (h : tm_H) (K : Option Value → tm_H → Prop) : tm_A d 128 0 [some (.ref v), l1, l2, l3] st h K ↔ tm_A d 128 1 [some (.ref v), l1, l2, l3] (.ref v :: st) h K := tm_s o128_0 rfl rfl rfl
theorem o128_1 : tm_op 128 1 = some (.getfield 26, (2, 10, 12, 0)) := rfl
theorem r128_1 (d : Nat) (a : Nat) (ls : tm_Lo) (st : List Value) (G : tm_G) (I : Nat → Nat → Int32) (J : Nat → Nat → Int64) (R : Nat → Nat → Option Nat) (K : Option Value → tm_H → Prop) : tm_A d 128 1 ls (.ref a :: st) (G, I, J, R) K ↔ G.2.2 a = (0, 10) ∧ tm_A d 128 4 ls (tm_rf (R a 12) :: st) (G, I, J, R) K := tm_getR o128_1
theorem o128_4 : tm_op 128 4 = some (.iload_n 1, (0, 0, 0, 0)) := rfl
theorem r128_4 (d : Nat) (v : Int32) (l0 l2 l3 : Option Value) (st : List Value) (h : tm_H) (K : Option Value → tm_H → Prop) : tm_A d 128 4 [l0, some (.int v), l2, l3] st h K ↔ tm_A d 128 5 [l0, some (.int v), l2, l3] (.int v :: st) h K := tm_s o128_4 rfl rfl rfl
theorem o128_5 : tm_op 128 5 = some (.iaload, (0, 0, 0, 0)) := rfl
theorem r128_5 (d : Nat) (v : Int32) (a : Nat) (ls : tm_Lo) (st : List Value) (G : tm_G) (I : Nat → Nat → Int32) (J : Nat → Nat → Int64) (R : Nat → Nat → Option Nat) (K : Option Value → tm_H → Prop) : tm_A d 128 5 ls (.int v :: .ref a :: st) (G, I, J, R) K ↔ ((G.2.2 a).1 = 1 ∧ tm_in v (G.2.2 a).2) ∧ tm_A d 128 6 ls (.int (I a (tm_ix v)) :: st) (G, I, J, R) K := tm_iald o128_5
theorem o128_6 : tm_op 128 6 = some (.aload_n 0, (0, 0, 0, 0)) := rfl
theorem r128_6 (d : Nat) (v : Nat) (l1 l2 l3 : Option Value) (st : List Value) (h : tm_H) (K : Option Value → tm_H → Prop) : tm_A d 128 6 [some (.ref v), l1, l2, l3] st h K ↔ tm_A d 128 7 [some (.ref v), l1, l2, l3] (.ref v :: st) h K := tm_s o128_6 rfl rfl rfl
theorem o128_7 : tm_op 128 7 = some (.getfield 26, (2, 10, 12, 0)) := rfl
theorem r128_7 (d : Nat) (a : Nat) (ls : tm_Lo) (st : List Value) (G : tm_G) (I : Nat → Nat → Int32) (J : Nat → Nat → Int64) (R : Nat → Nat → Option Nat) (K : Option Value → tm_H → Prop) : tm_A d 128 7 ls (.ref a :: st) (G, I, J, R) K ↔ G.2.2 a = (0, 10) ∧ tm_A d 128 10 ls (tm_rf (R a 12) :: st) (G, I, J, R) K := tm_getR o128_7
theorem o128_10 : tm_op 128 10 = some (.iload_n 2, (0, 0, 0, 0)) := rfl
theorem r128_10 (d : Nat) (v : Int32) (l0 l1 l3 : Option Value) (st : List Value) (h : tm_H) (K : Option Value → tm_H → Prop) : tm_A d 128 10 [l0, l1, some (.int v), l3] st h K ↔ tm_A d 128 11 [l0, l1, some (.int v), l3] (.int v :: st) h K := tm_s o128_10 rfl rfl rfl
theorem o128_11 : tm_op 128 11 = some (.iaload, (0, 0, 0, 0)) := rfl
theorem r128_11 (d : Nat) (v : Int32) (a : Nat) (ls : tm_Lo) (st : List Value) (G : tm_G) (I : Nat → Nat → Int32) (J : Nat → Nat → Int64) (R : Nat → Nat → Option Nat) (K : Option Value → tm_H → Prop) : tm_A d 128 11 ls (.int v :: .ref a :: st) (G, I, J, R) K ↔ ((G.2.2 a).1 = 1 ∧ tm_in v (G.2.2 a).2) ∧ tm_A d 128 12 ls (.int (I a (tm_ix v)) :: st) (G, I, J, R) K := tm_iald o128_11
theorem o128_12 : tm_op 128 12 = some (.if_icmp .eq 5, (0, 0, 0, 0)) := rfl
theorem r128_12 (d : Nat) (y x : Int32) (ls : tm_Lo) (st : List Value) (h : tm_H) (K : Option Value → tm_H → Prop) : tm_A d 128 12 ls (.int y :: .int x :: st) h K ↔ if x = y then tm_A d 128 17 ls st h K else tm_A d 128 15 ls st h K := tm_b o128_12 rfl rfl rfl rfl
theorem o128_15 : tm_op 128 15 = some (.iconst 0, (0, 0, 0, 0)) := rfl
theorem r128_15 (d : Nat) (ls : tm_Lo) (st : List Value) (h : tm_H) (K : Option Value → tm_H → Prop) : tm_A d 128 15 ls st h K ↔ tm_A d 128 16 ls (.int (0 : Int32) :: st) h K := tm_ic o128_15 (by decide)
theorem o128_16 : tm_op 128 16 = some (.ireturn, (0, 0, 0, 0)) := rfl
theorem r128_16 (d : Nat) (v : Int32) (ls : tm_Lo) (h : tm_H) (K : Option Value → tm_H → Prop) : tm_A d 128 16 ls [.int v] h K ↔ (v = 0 ∨ v = 1) ∧ K (some (.int v)) h := tm_retz o128_16 rfl
theorem o128_17 : tm_op 128 17 = some (.iconst 0, (0, 0, 0, 0)) := rfl
theorem r128_17 (d : Nat) (ls : tm_Lo) (st : List Value) (h : tm_H) (K : Option Value → tm_H → Prop) : tm_A d 128 17 ls st h K ↔ tm_A d 128 18 ls (.int (0 : Int32) :: st) h K := tm_ic o128_17 (by decide)
theorem o128_18 : tm_op 128 18 = some (.istore_n 3, (0, 0, 0, 0)) := rfl
theorem r128_18 (d : Nat) (v : Int32) (l0 l1 l2 l3 : Option Value) (st : List Value) (h : tm_H) (K : Option Value → tm_H → Prop) : tm_A d 128 18 [l0, l1, l2, l3] (.int v :: st) h K ↔ tm_A d 128 19 [l0, l1, l2, some (.int v)] st h K := tm_s o128_18 rfl rfl rfl
theorem o128_19 : tm_op 128 19 = some (.iload_n 3, (0, 0, 0, 0)) := rfl
theorem r128_19 (d : Nat) (v : Int32) (l0 l1 l2 : Option Value) (st : List Value) (h : tm_H) (K : Option Value → tm_H → Prop) : tm_A d 128 19 [l0, l1, l2, some (.int v)] st h K ↔ tm_A d 128 20 [l0, l1, l2, some (.int v)] (.int v :: st) h K := tm_s o128_19 rfl rfl rfl
theorem o128_20 : tm_op 128 20 = some (.aload_n 0, (0, 0, 0, 0)) := rfl
theorem r128_20 (d : Nat) (v : Nat) (l1 l2 l3 : Option Value) (st : List Value) (h : tm_H) (K : Option Value → tm_H → Prop) : tm_A d 128 20 [some (.ref v), l1, l2, l3] st h K ↔ tm_A d 128 21 [some (.ref v), l1, l2, l3] (.ref v :: st) h K := tm_s o128_20 rfl rfl rfl
theorem o128_21 : tm_op 128 21 = some (.getfield 26, (2, 10, 12, 0)) := rfl
theorem r128_21 (d : Nat) (a : Nat) (ls : tm_Lo) (st : List Value) (G : tm_G) (I : Nat → Nat → Int32) (J : Nat → Nat → Int64) (R : Nat → Nat → Option Nat) (K : Option Value → tm_H → Prop) : tm_A d 128 21 ls (.ref a :: st) (G, I, J, R) K ↔ G.2.2 a = (0, 10) ∧ tm_A d 128 24 ls (tm_rf (R a 12) :: st) (G, I, J, R) K := tm_getR o128_21
theorem o128_24 : tm_op 128 24 = some (.iload_n 1, (0, 0, 0, 0)) := rfl
theorem r128_24 (d : Nat) (v : Int32) (l0 l2 l3 : Option Value) (st : List Value) (h : tm_H) (K : Option Value → tm_H → Prop) : tm_A d 128 24 [l0, some (.int v), l2, l3] st h K ↔ tm_A d 128 25 [l0, some (.int v), l2, l3] (.int v :: st) h K := tm_s o128_24 rfl rfl rfl
theorem o128_25 : tm_op 128 25 = some (.iaload, (0, 0, 0, 0)) := rfl
theorem r128_25 (d : Nat) (v : Int32) (a : Nat) (ls : tm_Lo) (st : List Value) (G : tm_G) (I : Nat → Nat → Int32) (J : Nat → Nat → Int64) (R : Nat → Nat → Option Nat) (K : Option Value → tm_H → Prop) : tm_A d 128 25 ls (.int v :: .ref a :: st) (G, I, J, R) K ↔ ((G.2.2 a).1 = 1 ∧ tm_in v (G.2.2 a).2) ∧ tm_A d 128 26 ls (.int (I a (tm_ix v)) :: st) (G, I, J, R) K := tm_iald o128_25
theorem o128_26 : tm_op 128 26 = some (.if_icmp .ge 36, (0, 0, 0, 0)) := rfl
theorem r128_26 (d : Nat) (y x : Int32) (ls : tm_Lo) (st : List Value) (h : tm_H) (K : Option Value → tm_H → Prop) : tm_A d 128 26 ls (.int y :: .int x :: st) h K ↔ if y ≤ x then tm_A d 128 62 ls st h K else tm_A d 128 29 ls st h K := tm_b o128_26 rfl rfl rfl rfl
theorem o128_29 : tm_op 128 29 = some (.aload_n 0, (0, 0, 0, 0)) := rfl
theorem r128_29 (d : Nat) (v : Nat) (l1 l2 l3 : Option Value) (st : List Value) (h : tm_H) (K : Option Value → tm_H → Prop) : tm_A d 128 29 [some (.ref v), l1, l2, l3] st h K ↔ tm_A d 128 30 [some (.ref v), l1, l2, l3] (.ref v :: st) h K := tm_s o128_29 rfl rfl rfl
theorem o128_30 : tm_op 128 30 = some (.getfield 23, (2, 10, 11, 0)) := rfl
theorem r128_30 (d : Nat) (a : Nat) (ls : tm_Lo) (st : List Value) (G : tm_G) (I : Nat → Nat → Int32) (J : Nat → Nat → Int64) (R : Nat → Nat → Option Nat) (K : Option Value → tm_H → Prop) : tm_A d 128 30 ls (.ref a :: st) (G, I, J, R) K ↔ G.2.2 a = (0, 10) ∧ tm_A d 128 33 ls (tm_rf (R a 11) :: st) (G, I, J, R) K := tm_getR o128_30
theorem o128_33 : tm_op 128 33 = some (.bipush 6, (0, 0, 0, 0)) := rfl
theorem r128_33 (d : Nat) (ls : tm_Lo) (st : List Value) (h : tm_H) (K : Option Value → tm_H → Prop) : tm_A d 128 33 ls st h K ↔ tm_A d 128 35 ls (.int (6 : Int32) :: st) h K := tm_bp o128_33 (by decide)
theorem o128_35 : tm_op 128 35 = some (.iload_n 1, (0, 0, 0, 0)) := rfl
theorem r128_35 (d : Nat) (v : Int32) (l0 l2 l3 : Option Value) (st : List Value) (h : tm_H) (K : Option Value → tm_H → Prop) : tm_A d 128 35 [l0, some (.int v), l2, l3] st h K ↔ tm_A d 128 36 [l0, some (.int v), l2, l3] (.int v :: st) h K := tm_s o128_35 rfl rfl rfl
theorem o128_36 : tm_op 128 36 = some (.imul, (0, 0, 0, 0)) := rfl
theorem r128_36 (d : Nat) (u v : Int32) (ls : tm_Lo) (st : List Value) (h : tm_H) (K : Option Value → tm_H → Prop) : tm_A d 128 36 ls (.int u :: .int v :: st) h K ↔ tm_A d 128 37 ls (.int (v * u) :: st) h K := tm_s o128_36 rfl rfl rfl
theorem o128_37 : tm_op 128 37 = some (.iload_n 3, (0, 0, 0, 0)) := rfl
theorem r128_37 (d : Nat) (v : Int32) (l0 l1 l2 : Option Value) (st : List Value) (h : tm_H) (K : Option Value → tm_H → Prop) : tm_A d 128 37 [l0, l1, l2, some (.int v)] st h K ↔ tm_A d 128 38 [l0, l1, l2, some (.int v)] (.int v :: st) h K := tm_s o128_37 rfl rfl rfl
theorem o128_38 : tm_op 128 38 = some (.iadd, (0, 0, 0, 0)) := rfl
theorem r128_38 (d : Nat) (u v : Int32) (ls : tm_Lo) (st : List Value) (h : tm_H) (K : Option Value → tm_H → Prop) : tm_A d 128 38 ls (.int u :: .int v :: st) h K ↔ tm_A d 128 39 ls (.int (v + u) :: st) h K := tm_s o128_38 rfl rfl rfl
theorem o128_39 : tm_op 128 39 = some (.iaload, (0, 0, 0, 0)) := rfl
theorem r128_39 (d : Nat) (v : Int32) (a : Nat) (ls : tm_Lo) (st : List Value) (G : tm_G) (I : Nat → Nat → Int32) (J : Nat → Nat → Int64) (R : Nat → Nat → Option Nat) (K : Option Value → tm_H → Prop) : tm_A d 128 39 ls (.int v :: .ref a :: st) (G, I, J, R) K ↔ ((G.2.2 a).1 = 1 ∧ tm_in v (G.2.2 a).2) ∧ tm_A d 128 40 ls (.int (I a (tm_ix v)) :: st) (G, I, J, R) K := tm_iald o128_39
theorem o128_40 : tm_op 128 40 = some (.aload_n 0, (0, 0, 0, 0)) := rfl
theorem r128_40 (d : Nat) (v : Nat) (l1 l2 l3 : Option Value) (st : List Value) (h : tm_H) (K : Option Value → tm_H → Prop) : tm_A d 128 40 [some (.ref v), l1, l2, l3] st h K ↔ tm_A d 128 41 [some (.ref v), l1, l2, l3] (.ref v :: st) h K := tm_s o128_40 rfl rfl rfl
theorem o128_41 : tm_op 128 41 = some (.getfield 23, (2, 10, 11, 0)) := rfl
theorem r128_41 (d : Nat) (a : Nat) (ls : tm_Lo) (st : List Value) (G : tm_G) (I : Nat → Nat → Int32) (J : Nat → Nat → Int64) (R : Nat → Nat → Option Nat) (K : Option Value → tm_H → Prop) : tm_A d 128 41 ls (.ref a :: st) (G, I, J, R) K ↔ G.2.2 a = (0, 10) ∧ tm_A d 128 44 ls (tm_rf (R a 11) :: st) (G, I, J, R) K := tm_getR o128_41
theorem o128_44 : tm_op 128 44 = some (.bipush 6, (0, 0, 0, 0)) := rfl
theorem r128_44 (d : Nat) (ls : tm_Lo) (st : List Value) (h : tm_H) (K : Option Value → tm_H → Prop) : tm_A d 128 44 ls st h K ↔ tm_A d 128 46 ls (.int (6 : Int32) :: st) h K := tm_bp o128_44 (by decide)
theorem o128_46 : tm_op 128 46 = some (.iload_n 2, (0, 0, 0, 0)) := rfl
theorem r128_46 (d : Nat) (v : Int32) (l0 l1 l3 : Option Value) (st : List Value) (h : tm_H) (K : Option Value → tm_H → Prop) : tm_A d 128 46 [l0, l1, some (.int v), l3] st h K ↔ tm_A d 128 47 [l0, l1, some (.int v), l3] (.int v :: st) h K := tm_s o128_46 rfl rfl rfl
theorem o128_47 : tm_op 128 47 = some (.imul, (0, 0, 0, 0)) := rfl
theorem r128_47 (d : Nat) (u v : Int32) (ls : tm_Lo) (st : List Value) (h : tm_H) (K : Option Value → tm_H → Prop) : tm_A d 128 47 ls (.int u :: .int v :: st) h K ↔ tm_A d 128 48 ls (.int (v * u) :: st) h K := tm_s o128_47 rfl rfl rfl
theorem o128_48 : tm_op 128 48 = some (.iload_n 3, (0, 0, 0, 0)) := rfl
theorem r128_48 (d : Nat) (v : Int32) (l0 l1 l2 : Option Value) (st : List Value) (h : tm_H) (K : Option Value → tm_H → Prop) : tm_A d 128 48 [l0, l1, l2, some (.int v)] st h K ↔ tm_A d 128 49 [l0, l1, l2, some (.int v)] (.int v :: st) h K := tm_s o128_48 rfl rfl rfl
theorem o128_49 : tm_op 128 49 = some (.iadd, (0, 0, 0, 0)) := rfl
theorem r128_49 (d : Nat) (u v : Int32) (ls : tm_Lo) (st : List Value) (h : tm_H) (K : Option Value → tm_H → Prop) : tm_A d 128 49 ls (.int u :: .int v :: st) h K ↔ tm_A d 128 50 ls (.int (v + u) :: st) h K := tm_s o128_49 rfl rfl rfl
theorem o128_50 : tm_op 128 50 = some (.iaload, (0, 0, 0, 0)) := rfl
theorem r128_50 (d : Nat) (v : Int32) (a : Nat) (ls : tm_Lo) (st : List Value) (G : tm_G) (I : Nat → Nat → Int32) (J : Nat → Nat → Int64) (R : Nat → Nat → Option Nat) (K : Option Value → tm_H → Prop) : tm_A d 128 50 ls (.int v :: .ref a :: st) (G, I, J, R) K ↔ ((G.2.2 a).1 = 1 ∧ tm_in v (G.2.2 a).2) ∧ tm_A d 128 51 ls (.int (I a (tm_ix v)) :: st) (G, I, J, R) K := tm_iald o128_50
theorem o128_51 : tm_op 128 51 = some (.if_icmp .eq 5, (0, 0, 0, 0)) := rfl
theorem r128_51 (d : Nat) (y x : Int32) (ls : tm_Lo) (st : List Value) (h : tm_H) (K : Option Value → tm_H → Prop) : tm_A d 128 51 ls (.int y :: .int x :: st) h K ↔ if x = y then tm_A d 128 56 ls st h K else tm_A d 128 54 ls st h K := tm_b o128_51 rfl rfl rfl rfl
theorem o128_54 : tm_op 128 54 = some (.iconst 0, (0, 0, 0, 0)) := rfl
theorem r128_54 (d : Nat) (ls : tm_Lo) (st : List Value) (h : tm_H) (K : Option Value → tm_H → Prop) : tm_A d 128 54 ls st h K ↔ tm_A d 128 55 ls (.int (0 : Int32) :: st) h K := tm_ic o128_54 (by decide)
theorem o128_55 : tm_op 128 55 = some (.ireturn, (0, 0, 0, 0)) := rfl
theorem r128_55 (d : Nat) (v : Int32) (ls : tm_Lo) (h : tm_H) (K : Option Value → tm_H → Prop) : tm_A d 128 55 ls [.int v] h K ↔ (v = 0 ∨ v = 1) ∧ K (some (.int v)) h := tm_retz o128_55 rfl
theorem o128_56 : tm_op 128 56 = some (.iinc 3 1, (0, 0, 0, 0)) := rfl
theorem r128_56 (d : Nat) (v : Int32) (l0 l1 l2 : Option Value) (st : List Value) (h : tm_H) (K : Option Value → tm_H → Prop) : tm_A d 128 56 [l0, l1, l2, some (.int v)] st h K ↔ tm_A d 128 59 [l0, l1, l2, some (.int (v + (1 : Int32)))] st h K := tm_s o128_56 rfl rfl rfl
theorem o128_59 : tm_op 128 59 = some (.goto (-40), (0, 0, 0, 0)) := rfl
theorem r128_59 (d : Nat) (ls : tm_Lo) (st : List Value) (h : tm_H) (K : Option Value → tm_H → Prop) : tm_A d 128 59 ls st h K ↔ tm_A d 128 19 ls st h K := tm_s o128_59 rfl rfl rfl
theorem o128_62 : tm_op 128 62 = some (.iconst 1, (0, 0, 0, 0)) := rfl
theorem r128_62 (d : Nat) (ls : tm_Lo) (st : List Value) (h : tm_H) (K : Option Value → tm_H → Prop) : tm_A d 128 62 ls st h K ↔ tm_A d 128 63 ls (.int (1 : Int32) :: st) h K := tm_ic o128_62 (by decide)
theorem o128_63 : tm_op 128 63 = some (.ireturn, (0, 0, 0, 0)) := rfl
theorem r128_63 (d : Nat) (v : Int32) (ls : tm_Lo) (h : tm_H) (K : Option Value → tm_H → Prop) : tm_A d 128 63 ls [.int v] h K ↔ (v = 0 ∨ v = 1) ∧ K (some (.int v)) h := tm_retz o128_63 rfl
theorem o129_0 : tm_op 129 0 = some (.aload_n 0, (0, 0, 0, 0)) := rfl
theorem r129_0 (d : Nat) (v : Nat) (l1 l2 l3 l4 : Option Value) (st : List Value) (h : tm_H) (K : Option Value → tm_H → Prop) : tm_A d 129 0 [some (.ref v), l1, l2, l3, l4] st h K ↔ tm_A d 129 1 [some (.ref v), l1, l2, l3, l4] (.ref v :: st) h K := tm_s o129_0 rfl rfl rfl
theorem o129_1 : tm_op 129 1 = some (.iconst 0, (0, 0, 0, 0)) := rfl
theorem r129_1 (d : Nat) (ls : tm_Lo) (st : List Value) (h : tm_H) (K : Option Value → tm_H → Prop) : tm_A d 129 1 ls st h K ↔ tm_A d 129 2 ls (.int (0 : Int32) :: st) h K := tm_ic o129_1 (by decide)
theorem o129_2 : tm_op 129 2 = some (.putfield 123, (0, 10, 8, 0)) := rfl
theorem r129_2 (d : Nat) (v : Int32) (a : Nat) (ls : tm_Lo) (st : List Value) (G : tm_G) (I : Nat → Nat → Int32) (J : Nat → Nat → Int64) (R : Nat → Nat → Option Nat) (K : Option Value → tm_H → Prop) : tm_A d 129 2 ls (.int v :: .ref a :: st) (G, I, J, R) K ↔ G.2.2 a = (0, 10) ∧ tm_A d 129 5 ls st (G, up2 I a 8 v, J, R) K := tm_putI o129_2
theorem o129_5 : tm_op 129 5 = some (.iload_n 1, (0, 0, 0, 0)) := rfl
theorem r129_5 (d : Nat) (v : Int32) (l0 l2 l3 l4 : Option Value) (st : List Value) (h : tm_H) (K : Option Value → tm_H → Prop) : tm_A d 129 5 [l0, some (.int v), l2, l3, l4] st h K ↔ tm_A d 129 6 [l0, some (.int v), l2, l3, l4] (.int v :: st) h K := tm_s o129_5 rfl rfl rfl
theorem o129_6 : tm_op 129 6 = some (.istore_n 2, (0, 0, 0, 0)) := rfl
theorem r129_6 (d : Nat) (v : Int32) (l0 l1 l2 l3 l4 : Option Value) (st : List Value) (h : tm_H) (K : Option Value → tm_H → Prop) : tm_A d 129 6 [l0, l1, l2, l3, l4] (.int v :: st) h K ↔ tm_A d 129 7 [l0, l1, some (.int v), l3, l4] st h K := tm_s o129_6 rfl rfl rfl
theorem o129_7 : tm_op 129 7 = some (.iconst 0, (0, 0, 0, 0)) := rfl
theorem r129_7 (d : Nat) (ls : tm_Lo) (st : List Value) (h : tm_H) (K : Option Value → tm_H → Prop) : tm_A d 129 7 ls st h K ↔ tm_A d 129 8 ls (.int (0 : Int32) :: st) h K := tm_ic o129_7 (by decide)
theorem o129_8 : tm_op 129 8 = some (.istore_n 3, (0, 0, 0, 0)) := rfl
theorem r129_8 (d : Nat) (v : Int32) (l0 l1 l2 l3 l4 : Option Value) (st : List Value) (h : tm_H) (K : Option Value → tm_H → Prop) : tm_A d 129 8 [l0, l1, l2, l3, l4] (.int v :: st) h K ↔ tm_A d 129 9 [l0, l1, l2, some (.int v), l4] st h K := tm_s o129_8 rfl rfl rfl
theorem o129_9 : tm_op 129 9 = some (.aload_n 0, (0, 0, 0, 0)) := rfl
theorem r129_9 (d : Nat) (v : Nat) (l1 l2 l3 l4 : Option Value) (st : List Value) (h : tm_H) (K : Option Value → tm_H → Prop) : tm_A d 129 9 [some (.ref v), l1, l2, l3, l4] st h K ↔ tm_A d 129 10 [some (.ref v), l1, l2, l3, l4] (.ref v :: st) h K := tm_s o129_9 rfl rfl rfl
theorem o129_10 : tm_op 129 10 = some (.iload_n 2, (0, 0, 0, 0)) := rfl
theorem r129_10 (d : Nat) (v : Int32) (l0 l1 l3 l4 : Option Value) (st : List Value) (h : tm_H) (K : Option Value → tm_H → Prop) : tm_A d 129 10 [l0, l1, some (.int v), l3, l4] st h K ↔ tm_A d 129 11 [l0, l1, some (.int v), l3, l4] (.int v :: st) h K := tm_s o129_10 rfl rfl rfl
theorem o129_11 : tm_op 129 11 = some (.invokevirtual 97, (2, 122, 2, 10)) := rfl
theorem r129_11 (d : Nat) (v1 : Int32) (a : Nat) (ls : tm_Lo) (st : List Value) (h : tm_H) (K : Option Value → tm_H → Prop) : tm_A (d + 1) 129 11 ls (.int v1 :: .ref a :: st) h K ↔ (h.1.2.2 a = (0, 10) ∧ tm_cs st) ∧ tm_R d 122 [.ref a, .int v1] h (fun r h' => tm_A (d + 1) 129 14 ls (r.toList ++ st) h' K) := tm_callV (as := [.int v1]) o129_11 rfl rfl rfl rfl
theorem o129_14 : tm_op 129 14 = some (.invokestatic 126, (1, 124, 1, 0)) := rfl
theorem r129_14 (d : Nat) (v0 : Int32) (ls : tm_Lo) (st : List Value) (h : tm_H) (K : Option Value → tm_H → Prop) : tm_A (d + 1) 129 14 ls (.int v0 :: st) h K ↔ tm_cs st ∧ tm_R d 124 [.int v0] h (fun r h' => tm_A (d + 1) 129 17 ls (r.toList ++ st) h' K) := tm_callS (as := [.int v0]) o129_14 rfl rfl rfl rfl
theorem o129_17 : tm_op 129 17 = some (.ifCond .eq 46, (0, 0, 0, 0)) := rfl
theorem r129_17 (d : Nat) (x : Int32) (ls : tm_Lo) (st : List Value) (h : tm_H) (K : Option Value → tm_H → Prop) : tm_A d 129 17 ls (.int x :: st) h K ↔ if x = 0 then tm_A d 129 63 ls st h K else tm_A d 129 20 ls st h K := tm_b o129_17 rfl rfl rfl rfl
theorem o129_20 : tm_op 129 20 = some (.iload_n 3, (0, 0, 0, 0)) := rfl
theorem r129_20 (d : Nat) (v : Int32) (l0 l1 l2 l4 : Option Value) (st : List Value) (h : tm_H) (K : Option Value → tm_H → Prop) : tm_A d 129 20 [l0, l1, l2, some (.int v), l4] st h K ↔ tm_A d 129 21 [l0, l1, l2, some (.int v), l4] (.int v :: st) h K := tm_s o129_20 rfl rfl rfl
theorem o129_21 : tm_op 129 21 = some (.bipush 6, (0, 0, 0, 0)) := rfl
theorem r129_21 (d : Nat) (ls : tm_Lo) (st : List Value) (h : tm_H) (K : Option Value → tm_H → Prop) : tm_A d 129 21 ls st h K ↔ tm_A d 129 23 ls (.int (6 : Int32) :: st) h K := tm_bp o129_21 (by decide)
theorem o129_23 : tm_op 129 23 = some (.if_icmp .ge 31, (0, 0, 0, 0)) := rfl
theorem r129_23 (d : Nat) (y x : Int32) (ls : tm_Lo) (st : List Value) (h : tm_H) (K : Option Value → tm_H → Prop) : tm_A d 129 23 ls (.int y :: .int x :: st) h K ↔ if y ≤ x then tm_A d 129 54 ls st h K else tm_A d 129 26 ls st h K := tm_b o129_23 rfl rfl rfl rfl
theorem o129_26 : tm_op 129 26 = some (.aload_n 0, (0, 0, 0, 0)) := rfl
theorem r129_26 (d : Nat) (v : Nat) (l1 l2 l3 l4 : Option Value) (st : List Value) (h : tm_H) (K : Option Value → tm_H → Prop) : tm_A d 129 26 [some (.ref v), l1, l2, l3, l4] st h K ↔ tm_A d 129 27 [some (.ref v), l1, l2, l3, l4] (.ref v :: st) h K := tm_s o129_26 rfl rfl rfl
theorem o129_27 : tm_op 129 27 = some (.getfield 123, (0, 10, 8, 0)) := rfl
theorem r129_27 (d : Nat) (a : Nat) (ls : tm_Lo) (st : List Value) (G : tm_G) (I : Nat → Nat → Int32) (J : Nat → Nat → Int64) (R : Nat → Nat → Option Nat) (K : Option Value → tm_H → Prop) : tm_A d 129 27 ls (.ref a :: st) (G, I, J, R) K ↔ G.2.2 a = (0, 10) ∧ tm_A d 129 30 ls (.int (I a 8) :: st) (G, I, J, R) K := tm_getI o129_27
theorem o129_30 : tm_op 129 30 = some (.iconst 3, (0, 0, 0, 0)) := rfl
theorem r129_30 (d : Nat) (ls : tm_Lo) (st : List Value) (h : tm_H) (K : Option Value → tm_H → Prop) : tm_A d 129 30 ls st h K ↔ tm_A d 129 31 ls (.int (3 : Int32) :: st) h K := tm_ic o129_30 (by decide)
theorem o129_31 : tm_op 129 31 = some (.if_icmp .ge 23, (0, 0, 0, 0)) := rfl
theorem r129_31 (d : Nat) (y x : Int32) (ls : tm_Lo) (st : List Value) (h : tm_H) (K : Option Value → tm_H → Prop) : tm_A d 129 31 ls (.int y :: .int x :: st) h K ↔ if y ≤ x then tm_A d 129 54 ls st h K else tm_A d 129 34 ls st h K := tm_b o129_31 rfl rfl rfl rfl
theorem o129_34 : tm_op 129 34 = some (.aload_n 0, (0, 0, 0, 0)) := rfl
theorem r129_34 (d : Nat) (v : Nat) (l1 l2 l3 l4 : Option Value) (st : List Value) (h : tm_H) (K : Option Value → tm_H → Prop) : tm_A d 129 34 [some (.ref v), l1, l2, l3, l4] st h K ↔ tm_A d 129 35 [some (.ref v), l1, l2, l3, l4] (.ref v :: st) h K := tm_s o129_34 rfl rfl rfl
theorem o129_35 : tm_op 129 35 = some (.getfield 23, (2, 10, 11, 0)) := rfl
theorem r129_35 (d : Nat) (a : Nat) (ls : tm_Lo) (st : List Value) (G : tm_G) (I : Nat → Nat → Int32) (J : Nat → Nat → Int64) (R : Nat → Nat → Option Nat) (K : Option Value → tm_H → Prop) : tm_A d 129 35 ls (.ref a :: st) (G, I, J, R) K ↔ G.2.2 a = (0, 10) ∧ tm_A d 129 38 ls (tm_rf (R a 11) :: st) (G, I, J, R) K := tm_getR o129_35
theorem o129_38 : tm_op 129 38 = some (.bipush 6, (0, 0, 0, 0)) := rfl
theorem r129_38 (d : Nat) (ls : tm_Lo) (st : List Value) (h : tm_H) (K : Option Value → tm_H → Prop) : tm_A d 129 38 ls st h K ↔ tm_A d 129 40 ls (.int (6 : Int32) :: st) h K := tm_bp o129_38 (by decide)
theorem o129_40 : tm_op 129 40 = some (.aload_n 0, (0, 0, 0, 0)) := rfl
theorem r129_40 (d : Nat) (v : Nat) (l1 l2 l3 l4 : Option Value) (st : List Value) (h : tm_H) (K : Option Value → tm_H → Prop) : tm_A d 129 40 [some (.ref v), l1, l2, l3, l4] st h K ↔ tm_A d 129 41 [some (.ref v), l1, l2, l3, l4] (.ref v :: st) h K := tm_s o129_40 rfl rfl rfl
theorem o129_41 : tm_op 129 41 = some (.getfield 123, (0, 10, 8, 0)) := rfl
theorem r129_41 (d : Nat) (a : Nat) (ls : tm_Lo) (st : List Value) (G : tm_G) (I : Nat → Nat → Int32) (J : Nat → Nat → Int64) (R : Nat → Nat → Option Nat) (K : Option Value → tm_H → Prop) : tm_A d 129 41 ls (.ref a :: st) (G, I, J, R) K ↔ G.2.2 a = (0, 10) ∧ tm_A d 129 44 ls (.int (I a 8) :: st) (G, I, J, R) K := tm_getI o129_41
theorem o129_44 : tm_op 129 44 = some (.imul, (0, 0, 0, 0)) := rfl
theorem r129_44 (d : Nat) (u v : Int32) (ls : tm_Lo) (st : List Value) (h : tm_H) (K : Option Value → tm_H → Prop) : tm_A d 129 44 ls (.int u :: .int v :: st) h K ↔ tm_A d 129 45 ls (.int (v * u) :: st) h K := tm_s o129_44 rfl rfl rfl
theorem o129_45 : tm_op 129 45 = some (.iload_n 3, (0, 0, 0, 0)) := rfl
theorem r129_45 (d : Nat) (v : Int32) (l0 l1 l2 l4 : Option Value) (st : List Value) (h : tm_H) (K : Option Value → tm_H → Prop) : tm_A d 129 45 [l0, l1, l2, some (.int v), l4] st h K ↔ tm_A d 129 46 [l0, l1, l2, some (.int v), l4] (.int v :: st) h K := tm_s o129_45 rfl rfl rfl
theorem o129_46 : tm_op 129 46 = some (.iadd, (0, 0, 0, 0)) := rfl
theorem r129_46 (d : Nat) (u v : Int32) (ls : tm_Lo) (st : List Value) (h : tm_H) (K : Option Value → tm_H → Prop) : tm_A d 129 46 ls (.int u :: .int v :: st) h K ↔ tm_A d 129 47 ls (.int (v + u) :: st) h K := tm_s o129_46 rfl rfl rfl
theorem o129_47 : tm_op 129 47 = some (.aload_n 0, (0, 0, 0, 0)) := rfl
theorem r129_47 (d : Nat) (v : Nat) (l1 l2 l3 l4 : Option Value) (st : List Value) (h : tm_H) (K : Option Value → tm_H → Prop) : tm_A d 129 47 [some (.ref v), l1, l2, l3, l4] st h K ↔ tm_A d 129 48 [some (.ref v), l1, l2, l3, l4] (.ref v :: st) h K := tm_s o129_47 rfl rfl rfl
theorem o129_48 : tm_op 129 48 = some (.getfield 16, (2, 10, 5, 0)) := rfl
theorem r129_48 (d : Nat) (a : Nat) (ls : tm_Lo) (st : List Value) (G : tm_G) (I : Nat → Nat → Int32) (J : Nat → Nat → Int64) (R : Nat → Nat → Option Nat) (K : Option Value → tm_H → Prop) : tm_A d 129 48 ls (.ref a :: st) (G, I, J, R) K ↔ G.2.2 a = (0, 10) ∧ tm_A d 129 51 ls (tm_rf (R a 5) :: st) (G, I, J, R) K := tm_getR o129_48
theorem o129_51 : tm_op 129 51 = some (.iload_n 2, (0, 0, 0, 0)) := rfl
theorem r129_51 (d : Nat) (v : Int32) (l0 l1 l3 l4 : Option Value) (st : List Value) (h : tm_H) (K : Option Value → tm_H → Prop) : tm_A d 129 51 [l0, l1, some (.int v), l3, l4] st h K ↔ tm_A d 129 52 [l0, l1, some (.int v), l3, l4] (.int v :: st) h K := tm_s o129_51 rfl rfl rfl
theorem o129_52 : tm_op 129 52 = some (.iaload, (0, 0, 0, 0)) := rfl
theorem r129_52 (d : Nat) (v : Int32) (a : Nat) (ls : tm_Lo) (st : List Value) (G : tm_G) (I : Nat → Nat → Int32) (J : Nat → Nat → Int64) (R : Nat → Nat → Option Nat) (K : Option Value → tm_H → Prop) : tm_A d 129 52 ls (.int v :: .ref a :: st) (G, I, J, R) K ↔ ((G.2.2 a).1 = 1 ∧ tm_in v (G.2.2 a).2) ∧ tm_A d 129 53 ls (.int (I a (tm_ix v)) :: st) (G, I, J, R) K := tm_iald o129_52
theorem o129_53 : tm_op 129 53 = some (.iastore, (0, 0, 0, 0)) := rfl
theorem r129_53 (d : Nat) (u v : Int32) (a : Nat) (ls : tm_Lo) (st : List Value) (G : tm_G) (I : Nat → Nat → Int32) (J : Nat → Nat → Int64) (R : Nat → Nat → Option Nat) (K : Option Value → tm_H → Prop) : tm_A d 129 53 ls (.int u :: .int v :: .ref a :: st) (G, I, J, R) K ↔ (3 ≤ a ∧ (G.2.2 a).1 = 1 ∧ tm_in v (G.2.2 a).2) ∧ tm_A d 129 54 ls st (G, up2 I a (tm_ix v) u, J, R) K := tm_iast o129_53
theorem o129_54 : tm_op 129 54 = some (.iinc 3 1, (0, 0, 0, 0)) := rfl
theorem r129_54 (d : Nat) (v : Int32) (l0 l1 l2 l4 : Option Value) (st : List Value) (h : tm_H) (K : Option Value → tm_H → Prop) : tm_A d 129 54 [l0, l1, l2, some (.int v), l4] st h K ↔ tm_A d 129 57 [l0, l1, l2, some (.int (v + (1 : Int32))), l4] st h K := tm_s o129_54 rfl rfl rfl
theorem o129_57 : tm_op 129 57 = some (.iinc 2 1, (0, 0, 0, 0)) := rfl
theorem r129_57 (d : Nat) (v : Int32) (l0 l1 l3 l4 : Option Value) (st : List Value) (h : tm_H) (K : Option Value → tm_H → Prop) : tm_A d 129 57 [l0, l1, some (.int v), l3, l4] st h K ↔ tm_A d 129 60 [l0, l1, some (.int (v + (1 : Int32))), l3, l4] st h K := tm_s o129_57 rfl rfl rfl
theorem o129_60 : tm_op 129 60 = some (.goto (-51), (0, 0, 0, 0)) := rfl
theorem r129_60 (d : Nat) (ls : tm_Lo) (st : List Value) (h : tm_H) (K : Option Value → tm_H → Prop) : tm_A d 129 60 ls st h K ↔ tm_A d 129 9 ls st h K := tm_s o129_60 rfl rfl rfl
theorem o129_63 : tm_op 129 63 = some (.iload_n 3, (0, 0, 0, 0)) := rfl
theorem r129_63 (d : Nat) (v : Int32) (l0 l1 l2 l4 : Option Value) (st : List Value) (h : tm_H) (K : Option Value → tm_H → Prop) : tm_A d 129 63 [l0, l1, l2, some (.int v), l4] st h K ↔ tm_A d 129 64 [l0, l1, l2, some (.int v), l4] (.int v :: st) h K := tm_s o129_63 rfl rfl rfl
theorem o129_64 : tm_op 129 64 = some (.ifCond .eq 17, (0, 0, 0, 0)) := rfl
theorem r129_64 (d : Nat) (x : Int32) (ls : tm_Lo) (st : List Value) (h : tm_H) (K : Option Value → tm_H → Prop) : tm_A d 129 64 ls (.int x :: st) h K ↔ if x = 0 then tm_A d 129 81 ls st h K else tm_A d 129 67 ls st h K := tm_b o129_64 rfl rfl rfl rfl
theorem o129_67 : tm_op 129 67 = some (.iload_n 3, (0, 0, 0, 0)) := rfl
theorem r129_67 (d : Nat) (v : Int32) (l0 l1 l2 l4 : Option Value) (st : List Value) (h : tm_H) (K : Option Value → tm_H → Prop) : tm_A d 129 67 [l0, l1, l2, some (.int v), l4] st h K ↔ tm_A d 129 68 [l0, l1, l2, some (.int v), l4] (.int v :: st) h K := tm_s o129_67 rfl rfl rfl
theorem o129_68 : tm_op 129 68 = some (.bipush 6, (0, 0, 0, 0)) := rfl
theorem r129_68 (d : Nat) (ls : tm_Lo) (st : List Value) (h : tm_H) (K : Option Value → tm_H → Prop) : tm_A d 129 68 ls st h K ↔ tm_A d 129 70 ls (.int (6 : Int32) :: st) h K := tm_bp o129_68 (by decide)
theorem o129_70 : tm_op 129 70 = some (.if_icmp .gt 11, (0, 0, 0, 0)) := rfl
theorem r129_70 (d : Nat) (y x : Int32) (ls : tm_Lo) (st : List Value) (h : tm_H) (K : Option Value → tm_H → Prop) : tm_A d 129 70 ls (.int y :: .int x :: st) h K ↔ if y < x then tm_A d 129 81 ls st h K else tm_A d 129 73 ls st h K := tm_b o129_70 rfl rfl rfl rfl
theorem o129_73 : tm_op 129 73 = some (.aload_n 0, (0, 0, 0, 0)) := rfl
theorem r129_73 (d : Nat) (v : Nat) (l1 l2 l3 l4 : Option Value) (st : List Value) (h : tm_H) (K : Option Value → tm_H → Prop) : tm_A d 129 73 [some (.ref v), l1, l2, l3, l4] st h K ↔ tm_A d 129 74 [some (.ref v), l1, l2, l3, l4] (.ref v :: st) h K := tm_s o129_73 rfl rfl rfl
theorem o129_74 : tm_op 129 74 = some (.getfield 123, (0, 10, 8, 0)) := rfl
theorem r129_74 (d : Nat) (a : Nat) (ls : tm_Lo) (st : List Value) (G : tm_G) (I : Nat → Nat → Int32) (J : Nat → Nat → Int64) (R : Nat → Nat → Option Nat) (K : Option Value → tm_H → Prop) : tm_A d 129 74 ls (.ref a :: st) (G, I, J, R) K ↔ G.2.2 a = (0, 10) ∧ tm_A d 129 77 ls (.int (I a 8) :: st) (G, I, J, R) K := tm_getI o129_74
theorem o129_77 : tm_op 129 77 = some (.iconst 3, (0, 0, 0, 0)) := rfl
theorem r129_77 (d : Nat) (ls : tm_Lo) (st : List Value) (h : tm_H) (K : Option Value → tm_H → Prop) : tm_A d 129 77 ls st h K ↔ tm_A d 129 78 ls (.int (3 : Int32) :: st) h K := tm_ic o129_77 (by decide)
theorem o129_78 : tm_op 129 78 = some (.if_icmp .ne 5, (0, 0, 0, 0)) := rfl
theorem r129_78 (d : Nat) (y x : Int32) (ls : tm_Lo) (st : List Value) (h : tm_H) (K : Option Value → tm_H → Prop) : tm_A d 129 78 ls (.int y :: .int x :: st) h K ↔ if ¬ x = y then tm_A d 129 83 ls st h K else tm_A d 129 81 ls st h K := tm_b o129_78 rfl rfl rfl rfl
theorem o129_81 : tm_op 129 81 = some (.iconst (-1), (0, 0, 0, 0)) := rfl
theorem r129_81 (d : Nat) (ls : tm_Lo) (st : List Value) (h : tm_H) (K : Option Value → tm_H → Prop) : tm_A d 129 81 ls st h K ↔ tm_A d 129 82 ls (.int (-1 : Int32) :: st) h K := tm_ic o129_81 (by decide)
theorem o129_82 : tm_op 129 82 = some (.ireturn, (0, 0, 0, 0)) := rfl
theorem r129_82 (d : Nat) (v : Int32) (ls : tm_Lo) (h : tm_H) (K : Option Value → tm_H → Prop) : tm_A d 129 82 ls [.int v] h K ↔ K (some (.int v)) h := tm_reti o129_82 rfl
theorem o129_83 : tm_op 129 83 = some (.aload_n 0, (0, 0, 0, 0)) := rfl
theorem r129_83 (d : Nat) (v : Nat) (l1 l2 l3 l4 : Option Value) (st : List Value) (h : tm_H) (K : Option Value → tm_H → Prop) : tm_A d 129 83 [some (.ref v), l1, l2, l3, l4] st h K ↔ tm_A d 129 84 [some (.ref v), l1, l2, l3, l4] (.ref v :: st) h K := tm_s o129_83 rfl rfl rfl
theorem o129_84 : tm_op 129 84 = some (.getfield 26, (2, 10, 12, 0)) := rfl
theorem r129_84 (d : Nat) (a : Nat) (ls : tm_Lo) (st : List Value) (G : tm_G) (I : Nat → Nat → Int32) (J : Nat → Nat → Int64) (R : Nat → Nat → Option Nat) (K : Option Value → tm_H → Prop) : tm_A d 129 84 ls (.ref a :: st) (G, I, J, R) K ↔ G.2.2 a = (0, 10) ∧ tm_A d 129 87 ls (tm_rf (R a 12) :: st) (G, I, J, R) K := tm_getR o129_84
theorem o129_87 : tm_op 129 87 = some (.aload_n 0, (0, 0, 0, 0)) := rfl
theorem r129_87 (d : Nat) (v : Nat) (l1 l2 l3 l4 : Option Value) (st : List Value) (h : tm_H) (K : Option Value → tm_H → Prop) : tm_A d 129 87 [some (.ref v), l1, l2, l3, l4] st h K ↔ tm_A d 129 88 [some (.ref v), l1, l2, l3, l4] (.ref v :: st) h K := tm_s o129_87 rfl rfl rfl
theorem o129_88 : tm_op 129 88 = some (.getfield 123, (0, 10, 8, 0)) := rfl
theorem r129_88 (d : Nat) (a : Nat) (ls : tm_Lo) (st : List Value) (G : tm_G) (I : Nat → Nat → Int32) (J : Nat → Nat → Int64) (R : Nat → Nat → Option Nat) (K : Option Value → tm_H → Prop) : tm_A d 129 88 ls (.ref a :: st) (G, I, J, R) K ↔ G.2.2 a = (0, 10) ∧ tm_A d 129 91 ls (.int (I a 8) :: st) (G, I, J, R) K := tm_getI o129_88
theorem o129_91 : tm_op 129 91 = some (.iload_n 3, (0, 0, 0, 0)) := rfl
theorem r129_91 (d : Nat) (v : Int32) (l0 l1 l2 l4 : Option Value) (st : List Value) (h : tm_H) (K : Option Value → tm_H → Prop) : tm_A d 129 91 [l0, l1, l2, some (.int v), l4] st h K ↔ tm_A d 129 92 [l0, l1, l2, some (.int v), l4] (.int v :: st) h K := tm_s o129_91 rfl rfl rfl
theorem o129_92 : tm_op 129 92 = some (.iastore, (0, 0, 0, 0)) := rfl
theorem r129_92 (d : Nat) (u v : Int32) (a : Nat) (ls : tm_Lo) (st : List Value) (G : tm_G) (I : Nat → Nat → Int32) (J : Nat → Nat → Int64) (R : Nat → Nat → Option Nat) (K : Option Value → tm_H → Prop) : tm_A d 129 92 ls (.int u :: .int v :: .ref a :: st) (G, I, J, R) K ↔ (3 ≤ a ∧ (G.2.2 a).1 = 1 ∧ tm_in v (G.2.2 a).2) ∧ tm_A d 129 93 ls st (G, up2 I a (tm_ix v) u, J, R) K := tm_iast o129_92
theorem o129_93 : tm_op 129 93 = some (.iconst 0, (0, 0, 0, 0)) := rfl
theorem r129_93 (d : Nat) (ls : tm_Lo) (st : List Value) (h : tm_H) (K : Option Value → tm_H → Prop) : tm_A d 129 93 ls st h K ↔ tm_A d 129 94 ls (.int (0 : Int32) :: st) h K := tm_ic o129_93 (by decide)
theorem o129_94 : tm_op 129 94 = some (.istore 4, (0, 0, 0, 0)) := rfl
theorem r129_94 (d : Nat) (v : Int32) (l0 l1 l2 l3 l4 : Option Value) (st : List Value) (h : tm_H) (K : Option Value → tm_H → Prop) : tm_A d 129 94 [l0, l1, l2, l3, l4] (.int v :: st) h K ↔ tm_A d 129 96 [l0, l1, l2, l3, some (.int v)] st h K := tm_s o129_94 rfl rfl rfl
theorem o129_96 : tm_op 129 96 = some (.iload 4, (0, 0, 0, 0)) := rfl
theorem r129_96 (d : Nat) (v : Int32) (l0 l1 l2 l3 : Option Value) (st : List Value) (h : tm_H) (K : Option Value → tm_H → Prop) : tm_A d 129 96 [l0, l1, l2, l3, some (.int v)] st h K ↔ tm_A d 129 98 [l0, l1, l2, l3, some (.int v)] (.int v :: st) h K := tm_s o129_96 rfl rfl rfl
theorem o129_98 : tm_op 129 98 = some (.aload_n 0, (0, 0, 0, 0)) := rfl
theorem r129_98 (d : Nat) (v : Nat) (l1 l2 l3 l4 : Option Value) (st : List Value) (h : tm_H) (K : Option Value → tm_H → Prop) : tm_A d 129 98 [some (.ref v), l1, l2, l3, l4] st h K ↔ tm_A d 129 99 [some (.ref v), l1, l2, l3, l4] (.ref v :: st) h K := tm_s o129_98 rfl rfl rfl
theorem o129_99 : tm_op 129 99 = some (.getfield 123, (0, 10, 8, 0)) := rfl
theorem r129_99 (d : Nat) (a : Nat) (ls : tm_Lo) (st : List Value) (G : tm_G) (I : Nat → Nat → Int32) (J : Nat → Nat → Int64) (R : Nat → Nat → Option Nat) (K : Option Value → tm_H → Prop) : tm_A d 129 99 ls (.ref a :: st) (G, I, J, R) K ↔ G.2.2 a = (0, 10) ∧ tm_A d 129 102 ls (.int (I a 8) :: st) (G, I, J, R) K := tm_getI o129_99
theorem o129_102 : tm_op 129 102 = some (.if_icmp .ge 24, (0, 0, 0, 0)) := rfl
theorem r129_102 (d : Nat) (y x : Int32) (ls : tm_Lo) (st : List Value) (h : tm_H) (K : Option Value → tm_H → Prop) : tm_A d 129 102 ls (.int y :: .int x :: st) h K ↔ if y ≤ x then tm_A d 129 126 ls st h K else tm_A d 129 105 ls st h K := tm_b o129_102 rfl rfl rfl rfl
theorem o129_105 : tm_op 129 105 = some (.aload_n 0, (0, 0, 0, 0)) := rfl
theorem r129_105 (d : Nat) (v : Nat) (l1 l2 l3 l4 : Option Value) (st : List Value) (h : tm_H) (K : Option Value → tm_H → Prop) : tm_A d 129 105 [some (.ref v), l1, l2, l3, l4] st h K ↔ tm_A d 129 106 [some (.ref v), l1, l2, l3, l4] (.ref v :: st) h K := tm_s o129_105 rfl rfl rfl
theorem o129_106 : tm_op 129 106 = some (.iload 4, (0, 0, 0, 0)) := rfl
theorem r129_106 (d : Nat) (v : Int32) (l0 l1 l2 l3 : Option Value) (st : List Value) (h : tm_H) (K : Option Value → tm_H → Prop) : tm_A d 129 106 [l0, l1, l2, l3, some (.int v)] st h K ↔ tm_A d 129 108 [l0, l1, l2, l3, some (.int v)] (.int v :: st) h K := tm_s o129_106 rfl rfl rfl
theorem o129_108 : tm_op 129 108 = some (.aload_n 0, (0, 0, 0, 0)) := rfl
theorem r129_108 (d : Nat) (v : Nat) (l1 l2 l3 l4 : Option Value) (st : List Value) (h : tm_H) (K : Option Value → tm_H → Prop) : tm_A d 129 108 [some (.ref v), l1, l2, l3, l4] st h K ↔ tm_A d 129 109 [some (.ref v), l1, l2, l3, l4] (.ref v :: st) h K := tm_s o129_108 rfl rfl rfl
theorem o129_109 : tm_op 129 109 = some (.getfield 123, (0, 10, 8, 0)) := rfl
theorem r129_109 (d : Nat) (a : Nat) (ls : tm_Lo) (st : List Value) (G : tm_G) (I : Nat → Nat → Int32) (J : Nat → Nat → Int64) (R : Nat → Nat → Option Nat) (K : Option Value → tm_H → Prop) : tm_A d 129 109 ls (.ref a :: st) (G, I, J, R) K ↔ G.2.2 a = (0, 10) ∧ tm_A d 129 112 ls (.int (I a 8) :: st) (G, I, J, R) K := tm_getI o129_109
theorem o129_112 : tm_op 129 112 = some (.invokevirtual 129, (2, 128, 3, 10)) := rfl
theorem r129_112 (d : Nat) (v1 : Int32) (v2 : Int32) (a : Nat) (ls : tm_Lo) (st : List Value) (h : tm_H) (K : Option Value → tm_H → Prop) : tm_A (d + 1) 129 112 ls (.int v2 :: .int v1 :: .ref a :: st) h K ↔ (h.1.2.2 a = (0, 10) ∧ tm_cs st) ∧ tm_R d 128 [.ref a, .int v1, .int v2] h (fun r h' => tm_A (d + 1) 129 115 ls (r.toList ++ st) h' K) := tm_callV (as := [.int v1, .int v2]) o129_112 rfl rfl rfl rfl
theorem o129_115 : tm_op 129 115 = some (.ifCond .eq 5, (0, 0, 0, 0)) := rfl
theorem r129_115 (d : Nat) (x : Int32) (ls : tm_Lo) (st : List Value) (h : tm_H) (K : Option Value → tm_H → Prop) : tm_A d 129 115 ls (.int x :: st) h K ↔ if x = 0 then tm_A d 129 120 ls st h K else tm_A d 129 118 ls st h K := tm_b o129_115 rfl rfl rfl rfl
theorem o129_118 : tm_op 129 118 = some (.iconst (-1), (0, 0, 0, 0)) := rfl
theorem r129_118 (d : Nat) (ls : tm_Lo) (st : List Value) (h : tm_H) (K : Option Value → tm_H → Prop) : tm_A d 129 118 ls st h K ↔ tm_A d 129 119 ls (.int (-1 : Int32) :: st) h K := tm_ic o129_118 (by decide)
theorem o129_119 : tm_op 129 119 = some (.ireturn, (0, 0, 0, 0)) := rfl
theorem r129_119 (d : Nat) (v : Int32) (ls : tm_Lo) (h : tm_H) (K : Option Value → tm_H → Prop) : tm_A d 129 119 ls [.int v] h K ↔ K (some (.int v)) h := tm_reti o129_119 rfl
theorem o129_120 : tm_op 129 120 = some (.iinc 4 1, (0, 0, 0, 0)) := rfl
theorem r129_120 (d : Nat) (v : Int32) (l0 l1 l2 l3 : Option Value) (st : List Value) (h : tm_H) (K : Option Value → tm_H → Prop) : tm_A d 129 120 [l0, l1, l2, l3, some (.int v)] st h K ↔ tm_A d 129 123 [l0, l1, l2, l3, some (.int (v + (1 : Int32)))] st h K := tm_s o129_120 rfl rfl rfl
theorem o129_123 : tm_op 129 123 = some (.goto (-27), (0, 0, 0, 0)) := rfl
theorem r129_123 (d : Nat) (ls : tm_Lo) (st : List Value) (h : tm_H) (K : Option Value → tm_H → Prop) : tm_A d 129 123 ls st h K ↔ tm_A d 129 96 ls st h K := tm_s o129_123 rfl rfl rfl
theorem o129_126 : tm_op 129 126 = some (.aload_n 0, (0, 0, 0, 0)) := rfl
theorem r129_126 (d : Nat) (v : Nat) (l1 l2 l3 l4 : Option Value) (st : List Value) (h : tm_H) (K : Option Value → tm_H → Prop) : tm_A d 129 126 [some (.ref v), l1, l2, l3, l4] st h K ↔ tm_A d 129 127 [some (.ref v), l1, l2, l3, l4] (.ref v :: st) h K := tm_s o129_126 rfl rfl rfl
theorem o129_127 : tm_op 129 127 = some (.dup, (0, 0, 0, 0)) := rfl
theorem r129_127 (d : Nat) (v : Nat) (ls : tm_Lo) (st : List Value) (h : tm_H) (K : Option Value → tm_H → Prop) : tm_A d 129 127 ls (.ref v :: st) h K ↔ tm_A d 129 128 ls (.ref v :: .ref v :: st) h K := tm_s o129_127 rfl rfl rfl
theorem r129_127i (d : Nat) (v : Int32) (ls : tm_Lo) (st : List Value) (h : tm_H) (K : Option Value → tm_H → Prop) : tm_A d 129 127 ls (.int v :: st) h K ↔ tm_A d 129 128 ls (.int v :: .int v :: st) h K := tm_s o129_127 rfl rfl rfl
theorem o129_128 : tm_op 129 128 = some (.getfield 123, (0, 10, 8, 0)) := rfl
theorem r129_128 (d : Nat) (a : Nat) (ls : tm_Lo) (st : List Value) (G : tm_G) (I : Nat → Nat → Int32) (J : Nat → Nat → Int64) (R : Nat → Nat → Option Nat) (K : Option Value → tm_H → Prop) : tm_A d 129 128 ls (.ref a :: st) (G, I, J, R) K ↔ G.2.2 a = (0, 10) ∧ tm_A d 129 131 ls (.int (I a 8) :: st) (G, I, J, R) K := tm_getI o129_128
theorem o129_131 : tm_op 129 131 = some (.iconst 1, (0, 0, 0, 0)) := rfl
theorem r129_131 (d : Nat) (ls : tm_Lo) (st : List Value) (h : tm_H) (K : Option Value → tm_H → Prop) : tm_A d 129 131 ls st h K ↔ tm_A d 129 132 ls (.int (1 : Int32) :: st) h K := tm_ic o129_131 (by decide)
theorem o129_132 : tm_op 129 132 = some (.iadd, (0, 0, 0, 0)) := rfl
theorem r129_132 (d : Nat) (u v : Int32) (ls : tm_Lo) (st : List Value) (h : tm_H) (K : Option Value → tm_H → Prop) : tm_A d 129 132 ls (.int u :: .int v :: st) h K ↔ tm_A d 129 133 ls (.int (v + u) :: st) h K := tm_s o129_132 rfl rfl rfl
theorem o129_133 : tm_op 129 133 = some (.putfield 123, (0, 10, 8, 0)) := rfl
theorem r129_133 (d : Nat) (v : Int32) (a : Nat) (ls : tm_Lo) (st : List Value) (G : tm_G) (I : Nat → Nat → Int32) (J : Nat → Nat → Int64) (R : Nat → Nat → Option Nat) (K : Option Value → tm_H → Prop) : tm_A d 129 133 ls (.int v :: .ref a :: st) (G, I, J, R) K ↔ G.2.2 a = (0, 10) ∧ tm_A d 129 136 ls st (G, up2 I a 8 v, J, R) K := tm_putI o129_133
theorem o129_136 : tm_op 129 136 = some (.aload_n 0, (0, 0, 0, 0)) := rfl
theorem r129_136 (d : Nat) (v : Nat) (l1 l2 l3 l4 : Option Value) (st : List Value) (h : tm_H) (K : Option Value → tm_H → Prop) : tm_A d 129 136 [some (.ref v), l1, l2, l3, l4] st h K ↔ tm_A d 129 137 [some (.ref v), l1, l2, l3, l4] (.ref v :: st) h K := tm_s o129_136 rfl rfl rfl
theorem o129_137 : tm_op 129 137 = some (.iload_n 2, (0, 0, 0, 0)) := rfl
theorem r129_137 (d : Nat) (v : Int32) (l0 l1 l3 l4 : Option Value) (st : List Value) (h : tm_H) (K : Option Value → tm_H → Prop) : tm_A d 129 137 [l0, l1, some (.int v), l3, l4] st h K ↔ tm_A d 129 138 [l0, l1, some (.int v), l3, l4] (.int v :: st) h K := tm_s o129_137 rfl rfl rfl
theorem o129_138 : tm_op 129 138 = some (.invokevirtual 97, (2, 122, 2, 10)) := rfl
theorem r129_138 (d : Nat) (v1 : Int32) (a : Nat) (ls : tm_Lo) (st : List Value) (h : tm_H) (K : Option Value → tm_H → Prop) : tm_A (d + 1) 129 138 ls (.int v1 :: .ref a :: st) h K ↔ (h.1.2.2 a = (0, 10) ∧ tm_cs st) ∧ tm_R d 122 [.ref a, .int v1] h (fun r h' => tm_A (d + 1) 129 141 ls (r.toList ++ st) h' K) := tm_callV (as := [.int v1]) o129_138 rfl rfl rfl rfl
theorem o129_141 : tm_op 129 141 = some (.bipush 44, (0, 0, 0, 0)) := rfl
theorem r129_141 (d : Nat) (ls : tm_Lo) (st : List Value) (h : tm_H) (K : Option Value → tm_H → Prop) : tm_A d 129 141 ls st h K ↔ tm_A d 129 143 ls (.int (44 : Int32) :: st) h K := tm_bp o129_141 (by decide)
theorem o129_143 : tm_op 129 143 = some (.if_icmp .eq 5, (0, 0, 0, 0)) := rfl
theorem r129_143 (d : Nat) (y x : Int32) (ls : tm_Lo) (st : List Value) (h : tm_H) (K : Option Value → tm_H → Prop) : tm_A d 129 143 ls (.int y :: .int x :: st) h K ↔ if x = y then tm_A d 129 148 ls st h K else tm_A d 129 146 ls st h K := tm_b o129_143 rfl rfl rfl rfl
theorem o129_146 : tm_op 129 146 = some (.iload_n 2, (0, 0, 0, 0)) := rfl
theorem r129_146 (d : Nat) (v : Int32) (l0 l1 l3 l4 : Option Value) (st : List Value) (h : tm_H) (K : Option Value → tm_H → Prop) : tm_A d 129 146 [l0, l1, some (.int v), l3, l4] st h K ↔ tm_A d 129 147 [l0, l1, some (.int v), l3, l4] (.int v :: st) h K := tm_s o129_146 rfl rfl rfl
theorem o129_147 : tm_op 129 147 = some (.ireturn, (0, 0, 0, 0)) := rfl
theorem r129_147 (d : Nat) (v : Int32) (ls : tm_Lo) (h : tm_H) (K : Option Value → tm_H → Prop) : tm_A d 129 147 ls [.int v] h K ↔ K (some (.int v)) h := tm_reti o129_147 rfl
theorem o129_148 : tm_op 129 148 = some (.iinc 2 1, (0, 0, 0, 0)) := rfl
theorem r129_148 (d : Nat) (v : Int32) (l0 l1 l3 l4 : Option Value) (st : List Value) (h : tm_H) (K : Option Value → tm_H → Prop) : tm_A d 129 148 [l0, l1, some (.int v), l3, l4] st h K ↔ tm_A d 129 151 [l0, l1, some (.int (v + (1 : Int32))), l3, l4] st h K := tm_s o129_148 rfl rfl rfl
theorem o129_151 : tm_op 129 151 = some (.goto (-144), (0, 0, 0, 0)) := rfl
theorem r129_151 (d : Nat) (ls : tm_Lo) (st : List Value) (h : tm_H) (K : Option Value → tm_H → Prop) : tm_A d 129 151 ls st h K ↔ tm_A d 129 7 ls st h K := tm_s o129_151 rfl rfl rfl
theorem o130_0 : tm_op 130 0 = some (.iload_n 1, (0, 0, 0, 0)) := rfl
theorem r130_0 (d : Nat) (v : Int32) (l0 l2 : Option Value) (st : List Value) (h : tm_H) (K : Option Value → tm_H → Prop) : tm_A d 130 0 [l0, some (.int v), l2] st h K ↔ tm_A d 130 1 [l0, some (.int v), l2] (.int v :: st) h K := tm_s o130_0 rfl rfl rfl
theorem o130_1 : tm_op 130 1 = some (.istore_n 2, (0, 0, 0, 0)) := rfl
theorem r130_1 (d : Nat) (v : Int32) (l0 l1 l2 : Option Value) (st : List Value) (h : tm_H) (K : Option Value → tm_H → Prop) : tm_A d 130 1 [l0, l1, l2] (.int v :: st) h K ↔ tm_A d 130 2 [l0, l1, some (.int v)] st h K := tm_s o130_1 rfl rfl rfl
theorem o130_2 : tm_op 130 2 = some (.aload_n 0, (0, 0, 0, 0)) := rfl
theorem r130_2 (d : Nat) (v : Nat) (l1 l2 : Option Value) (st : List Value) (h : tm_H) (K : Option Value → tm_H → Prop) : tm_A d 130 2 [some (.ref v), l1, l2] st h K ↔ tm_A d 130 3 [some (.ref v), l1, l2] (.ref v :: st) h K := tm_s o130_2 rfl rfl rfl
theorem o130_3 : tm_op 130 3 = some (.iload_n 2, (0, 0, 0, 0)) := rfl
theorem r130_3 (d : Nat) (v : Int32) (l0 l1 : Option Value) (st : List Value) (h : tm_H) (K : Option Value → tm_H → Prop) : tm_A d 130 3 [l0, l1, some (.int v)] st h K ↔ tm_A d 130 4 [l0, l1, some (.int v)] (.int v :: st) h K := tm_s o130_3 rfl rfl rfl
theorem o130_4 : tm_op 130 4 = some (.invokevirtual 97, (2, 122, 2, 10)) := rfl
theorem r130_4 (d : Nat) (v1 : Int32) (a : Nat) (ls : tm_Lo) (st : List Value) (h : tm_H) (K : Option Value → tm_H → Prop) : tm_A (d + 1) 130 4 ls (.int v1 :: .ref a :: st) h K ↔ (h.1.2.2 a = (0, 10) ∧ tm_cs st) ∧ tm_R d 122 [.ref a, .int v1] h (fun r h' => tm_A (d + 1) 130 7 ls (r.toList ++ st) h' K) := tm_callV (as := [.int v1]) o130_4 rfl rfl rfl rfl
theorem o130_7 : tm_op 130 7 = some (.bipush 32, (0, 0, 0, 0)) := rfl
theorem r130_7 (d : Nat) (ls : tm_Lo) (st : List Value) (h : tm_H) (K : Option Value → tm_H → Prop) : tm_A d 130 7 ls st h K ↔ tm_A d 130 9 ls (.int (32 : Int32) :: st) h K := tm_bp o130_7 (by decide)
theorem o130_9 : tm_op 130 9 = some (.if_icmp .ne 9, (0, 0, 0, 0)) := rfl
theorem r130_9 (d : Nat) (y x : Int32) (ls : tm_Lo) (st : List Value) (h : tm_H) (K : Option Value → tm_H → Prop) : tm_A d 130 9 ls (.int y :: .int x :: st) h K ↔ if ¬ x = y then tm_A d 130 18 ls st h K else tm_A d 130 12 ls st h K := tm_b o130_9 rfl rfl rfl rfl
theorem o130_12 : tm_op 130 12 = some (.iinc 2 1, (0, 0, 0, 0)) := rfl
theorem r130_12 (d : Nat) (v : Int32) (l0 l1 : Option Value) (st : List Value) (h : tm_H) (K : Option Value → tm_H → Prop) : tm_A d 130 12 [l0, l1, some (.int v)] st h K ↔ tm_A d 130 15 [l0, l1, some (.int (v + (1 : Int32)))] st h K := tm_s o130_12 rfl rfl rfl
theorem o130_15 : tm_op 130 15 = some (.goto (-13), (0, 0, 0, 0)) := rfl
theorem r130_15 (d : Nat) (ls : tm_Lo) (st : List Value) (h : tm_H) (K : Option Value → tm_H → Prop) : tm_A d 130 15 ls st h K ↔ tm_A d 130 2 ls st h K := tm_s o130_15 rfl rfl rfl
theorem o130_18 : tm_op 130 18 = some (.iload_n 2, (0, 0, 0, 0)) := rfl
theorem r130_18 (d : Nat) (v : Int32) (l0 l1 : Option Value) (st : List Value) (h : tm_H) (K : Option Value → tm_H → Prop) : tm_A d 130 18 [l0, l1, some (.int v)] st h K ↔ tm_A d 130 19 [l0, l1, some (.int v)] (.int v :: st) h K := tm_s o130_18 rfl rfl rfl
theorem o130_19 : tm_op 130 19 = some (.ireturn, (0, 0, 0, 0)) := rfl
theorem r130_19 (d : Nat) (v : Int32) (ls : tm_Lo) (h : tm_H) (K : Option Value → tm_H → Prop) : tm_A d 130 19 ls [.int v] h K ↔ K (some (.int v)) h := tm_reti o130_19 rfl
theorem o131_0 : tm_op 131 0 = some (.aload_n 0, (0, 0, 0, 0)) := rfl
theorem r131_0 (d : Nat) (v : Nat) (l1 l2 : Option Value) (st : List Value) (h : tm_H) (K : Option Value → tm_H → Prop) : tm_A d 131 0 [some (.ref v), l1, l2] st h K ↔ tm_A d 131 1 [some (.ref v), l1, l2] (.ref v :: st) h K := tm_s o131_0 rfl rfl rfl
theorem o131_1 : tm_op 131 1 = some (.iconst 0, (0, 0, 0, 0)) := rfl
theorem r131_1 (d : Nat) (ls : tm_Lo) (st : List Value) (h : tm_H) (K : Option Value → tm_H → Prop) : tm_A d 131 1 ls st h K ↔ tm_A d 131 2 ls (.int (0 : Int32) :: st) h K := tm_ic o131_1 (by decide)
theorem o131_2 : tm_op 131 2 = some (.putfield 108, (0, 10, 7, 0)) := rfl
theorem r131_2 (d : Nat) (v : Int32) (a : Nat) (ls : tm_Lo) (st : List Value) (G : tm_G) (I : Nat → Nat → Int32) (J : Nat → Nat → Int64) (R : Nat → Nat → Option Nat) (K : Option Value → tm_H → Prop) : tm_A d 131 2 ls (.int v :: .ref a :: st) (G, I, J, R) K ↔ G.2.2 a = (0, 10) ∧ tm_A d 131 5 ls st (G, up2 I a 7 v, J, R) K := tm_putI o131_2
theorem o131_5 : tm_op 131 5 = some (.aload_n 0, (0, 0, 0, 0)) := rfl
theorem r131_5 (d : Nat) (v : Nat) (l1 l2 : Option Value) (st : List Value) (h : tm_H) (K : Option Value → tm_H → Prop) : tm_A d 131 5 [some (.ref v), l1, l2] st h K ↔ tm_A d 131 6 [some (.ref v), l1, l2] (.ref v :: st) h K := tm_s o131_5 rfl rfl rfl
theorem o131_6 : tm_op 131 6 = some (.iconst 0, (0, 0, 0, 0)) := rfl
theorem r131_6 (d : Nat) (ls : tm_Lo) (st : List Value) (h : tm_H) (K : Option Value → tm_H → Prop) : tm_A d 131 6 ls st h K ↔ tm_A d 131 7 ls (.int (0 : Int32) :: st) h K := tm_ic o131_6 (by decide)
theorem o131_7 : tm_op 131 7 = some (.putfield 123, (0, 10, 8, 0)) := rfl
theorem r131_7 (d : Nat) (v : Int32) (a : Nat) (ls : tm_Lo) (st : List Value) (G : tm_G) (I : Nat → Nat → Int32) (J : Nat → Nat → Int64) (R : Nat → Nat → Option Nat) (K : Option Value → tm_H → Prop) : tm_A d 131 7 ls (.int v :: .ref a :: st) (G, I, J, R) K ↔ G.2.2 a = (0, 10) ∧ tm_A d 131 10 ls st (G, up2 I a 8 v, J, R) K := tm_putI o131_7
theorem o131_10 : tm_op 131 10 = some (.aload_n 0, (0, 0, 0, 0)) := rfl
theorem r131_10 (d : Nat) (v : Nat) (l1 l2 : Option Value) (st : List Value) (h : tm_H) (K : Option Value → tm_H → Prop) : tm_A d 131 10 [some (.ref v), l1, l2] st h K ↔ tm_A d 131 11 [some (.ref v), l1, l2] (.ref v :: st) h K := tm_s o131_10 rfl rfl rfl
theorem o131_11 : tm_op 131 11 = some (.iconst 0, (0, 0, 0, 0)) := rfl
theorem r131_11 (d : Nat) (ls : tm_Lo) (st : List Value) (h : tm_H) (K : Option Value → tm_H → Prop) : tm_A d 131 11 ls st h K ↔ tm_A d 131 12 ls (.int (0 : Int32) :: st) h K := tm_ic o131_11 (by decide)
theorem o131_12 : tm_op 131 12 = some (.invokevirtual 133, (2, 130, 2, 10)) := rfl
theorem r131_12 (d : Nat) (v1 : Int32) (a : Nat) (ls : tm_Lo) (st : List Value) (h : tm_H) (K : Option Value → tm_H → Prop) : tm_A (d + 1) 131 12 ls (.int v1 :: .ref a :: st) h K ↔ (h.1.2.2 a = (0, 10) ∧ tm_cs st) ∧ tm_R d 130 [.ref a, .int v1] h (fun r h' => tm_A (d + 1) 131 15 ls (r.toList ++ st) h' K) := tm_callV (as := [.int v1]) o131_12 rfl rfl rfl rfl
theorem o131_15 : tm_op 131 15 = some (.istore_n 1, (0, 0, 0, 0)) := rfl
theorem r131_15 (d : Nat) (v : Int32) (l0 l1 l2 : Option Value) (st : List Value) (h : tm_H) (K : Option Value → tm_H → Prop) : tm_A d 131 15 [l0, l1, l2] (.int v :: st) h K ↔ tm_A d 131 16 [l0, some (.int v), l2] st h K := tm_s o131_15 rfl rfl rfl
theorem o131_16 : tm_op 131 16 = some (.iload_n 1, (0, 0, 0, 0)) := rfl
theorem r131_16 (d : Nat) (v : Int32) (l0 l2 : Option Value) (st : List Value) (h : tm_H) (K : Option Value → tm_H → Prop) : tm_A d 131 16 [l0, some (.int v), l2] st h K ↔ tm_A d 131 17 [l0, some (.int v), l2] (.int v :: st) h K := tm_s o131_16 rfl rfl rfl
theorem o131_17 : tm_op 131 17 = some (.aload_n 0, (0, 0, 0, 0)) := rfl
theorem r131_17 (d : Nat) (v : Nat) (l1 l2 : Option Value) (st : List Value) (h : tm_H) (K : Option Value → tm_H → Prop) : tm_A d 131 17 [some (.ref v), l1, l2] st h K ↔ tm_A d 131 18 [some (.ref v), l1, l2] (.ref v :: st) h K := tm_s o131_17 rfl rfl rfl
theorem o131_18 : tm_op 131 18 = some (.getfield 94, (0, 10, 6, 0)) := rfl
theorem r131_18 (d : Nat) (a : Nat) (ls : tm_Lo) (st : List Value) (G : tm_G) (I : Nat → Nat → Int32) (J : Nat → Nat → Int64) (R : Nat → Nat → Option Nat) (K : Option Value → tm_H → Prop) : tm_A d 131 18 ls (.ref a :: st) (G, I, J, R) K ↔ G.2.2 a = (0, 10) ∧ tm_A d 131 21 ls (.int (I a 6) :: st) (G, I, J, R) K := tm_getI o131_18
theorem o131_21 : tm_op 131 21 = some (.if_icmp .ne 8, (0, 0, 0, 0)) := rfl
theorem r131_21 (d : Nat) (y x : Int32) (ls : tm_Lo) (st : List Value) (h : tm_H) (K : Option Value → tm_H → Prop) : tm_A d 131 21 ls (.int y :: .int x :: st) h K ↔ if ¬ x = y then tm_A d 131 29 ls st h K else tm_A d 131 24 ls st h K := tm_b o131_21 rfl rfl rfl rfl
theorem o131_24 : tm_op 131 24 = some (.aload_n 0, (0, 0, 0, 0)) := rfl
theorem r131_24 (d : Nat) (v : Nat) (l1 l2 : Option Value) (st : List Value) (h : tm_H) (K : Option Value → tm_H → Prop) : tm_A d 131 24 [some (.ref v), l1, l2] st h K ↔ tm_A d 131 25 [some (.ref v), l1, l2] (.ref v :: st) h K := tm_s o131_24 rfl rfl rfl
theorem o131_25 : tm_op 131 25 = some (.getfield 94, (0, 10, 6, 0)) := rfl
theorem r131_25 (d : Nat) (a : Nat) (ls : tm_Lo) (st : List Value) (G : tm_G) (I : Nat → Nat → Int32) (J : Nat → Nat → Int64) (R : Nat → Nat → Option Nat) (K : Option Value → tm_H → Prop) : tm_A d 131 25 ls (.ref a :: st) (G, I, J, R) K ↔ G.2.2 a = (0, 10) ∧ tm_A d 131 28 ls (.int (I a 6) :: st) (G, I, J, R) K := tm_getI o131_25
theorem o131_28 : tm_op 131 28 = some (.ireturn, (0, 0, 0, 0)) := rfl
theorem r131_28 (d : Nat) (v : Int32) (ls : tm_Lo) (h : tm_H) (K : Option Value → tm_H → Prop) : tm_A d 131 28 ls [.int v] h K ↔ K (some (.int v)) h := tm_reti o131_28 rfl
theorem o131_29 : tm_op 131 29 = some (.iload_n 1, (0, 0, 0, 0)) := rfl
theorem r131_29 (d : Nat) (v : Int32) (l0 l2 : Option Value) (st : List Value) (h : tm_H) (K : Option Value → tm_H → Prop) : tm_A d 131 29 [l0, some (.int v), l2] st h K ↔ tm_A d 131 30 [l0, some (.int v), l2] (.int v :: st) h K := tm_s o131_29 rfl rfl rfl
theorem o131_30 : tm_op 131 30 = some (.aload_n 0, (0, 0, 0, 0)) := rfl
theorem r131_30 (d : Nat) (v : Nat) (l1 l2 : Option Value) (st : List Value) (h : tm_H) (K : Option Value → tm_H → Prop) : tm_A d 131 30 [some (.ref v), l1, l2] st h K ↔ tm_A d 131 31 [some (.ref v), l1, l2] (.ref v :: st) h K := tm_s o131_30 rfl rfl rfl
theorem o131_31 : tm_op 131 31 = some (.getfield 94, (0, 10, 6, 0)) := rfl
theorem r131_31 (d : Nat) (a : Nat) (ls : tm_Lo) (st : List Value) (G : tm_G) (I : Nat → Nat → Int32) (J : Nat → Nat → Int64) (R : Nat → Nat → Option Nat) (K : Option Value → tm_H → Prop) : tm_A d 131 31 ls (.ref a :: st) (G, I, J, R) K ↔ G.2.2 a = (0, 10) ∧ tm_A d 131 34 ls (.int (I a 6) :: st) (G, I, J, R) K := tm_getI o131_31
theorem o131_34 : tm_op 131 34 = some (.if_icmp .ge 46, (0, 0, 0, 0)) := rfl
theorem r131_34 (d : Nat) (y x : Int32) (ls : tm_Lo) (st : List Value) (h : tm_H) (K : Option Value → tm_H → Prop) : tm_A d 131 34 ls (.int y :: .int x :: st) h K ↔ if y ≤ x then tm_A d 131 80 ls st h K else tm_A d 131 37 ls st h K := tm_b o131_34 rfl rfl rfl rfl
theorem o131_37 : tm_op 131 37 = some (.aload_n 0, (0, 0, 0, 0)) := rfl
theorem r131_37 (d : Nat) (v : Nat) (l1 l2 : Option Value) (st : List Value) (h : tm_H) (K : Option Value → tm_H → Prop) : tm_A d 131 37 [some (.ref v), l1, l2] st h K ↔ tm_A d 131 38 [some (.ref v), l1, l2] (.ref v :: st) h K := tm_s o131_37 rfl rfl rfl
theorem o131_38 : tm_op 131 38 = some (.iload_n 1, (0, 0, 0, 0)) := rfl
theorem r131_38 (d : Nat) (v : Int32) (l0 l2 : Option Value) (st : List Value) (h : tm_H) (K : Option Value → tm_H → Prop) : tm_A d 131 38 [l0, some (.int v), l2] st h K ↔ tm_A d 131 39 [l0, some (.int v), l2] (.int v :: st) h K := tm_s o131_38 rfl rfl rfl
theorem o131_39 : tm_op 131 39 = some (.invokevirtual 136, (2, 127, 2, 10)) := rfl
theorem r131_39 (d : Nat) (v1 : Int32) (a : Nat) (ls : tm_Lo) (st : List Value) (h : tm_H) (K : Option Value → tm_H → Prop) : tm_A (d + 1) 131 39 ls (.int v1 :: .ref a :: st) h K ↔ (h.1.2.2 a = (0, 10) ∧ tm_cs st) ∧ tm_R d 127 [.ref a, .int v1] h (fun r h' => tm_A (d + 1) 131 42 ls (r.toList ++ st) h' K) := tm_callV (as := [.int v1]) o131_39 rfl rfl rfl rfl
theorem o131_42 : tm_op 131 42 = some (.istore_n 2, (0, 0, 0, 0)) := rfl
theorem r131_42 (d : Nat) (v : Int32) (l0 l1 l2 : Option Value) (st : List Value) (h : tm_H) (K : Option Value → tm_H → Prop) : tm_A d 131 42 [l0, l1, l2] (.int v :: st) h K ↔ tm_A d 131 43 [l0, l1, some (.int v)] st h K := tm_s o131_42 rfl rfl rfl
theorem o131_43 : tm_op 131 43 = some (.iload_n 2, (0, 0, 0, 0)) := rfl
theorem r131_43 (d : Nat) (v : Int32) (l0 l1 : Option Value) (st : List Value) (h : tm_H) (K : Option Value → tm_H → Prop) : tm_A d 131 43 [l0, l1, some (.int v)] st h K ↔ tm_A d 131 44 [l0, l1, some (.int v)] (.int v :: st) h K := tm_s o131_43 rfl rfl rfl
theorem o131_44 : tm_op 131 44 = some (.iconst (-1), (0, 0, 0, 0)) := rfl
theorem r131_44 (d : Nat) (ls : tm_Lo) (st : List Value) (h : tm_H) (K : Option Value → tm_H → Prop) : tm_A d 131 44 ls st h K ↔ tm_A d 131 45 ls (.int (-1 : Int32) :: st) h K := tm_ic o131_44 (by decide)
theorem o131_45 : tm_op 131 45 = some (.if_icmp .ne 5, (0, 0, 0, 0)) := rfl
theorem r131_45 (d : Nat) (y x : Int32) (ls : tm_Lo) (st : List Value) (h : tm_H) (K : Option Value → tm_H → Prop) : tm_A d 131 45 ls (.int y :: .int x :: st) h K ↔ if ¬ x = y then tm_A d 131 50 ls st h K else tm_A d 131 48 ls st h K := tm_b o131_45 rfl rfl rfl rfl
theorem o131_48 : tm_op 131 48 = some (.iload_n 1, (0, 0, 0, 0)) := rfl
theorem r131_48 (d : Nat) (v : Int32) (l0 l2 : Option Value) (st : List Value) (h : tm_H) (K : Option Value → tm_H → Prop) : tm_A d 131 48 [l0, some (.int v), l2] st h K ↔ tm_A d 131 49 [l0, some (.int v), l2] (.int v :: st) h K := tm_s o131_48 rfl rfl rfl
theorem o131_49 : tm_op 131 49 = some (.ireturn, (0, 0, 0, 0)) := rfl
theorem r131_49 (d : Nat) (v : Int32) (ls : tm_Lo) (h : tm_H) (K : Option Value → tm_H → Prop) : tm_A d 131 49 ls [.int v] h K ↔ K (some (.int v)) h := tm_reti o131_49 rfl
theorem o131_50 : tm_op 131 50 = some (.iload_n 2, (0, 0, 0, 0)) := rfl
theorem r131_50 (d : Nat) (v : Int32) (l0 l1 : Option Value) (st : List Value) (h : tm_H) (K : Option Value → tm_H → Prop) : tm_A d 131 50 [l0, l1, some (.int v)] st h K ↔ tm_A d 131 51 [l0, l1, some (.int v)] (.int v :: st) h K := tm_s o131_50 rfl rfl rfl
theorem o131_51 : tm_op 131 51 = some (.aload_n 0, (0, 0, 0, 0)) := rfl
theorem r131_51 (d : Nat) (v : Nat) (l1 l2 : Option Value) (st : List Value) (h : tm_H) (K : Option Value → tm_H → Prop) : tm_A d 131 51 [some (.ref v), l1, l2] st h K ↔ tm_A d 131 52 [some (.ref v), l1, l2] (.ref v :: st) h K := tm_s o131_51 rfl rfl rfl
theorem o131_52 : tm_op 131 52 = some (.getfield 94, (0, 10, 6, 0)) := rfl
theorem r131_52 (d : Nat) (a : Nat) (ls : tm_Lo) (st : List Value) (G : tm_G) (I : Nat → Nat → Int32) (J : Nat → Nat → Int64) (R : Nat → Nat → Option Nat) (K : Option Value → tm_H → Prop) : tm_A d 131 52 ls (.ref a :: st) (G, I, J, R) K ↔ G.2.2 a = (0, 10) ∧ tm_A d 131 55 ls (.int (I a 6) :: st) (G, I, J, R) K := tm_getI o131_52
theorem o131_55 : tm_op 131 55 = some (.if_icmp .ge 16, (0, 0, 0, 0)) := rfl
theorem r131_55 (d : Nat) (y x : Int32) (ls : tm_Lo) (st : List Value) (h : tm_H) (K : Option Value → tm_H → Prop) : tm_A d 131 55 ls (.int y :: .int x :: st) h K ↔ if y ≤ x then tm_A d 131 71 ls st h K else tm_A d 131 58 ls st h K := tm_b o131_55 rfl rfl rfl rfl
theorem o131_58 : tm_op 131 58 = some (.aload_n 0, (0, 0, 0, 0)) := rfl
theorem r131_58 (d : Nat) (v : Nat) (l1 l2 : Option Value) (st : List Value) (h : tm_H) (K : Option Value → tm_H → Prop) : tm_A d 131 58 [some (.ref v), l1, l2] st h K ↔ tm_A d 131 59 [some (.ref v), l1, l2] (.ref v :: st) h K := tm_s o131_58 rfl rfl rfl
theorem o131_59 : tm_op 131 59 = some (.getfield 16, (2, 10, 5, 0)) := rfl
theorem r131_59 (d : Nat) (a : Nat) (ls : tm_Lo) (st : List Value) (G : tm_G) (I : Nat → Nat → Int32) (J : Nat → Nat → Int64) (R : Nat → Nat → Option Nat) (K : Option Value → tm_H → Prop) : tm_A d 131 59 ls (.ref a :: st) (G, I, J, R) K ↔ G.2.2 a = (0, 10) ∧ tm_A d 131 62 ls (tm_rf (R a 5) :: st) (G, I, J, R) K := tm_getR o131_59
theorem o131_62 : tm_op 131 62 = some (.iload_n 2, (0, 0, 0, 0)) := rfl
theorem r131_62 (d : Nat) (v : Int32) (l0 l1 : Option Value) (st : List Value) (h : tm_H) (K : Option Value → tm_H → Prop) : tm_A d 131 62 [l0, l1, some (.int v)] st h K ↔ tm_A d 131 63 [l0, l1, some (.int v)] (.int v :: st) h K := tm_s o131_62 rfl rfl rfl
theorem o131_63 : tm_op 131 63 = some (.iaload, (0, 0, 0, 0)) := rfl
theorem r131_63 (d : Nat) (v : Int32) (a : Nat) (ls : tm_Lo) (st : List Value) (G : tm_G) (I : Nat → Nat → Int32) (J : Nat → Nat → Int64) (R : Nat → Nat → Option Nat) (K : Option Value → tm_H → Prop) : tm_A d 131 63 ls (.int v :: .ref a :: st) (G, I, J, R) K ↔ ((G.2.2 a).1 = 1 ∧ tm_in v (G.2.2 a).2) ∧ tm_A d 131 64 ls (.int (I a (tm_ix v)) :: st) (G, I, J, R) K := tm_iald o131_63
theorem o131_64 : tm_op 131 64 = some (.bipush 32, (0, 0, 0, 0)) := rfl
theorem r131_64 (d : Nat) (ls : tm_Lo) (st : List Value) (h : tm_H) (K : Option Value → tm_H → Prop) : tm_A d 131 64 ls st h K ↔ tm_A d 131 66 ls (.int (32 : Int32) :: st) h K := tm_bp o131_64 (by decide)
theorem o131_66 : tm_op 131 66 = some (.if_icmp .eq 5, (0, 0, 0, 0)) := rfl
theorem r131_66 (d : Nat) (y x : Int32) (ls : tm_Lo) (st : List Value) (h : tm_H) (K : Option Value → tm_H → Prop) : tm_A d 131 66 ls (.int y :: .int x :: st) h K ↔ if x = y then tm_A d 131 71 ls st h K else tm_A d 131 69 ls st h K := tm_b o131_66 rfl rfl rfl rfl
theorem o131_69 : tm_op 131 69 = some (.iload_n 2, (0, 0, 0, 0)) := rfl
theorem r131_69 (d : Nat) (v : Int32) (l0 l1 : Option Value) (st : List Value) (h : tm_H) (K : Option Value → tm_H → Prop) : tm_A d 131 69 [l0, l1, some (.int v)] st h K ↔ tm_A d 131 70 [l0, l1, some (.int v)] (.int v :: st) h K := tm_s o131_69 rfl rfl rfl
theorem o131_70 : tm_op 131 70 = some (.ireturn, (0, 0, 0, 0)) := rfl
theorem r131_70 (d : Nat) (v : Int32) (ls : tm_Lo) (h : tm_H) (K : Option Value → tm_H → Prop) : tm_A d 131 70 ls [.int v] h K ↔ K (some (.int v)) h := tm_reti o131_70 rfl
theorem o131_71 : tm_op 131 71 = some (.aload_n 0, (0, 0, 0, 0)) := rfl
theorem r131_71 (d : Nat) (v : Nat) (l1 l2 : Option Value) (st : List Value) (h : tm_H) (K : Option Value → tm_H → Prop) : tm_A d 131 71 [some (.ref v), l1, l2] st h K ↔ tm_A d 131 72 [some (.ref v), l1, l2] (.ref v :: st) h K := tm_s o131_71 rfl rfl rfl
theorem o131_72 : tm_op 131 72 = some (.iload_n 2, (0, 0, 0, 0)) := rfl
theorem r131_72 (d : Nat) (v : Int32) (l0 l1 : Option Value) (st : List Value) (h : tm_H) (K : Option Value → tm_H → Prop) : tm_A d 131 72 [l0, l1, some (.int v)] st h K ↔ tm_A d 131 73 [l0, l1, some (.int v)] (.int v :: st) h K := tm_s o131_72 rfl rfl rfl
theorem o131_73 : tm_op 131 73 = some (.invokevirtual 133, (2, 130, 2, 10)) := rfl
theorem r131_73 (d : Nat) (v1 : Int32) (a : Nat) (ls : tm_Lo) (st : List Value) (h : tm_H) (K : Option Value → tm_H → Prop) : tm_A (d + 1) 131 73 ls (.int v1 :: .ref a :: st) h K ↔ (h.1.2.2 a = (0, 10) ∧ tm_cs st) ∧ tm_R d 130 [.ref a, .int v1] h (fun r h' => tm_A (d + 1) 131 76 ls (r.toList ++ st) h' K) := tm_callV (as := [.int v1]) o131_73 rfl rfl rfl rfl
theorem o131_76 : tm_op 131 76 = some (.istore_n 1, (0, 0, 0, 0)) := rfl
theorem r131_76 (d : Nat) (v : Int32) (l0 l1 l2 : Option Value) (st : List Value) (h : tm_H) (K : Option Value → tm_H → Prop) : tm_A d 131 76 [l0, l1, l2] (.int v :: st) h K ↔ tm_A d 131 77 [l0, some (.int v), l2] st h K := tm_s o131_76 rfl rfl rfl
theorem o131_77 : tm_op 131 77 = some (.goto (-48), (0, 0, 0, 0)) := rfl
theorem r131_77 (d : Nat) (ls : tm_Lo) (st : List Value) (h : tm_H) (K : Option Value → tm_H → Prop) : tm_A d 131 77 ls st h K ↔ tm_A d 131 29 ls st h K := tm_s o131_77 rfl rfl rfl
theorem o131_80 : tm_op 131 80 = some (.iconst (-1), (0, 0, 0, 0)) := rfl
theorem r131_80 (d : Nat) (ls : tm_Lo) (st : List Value) (h : tm_H) (K : Option Value → tm_H → Prop) : tm_A d 131 80 ls st h K ↔ tm_A d 131 81 ls (.int (-1 : Int32) :: st) h K := tm_ic o131_80 (by decide)
theorem o131_81 : tm_op 131 81 = some (.ireturn, (0, 0, 0, 0)) := rfl
theorem r131_81 (d : Nat) (v : Int32) (ls : tm_Lo) (h : tm_H) (K : Option Value → tm_H → Prop) : tm_A d 131 81 ls [.int v] h K ↔ K (some (.int v)) h := tm_reti o131_81 rfl
theorem o132_0 : tm_op 132 0 = some (.aload_n 0, (0, 0, 0, 0)) := rfl
theorem r132_0 (d : Nat) (v : Nat) (l1 l2 l3 : Option Value) (st : List Value) (h : tm_H) (K : Option Value → tm_H → Prop) : tm_A d 132 0 [some (.ref v), l1, l2, l3] st h K ↔ tm_A d 132 1 [some (.ref v), l1, l2, l3] (.ref v :: st) h K := tm_s o132_0 rfl rfl rfl
theorem o132_1 : tm_op 132 1 = some (.getfield 139, (0, 10, 14, 0)) := rfl
theorem r132_1 (d : Nat) (a : Nat) (ls : tm_Lo) (st : List Value) (G : tm_G) (I : Nat → Nat → Int32) (J : Nat → Nat → Int64) (R : Nat → Nat → Option Nat) (K : Option Value → tm_H → Prop) : tm_A d 132 1 ls (.ref a :: st) (G, I, J, R) K ↔ G.2.2 a = (0, 10) ∧ tm_A d 132 4 ls (.int (I a 14) :: st) (G, I, J, R) K := tm_getI o132_1
theorem o132_4 : tm_op 132 4 = some (.istore_n 2, (0, 0, 0, 0)) := rfl
theorem r132_4 (d : Nat) (v : Int32) (l0 l1 l2 l3 : Option Value) (st : List Value) (h : tm_H) (K : Option Value → tm_H → Prop) : tm_A d 132 4 [l0, l1, l2, l3] (.int v :: st) h K ↔ tm_A d 132 5 [l0, l1, some (.int v), l3] st h K := tm_s o132_4 rfl rfl rfl
theorem o132_5 : tm_op 132 5 = some (.aload_n 0, (0, 0, 0, 0)) := rfl
theorem r132_5 (d : Nat) (v : Nat) (l1 l2 l3 : Option Value) (st : List Value) (h : tm_H) (K : Option Value → tm_H → Prop) : tm_A d 132 5 [some (.ref v), l1, l2, l3] st h K ↔ tm_A d 132 6 [some (.ref v), l1, l2, l3] (.ref v :: st) h K := tm_s o132_5 rfl rfl rfl
theorem o132_6 : tm_op 132 6 = some (.dup, (0, 0, 0, 0)) := rfl
theorem r132_6 (d : Nat) (v : Nat) (ls : tm_Lo) (st : List Value) (h : tm_H) (K : Option Value → tm_H → Prop) : tm_A d 132 6 ls (.ref v :: st) h K ↔ tm_A d 132 7 ls (.ref v :: .ref v :: st) h K := tm_s o132_6 rfl rfl rfl
theorem r132_6i (d : Nat) (v : Int32) (ls : tm_Lo) (st : List Value) (h : tm_H) (K : Option Value → tm_H → Prop) : tm_A d 132 6 ls (.int v :: st) h K ↔ tm_A d 132 7 ls (.int v :: .int v :: st) h K := tm_s o132_6 rfl rfl rfl
theorem o132_7 : tm_op 132 7 = some (.getfield 139, (0, 10, 14, 0)) := rfl
theorem r132_7 (d : Nat) (a : Nat) (ls : tm_Lo) (st : List Value) (G : tm_G) (I : Nat → Nat → Int32) (J : Nat → Nat → Int64) (R : Nat → Nat → Option Nat) (K : Option Value → tm_H → Prop) : tm_A d 132 7 ls (.ref a :: st) (G, I, J, R) K ↔ G.2.2 a = (0, 10) ∧ tm_A d 132 10 ls (.int (I a 14) :: st) (G, I, J, R) K := tm_getI o132_7
theorem o132_10 : tm_op 132 10 = some (.iconst 1, (0, 0, 0, 0)) := rfl
theorem r132_10 (d : Nat) (ls : tm_Lo) (st : List Value) (h : tm_H) (K : Option Value → tm_H → Prop) : tm_A d 132 10 ls st h K ↔ tm_A d 132 11 ls (.int (1 : Int32) :: st) h K := tm_ic o132_10 (by decide)
theorem o132_11 : tm_op 132 11 = some (.iadd, (0, 0, 0, 0)) := rfl
theorem r132_11 (d : Nat) (u v : Int32) (ls : tm_Lo) (st : List Value) (h : tm_H) (K : Option Value → tm_H → Prop) : tm_A d 132 11 ls (.int u :: .int v :: st) h K ↔ tm_A d 132 12 ls (.int (v + u) :: st) h K := tm_s o132_11 rfl rfl rfl
theorem o132_12 : tm_op 132 12 = some (.putfield 139, (0, 10, 14, 0)) := rfl
theorem r132_12 (d : Nat) (v : Int32) (a : Nat) (ls : tm_Lo) (st : List Value) (G : tm_G) (I : Nat → Nat → Int32) (J : Nat → Nat → Int64) (R : Nat → Nat → Option Nat) (K : Option Value → tm_H → Prop) : tm_A d 132 12 ls (.int v :: .ref a :: st) (G, I, J, R) K ↔ G.2.2 a = (0, 10) ∧ tm_A d 132 15 ls st (G, up2 I a 14 v, J, R) K := tm_putI o132_12
theorem o132_15 : tm_op 132 15 = some (.aload_n 0, (0, 0, 0, 0)) := rfl
theorem r132_15 (d : Nat) (v : Nat) (l1 l2 l3 : Option Value) (st : List Value) (h : tm_H) (K : Option Value → tm_H → Prop) : tm_A d 132 15 [some (.ref v), l1, l2, l3] st h K ↔ tm_A d 132 16 [some (.ref v), l1, l2, l3] (.ref v :: st) h K := tm_s o132_15 rfl rfl rfl
theorem o132_16 : tm_op 132 16 = some (.getfield 29, (2, 10, 15, 0)) := rfl
theorem r132_16 (d : Nat) (a : Nat) (ls : tm_Lo) (st : List Value) (G : tm_G) (I : Nat → Nat → Int32) (J : Nat → Nat → Int64) (R : Nat → Nat → Option Nat) (K : Option Value → tm_H → Prop) : tm_A d 132 16 ls (.ref a :: st) (G, I, J, R) K ↔ G.2.2 a = (0, 10) ∧ tm_A d 132 19 ls (tm_rf (R a 15) :: st) (G, I, J, R) K := tm_getR o132_16
theorem o132_19 : tm_op 132 19 = some (.iload_n 2, (0, 0, 0, 0)) := rfl
theorem r132_19 (d : Nat) (v : Int32) (l0 l1 l3 : Option Value) (st : List Value) (h : tm_H) (K : Option Value → tm_H → Prop) : tm_A d 132 19 [l0, l1, some (.int v), l3] st h K ↔ tm_A d 132 20 [l0, l1, some (.int v), l3] (.int v :: st) h K := tm_s o132_19 rfl rfl rfl
theorem o132_20 : tm_op 132 20 = some (.iload_n 1, (0, 0, 0, 0)) := rfl
theorem r132_20 (d : Nat) (v : Int32) (l0 l2 l3 : Option Value) (st : List Value) (h : tm_H) (K : Option Value → tm_H → Prop) : tm_A d 132 20 [l0, some (.int v), l2, l3] st h K ↔ tm_A d 132 21 [l0, some (.int v), l2, l3] (.int v :: st) h K := tm_s o132_20 rfl rfl rfl
theorem o132_21 : tm_op 132 21 = some (.iastore, (0, 0, 0, 0)) := rfl
theorem r132_21 (d : Nat) (u v : Int32) (a : Nat) (ls : tm_Lo) (st : List Value) (G : tm_G) (I : Nat → Nat → Int32) (J : Nat → Nat → Int64) (R : Nat → Nat → Option Nat) (K : Option Value → tm_H → Prop) : tm_A d 132 21 ls (.int u :: .int v :: .ref a :: st) (G, I, J, R) K ↔ (3 ≤ a ∧ (G.2.2 a).1 = 1 ∧ tm_in v (G.2.2 a).2) ∧ tm_A d 132 22 ls st (G, up2 I a (tm_ix v) u, J, R) K := tm_iast o132_21
theorem o132_22 : tm_op 132 22 = some (.aload_n 0, (0, 0, 0, 0)) := rfl
theorem r132_22 (d : Nat) (v : Nat) (l1 l2 l3 : Option Value) (st : List Value) (h : tm_H) (K : Option Value → tm_H → Prop) : tm_A d 132 22 [some (.ref v), l1, l2, l3] st h K ↔ tm_A d 132 23 [some (.ref v), l1, l2, l3] (.ref v :: st) h K := tm_s o132_22 rfl rfl rfl
theorem o132_23 : tm_op 132 23 = some (.getfield 32, (2, 10, 16, 0)) := rfl
theorem r132_23 (d : Nat) (a : Nat) (ls : tm_Lo) (st : List Value) (G : tm_G) (I : Nat → Nat → Int32) (J : Nat → Nat → Int64) (R : Nat → Nat → Option Nat) (K : Option Value → tm_H → Prop) : tm_A d 132 23 ls (.ref a :: st) (G, I, J, R) K ↔ G.2.2 a = (0, 10) ∧ tm_A d 132 26 ls (tm_rf (R a 16) :: st) (G, I, J, R) K := tm_getR o132_23
theorem o132_26 : tm_op 132 26 = some (.iload_n 2, (0, 0, 0, 0)) := rfl
theorem r132_26 (d : Nat) (v : Int32) (l0 l1 l3 : Option Value) (st : List Value) (h : tm_H) (K : Option Value → tm_H → Prop) : tm_A d 132 26 [l0, l1, some (.int v), l3] st h K ↔ tm_A d 132 27 [l0, l1, some (.int v), l3] (.int v :: st) h K := tm_s o132_26 rfl rfl rfl
theorem o132_27 : tm_op 132 27 = some (.aload_n 0, (0, 0, 0, 0)) := rfl
theorem r132_27 (d : Nat) (v : Nat) (l1 l2 l3 : Option Value) (st : List Value) (h : tm_H) (K : Option Value → tm_H → Prop) : tm_A d 132 27 [some (.ref v), l1, l2, l3] st h K ↔ tm_A d 132 28 [some (.ref v), l1, l2, l3] (.ref v :: st) h K := tm_s o132_27 rfl rfl rfl
theorem o132_28 : tm_op 132 28 = some (.getfield 87, (0, 10, 0, 0)) := rfl
theorem r132_28 (d : Nat) (a : Nat) (ls : tm_Lo) (st : List Value) (G : tm_G) (I : Nat → Nat → Int32) (J : Nat → Nat → Int64) (R : Nat → Nat → Option Nat) (K : Option Value → tm_H → Prop) : tm_A d 132 28 ls (.ref a :: st) (G, I, J, R) K ↔ G.2.2 a = (0, 10) ∧ tm_A d 132 31 ls (.int (I a 0) :: st) (G, I, J, R) K := tm_getI o132_28
theorem o132_31 : tm_op 132 31 = some (.iastore, (0, 0, 0, 0)) := rfl
theorem r132_31 (d : Nat) (u v : Int32) (a : Nat) (ls : tm_Lo) (st : List Value) (G : tm_G) (I : Nat → Nat → Int32) (J : Nat → Nat → Int64) (R : Nat → Nat → Option Nat) (K : Option Value → tm_H → Prop) : tm_A d 132 31 ls (.int u :: .int v :: .ref a :: st) (G, I, J, R) K ↔ (3 ≤ a ∧ (G.2.2 a).1 = 1 ∧ tm_in v (G.2.2 a).2) ∧ tm_A d 132 32 ls st (G, up2 I a (tm_ix v) u, J, R) K := tm_iast o132_31
theorem o132_32 : tm_op 132 32 = some (.aload_n 0, (0, 0, 0, 0)) := rfl
theorem r132_32 (d : Nat) (v : Nat) (l1 l2 l3 : Option Value) (st : List Value) (h : tm_H) (K : Option Value → tm_H → Prop) : tm_A d 132 32 [some (.ref v), l1, l2, l3] st h K ↔ tm_A d 132 33 [some (.ref v), l1, l2, l3] (.ref v :: st) h K := tm_s o132_32 rfl rfl rfl
theorem o132_33 : tm_op 132 33 = some (.getfield 35, (2, 10, 17, 0)) := rfl
theorem r132_33 (d : Nat) (a : Nat) (ls : tm_Lo) (st : List Value) (G : tm_G) (I : Nat → Nat → Int32) (J : Nat → Nat → Int64) (R : Nat → Nat → Option Nat) (K : Option Value → tm_H → Prop) : tm_A d 132 33 ls (.ref a :: st) (G, I, J, R) K ↔ G.2.2 a = (0, 10) ∧ tm_A d 132 36 ls (tm_rf (R a 17) :: st) (G, I, J, R) K := tm_getR o132_33
theorem o132_36 : tm_op 132 36 = some (.iload_n 2, (0, 0, 0, 0)) := rfl
theorem r132_36 (d : Nat) (v : Int32) (l0 l1 l3 : Option Value) (st : List Value) (h : tm_H) (K : Option Value → tm_H → Prop) : tm_A d 132 36 [l0, l1, some (.int v), l3] st h K ↔ tm_A d 132 37 [l0, l1, some (.int v), l3] (.int v :: st) h K := tm_s o132_36 rfl rfl rfl
theorem o132_37 : tm_op 132 37 = some (.aload_n 0, (0, 0, 0, 0)) := rfl
theorem r132_37 (d : Nat) (v : Nat) (l1 l2 l3 : Option Value) (st : List Value) (h : tm_H) (K : Option Value → tm_H → Prop) : tm_A d 132 37 [some (.ref v), l1, l2, l3] st h K ↔ tm_A d 132 38 [some (.ref v), l1, l2, l3] (.ref v :: st) h K := tm_s o132_37 rfl rfl rfl
theorem o132_38 : tm_op 132 38 = some (.getfield 108, (0, 10, 7, 0)) := rfl
theorem r132_38 (d : Nat) (a : Nat) (ls : tm_Lo) (st : List Value) (G : tm_G) (I : Nat → Nat → Int32) (J : Nat → Nat → Int64) (R : Nat → Nat → Option Nat) (K : Option Value → tm_H → Prop) : tm_A d 132 38 ls (.ref a :: st) (G, I, J, R) K ↔ G.2.2 a = (0, 10) ∧ tm_A d 132 41 ls (.int (I a 7) :: st) (G, I, J, R) K := tm_getI o132_38
theorem o132_41 : tm_op 132 41 = some (.iastore, (0, 0, 0, 0)) := rfl
theorem r132_41 (d : Nat) (u v : Int32) (a : Nat) (ls : tm_Lo) (st : List Value) (G : tm_G) (I : Nat → Nat → Int32) (J : Nat → Nat → Int64) (R : Nat → Nat → Option Nat) (K : Option Value → tm_H → Prop) : tm_A d 132 41 ls (.int u :: .int v :: .ref a :: st) (G, I, J, R) K ↔ (3 ≤ a ∧ (G.2.2 a).1 = 1 ∧ tm_in v (G.2.2 a).2) ∧ tm_A d 132 42 ls st (G, up2 I a (tm_ix v) u, J, R) K := tm_iast o132_41
theorem o132_42 : tm_op 132 42 = some (.aload_n 0, (0, 0, 0, 0)) := rfl
theorem r132_42 (d : Nat) (v : Nat) (l1 l2 l3 : Option Value) (st : List Value) (h : tm_H) (K : Option Value → tm_H → Prop) : tm_A d 132 42 [some (.ref v), l1, l2, l3] st h K ↔ tm_A d 132 43 [some (.ref v), l1, l2, l3] (.ref v :: st) h K := tm_s o132_42 rfl rfl rfl
theorem o132_43 : tm_op 132 43 = some (.getfield 38, (2, 10, 18, 0)) := rfl
theorem r132_43 (d : Nat) (a : Nat) (ls : tm_Lo) (st : List Value) (G : tm_G) (I : Nat → Nat → Int32) (J : Nat → Nat → Int64) (R : Nat → Nat → Option Nat) (K : Option Value → tm_H → Prop) : tm_A d 132 43 ls (.ref a :: st) (G, I, J, R) K ↔ G.2.2 a = (0, 10) ∧ tm_A d 132 46 ls (tm_rf (R a 18) :: st) (G, I, J, R) K := tm_getR o132_43
theorem o132_46 : tm_op 132 46 = some (.iload_n 2, (0, 0, 0, 0)) := rfl
theorem r132_46 (d : Nat) (v : Int32) (l0 l1 l3 : Option Value) (st : List Value) (h : tm_H) (K : Option Value → tm_H → Prop) : tm_A d 132 46 [l0, l1, some (.int v), l3] st h K ↔ tm_A d 132 47 [l0, l1, some (.int v), l3] (.int v :: st) h K := tm_s o132_46 rfl rfl rfl
theorem o132_47 : tm_op 132 47 = some (.iconst (-1), (0, 0, 0, 0)) := rfl
theorem r132_47 (d : Nat) (ls : tm_Lo) (st : List Value) (h : tm_H) (K : Option Value → tm_H → Prop) : tm_A d 132 47 ls st h K ↔ tm_A d 132 48 ls (.int (-1 : Int32) :: st) h K := tm_ic o132_47 (by decide)
theorem o132_48 : tm_op 132 48 = some (.iastore, (0, 0, 0, 0)) := rfl
theorem r132_48 (d : Nat) (u v : Int32) (a : Nat) (ls : tm_Lo) (st : List Value) (G : tm_G) (I : Nat → Nat → Int32) (J : Nat → Nat → Int64) (R : Nat → Nat → Option Nat) (K : Option Value → tm_H → Prop) : tm_A d 132 48 ls (.int u :: .int v :: .ref a :: st) (G, I, J, R) K ↔ (3 ≤ a ∧ (G.2.2 a).1 = 1 ∧ tm_in v (G.2.2 a).2) ∧ tm_A d 132 49 ls st (G, up2 I a (tm_ix v) u, J, R) K := tm_iast o132_48
theorem o132_49 : tm_op 132 49 = some (.aload_n 0, (0, 0, 0, 0)) := rfl
theorem r132_49 (d : Nat) (v : Nat) (l1 l2 l3 : Option Value) (st : List Value) (h : tm_H) (K : Option Value → tm_H → Prop) : tm_A d 132 49 [some (.ref v), l1, l2, l3] st h K ↔ tm_A d 132 50 [some (.ref v), l1, l2, l3] (.ref v :: st) h K := tm_s o132_49 rfl rfl rfl
theorem o132_50 : tm_op 132 50 = some (.getfield 44, (2, 10, 20, 0)) := rfl
theorem r132_50 (d : Nat) (a : Nat) (ls : tm_Lo) (st : List Value) (G : tm_G) (I : Nat → Nat → Int32) (J : Nat → Nat → Int64) (R : Nat → Nat → Option Nat) (K : Option Value → tm_H → Prop) : tm_A d 132 50 ls (.ref a :: st) (G, I, J, R) K ↔ G.2.2 a = (0, 10) ∧ tm_A d 132 53 ls (tm_rf (R a 20) :: st) (G, I, J, R) K := tm_getR o132_50
theorem o132_53 : tm_op 132 53 = some (.iload_n 2, (0, 0, 0, 0)) := rfl
theorem r132_53 (d : Nat) (v : Int32) (l0 l1 l3 : Option Value) (st : List Value) (h : tm_H) (K : Option Value → tm_H → Prop) : tm_A d 132 53 [l0, l1, some (.int v), l3] st h K ↔ tm_A d 132 54 [l0, l1, some (.int v), l3] (.int v :: st) h K := tm_s o132_53 rfl rfl rfl
theorem o132_54 : tm_op 132 54 = some (.aload_n 0, (0, 0, 0, 0)) := rfl
theorem r132_54 (d : Nat) (v : Nat) (l1 l2 l3 : Option Value) (st : List Value) (h : tm_H) (K : Option Value → tm_H → Prop) : tm_A d 132 54 [some (.ref v), l1, l2, l3] st h K ↔ tm_A d 132 55 [some (.ref v), l1, l2, l3] (.ref v :: st) h K := tm_s o132_54 rfl rfl rfl
theorem o132_55 : tm_op 132 55 = some (.getfield 120, (0, 10, 10, 0)) := rfl
theorem r132_55 (d : Nat) (a : Nat) (ls : tm_Lo) (st : List Value) (G : tm_G) (I : Nat → Nat → Int32) (J : Nat → Nat → Int64) (R : Nat → Nat → Option Nat) (K : Option Value → tm_H → Prop) : tm_A d 132 55 ls (.ref a :: st) (G, I, J, R) K ↔ G.2.2 a = (0, 10) ∧ tm_A d 132 58 ls (.int (I a 10) :: st) (G, I, J, R) K := tm_getI o132_55
theorem o132_58 : tm_op 132 58 = some (.iastore, (0, 0, 0, 0)) := rfl
theorem r132_58 (d : Nat) (u v : Int32) (a : Nat) (ls : tm_Lo) (st : List Value) (G : tm_G) (I : Nat → Nat → Int32) (J : Nat → Nat → Int64) (R : Nat → Nat → Option Nat) (K : Option Value → tm_H → Prop) : tm_A d 132 58 ls (.int u :: .int v :: .ref a :: st) (G, I, J, R) K ↔ (3 ≤ a ∧ (G.2.2 a).1 = 1 ∧ tm_in v (G.2.2 a).2) ∧ tm_A d 132 59 ls st (G, up2 I a (tm_ix v) u, J, R) K := tm_iast o132_58
theorem o132_59 : tm_op 132 59 = some (.aload_n 0, (0, 0, 0, 0)) := rfl
theorem r132_59 (d : Nat) (v : Nat) (l1 l2 l3 : Option Value) (st : List Value) (h : tm_H) (K : Option Value → tm_H → Prop) : tm_A d 132 59 [some (.ref v), l1, l2, l3] st h K ↔ tm_A d 132 60 [some (.ref v), l1, l2, l3] (.ref v :: st) h K := tm_s o132_59 rfl rfl rfl
theorem o132_60 : tm_op 132 60 = some (.getfield 47, (2, 10, 21, 0)) := rfl
theorem r132_60 (d : Nat) (a : Nat) (ls : tm_Lo) (st : List Value) (G : tm_G) (I : Nat → Nat → Int32) (J : Nat → Nat → Int64) (R : Nat → Nat → Option Nat) (K : Option Value → tm_H → Prop) : tm_A d 132 60 ls (.ref a :: st) (G, I, J, R) K ↔ G.2.2 a = (0, 10) ∧ tm_A d 132 63 ls (tm_rf (R a 21) :: st) (G, I, J, R) K := tm_getR o132_60
theorem o132_63 : tm_op 132 63 = some (.iload_n 2, (0, 0, 0, 0)) := rfl
theorem r132_63 (d : Nat) (v : Int32) (l0 l1 l3 : Option Value) (st : List Value) (h : tm_H) (K : Option Value → tm_H → Prop) : tm_A d 132 63 [l0, l1, some (.int v), l3] st h K ↔ tm_A d 132 64 [l0, l1, some (.int v), l3] (.int v :: st) h K := tm_s o132_63 rfl rfl rfl
theorem o132_64 : tm_op 132 64 = some (.aload_n 0, (0, 0, 0, 0)) := rfl
theorem r132_64 (d : Nat) (v : Nat) (l1 l2 l3 : Option Value) (st : List Value) (h : tm_H) (K : Option Value → tm_H → Prop) : tm_A d 132 64 [some (.ref v), l1, l2, l3] st h K ↔ tm_A d 132 65 [some (.ref v), l1, l2, l3] (.ref v :: st) h K := tm_s o132_64 rfl rfl rfl
theorem o132_65 : tm_op 132 65 = some (.getfield 123, (0, 10, 8, 0)) := rfl
theorem r132_65 (d : Nat) (a : Nat) (ls : tm_Lo) (st : List Value) (G : tm_G) (I : Nat → Nat → Int32) (J : Nat → Nat → Int64) (R : Nat → Nat → Option Nat) (K : Option Value → tm_H → Prop) : tm_A d 132 65 ls (.ref a :: st) (G, I, J, R) K ↔ G.2.2 a = (0, 10) ∧ tm_A d 132 68 ls (.int (I a 8) :: st) (G, I, J, R) K := tm_getI o132_65
theorem o132_68 : tm_op 132 68 = some (.iastore, (0, 0, 0, 0)) := rfl
theorem r132_68 (d : Nat) (u v : Int32) (a : Nat) (ls : tm_Lo) (st : List Value) (G : tm_G) (I : Nat → Nat → Int32) (J : Nat → Nat → Int64) (R : Nat → Nat → Option Nat) (K : Option Value → tm_H → Prop) : tm_A d 132 68 ls (.int u :: .int v :: .ref a :: st) (G, I, J, R) K ↔ (3 ≤ a ∧ (G.2.2 a).1 = 1 ∧ tm_in v (G.2.2 a).2) ∧ tm_A d 132 69 ls st (G, up2 I a (tm_ix v) u, J, R) K := tm_iast o132_68
theorem o132_69 : tm_op 132 69 = some (.iconst 0, (0, 0, 0, 0)) := rfl
theorem r132_69 (d : Nat) (ls : tm_Lo) (st : List Value) (h : tm_H) (K : Option Value → tm_H → Prop) : tm_A d 132 69 ls st h K ↔ tm_A d 132 70 ls (.int (0 : Int32) :: st) h K := tm_ic o132_69 (by decide)
theorem o132_70 : tm_op 132 70 = some (.istore_n 3, (0, 0, 0, 0)) := rfl
theorem r132_70 (d : Nat) (v : Int32) (l0 l1 l2 l3 : Option Value) (st : List Value) (h : tm_H) (K : Option Value → tm_H → Prop) : tm_A d 132 70 [l0, l1, l2, l3] (.int v :: st) h K ↔ tm_A d 132 71 [l0, l1, l2, some (.int v)] st h K := tm_s o132_70 rfl rfl rfl
theorem o132_71 : tm_op 132 71 = some (.iload_n 3, (0, 0, 0, 0)) := rfl
theorem r132_71 (d : Nat) (v : Int32) (l0 l1 l2 : Option Value) (st : List Value) (h : tm_H) (K : Option Value → tm_H → Prop) : tm_A d 132 71 [l0, l1, l2, some (.int v)] st h K ↔ tm_A d 132 72 [l0, l1, l2, some (.int v)] (.int v :: st) h K := tm_s o132_71 rfl rfl rfl
theorem o132_72 : tm_op 132 72 = some (.iconst 5, (0, 0, 0, 0)) := rfl
theorem r132_72 (d : Nat) (ls : tm_Lo) (st : List Value) (h : tm_H) (K : Option Value → tm_H → Prop) : tm_A d 132 72 ls st h K ↔ tm_A d 132 73 ls (.int (5 : Int32) :: st) h K := tm_ic o132_72 (by decide)
theorem o132_73 : tm_op 132 73 = some (.if_icmp .ge 25, (0, 0, 0, 0)) := rfl
theorem r132_73 (d : Nat) (y x : Int32) (ls : tm_Lo) (st : List Value) (h : tm_H) (K : Option Value → tm_H → Prop) : tm_A d 132 73 ls (.int y :: .int x :: st) h K ↔ if y ≤ x then tm_A d 132 98 ls st h K else tm_A d 132 76 ls st h K := tm_b o132_73 rfl rfl rfl rfl
theorem o132_76 : tm_op 132 76 = some (.aload_n 0, (0, 0, 0, 0)) := rfl
theorem r132_76 (d : Nat) (v : Nat) (l1 l2 l3 : Option Value) (st : List Value) (h : tm_H) (K : Option Value → tm_H → Prop) : tm_A d 132 76 [some (.ref v), l1, l2, l3] st h K ↔ tm_A d 132 77 [some (.ref v), l1, l2, l3] (.ref v :: st) h K := tm_s o132_76 rfl rfl rfl
theorem o132_77 : tm_op 132 77 = some (.getfield 41, (2, 10, 19, 0)) := rfl
theorem r132_77 (d : Nat) (a : Nat) (ls : tm_Lo) (st : List Value) (G : tm_G) (I : Nat → Nat → Int32) (J : Nat → Nat → Int64) (R : Nat → Nat → Option Nat) (K : Option Value → tm_H → Prop) : tm_A d 132 77 ls (.ref a :: st) (G, I, J, R) K ↔ G.2.2 a = (0, 10) ∧ tm_A d 132 80 ls (tm_rf (R a 19) :: st) (G, I, J, R) K := tm_getR o132_77
theorem o132_80 : tm_op 132 80 = some (.iconst 5, (0, 0, 0, 0)) := rfl
theorem r132_80 (d : Nat) (ls : tm_Lo) (st : List Value) (h : tm_H) (K : Option Value → tm_H → Prop) : tm_A d 132 80 ls st h K ↔ tm_A d 132 81 ls (.int (5 : Int32) :: st) h K := tm_ic o132_80 (by decide)
theorem o132_81 : tm_op 132 81 = some (.iload_n 2, (0, 0, 0, 0)) := rfl
theorem r132_81 (d : Nat) (v : Int32) (l0 l1 l3 : Option Value) (st : List Value) (h : tm_H) (K : Option Value → tm_H → Prop) : tm_A d 132 81 [l0, l1, some (.int v), l3] st h K ↔ tm_A d 132 82 [l0, l1, some (.int v), l3] (.int v :: st) h K := tm_s o132_81 rfl rfl rfl
theorem o132_82 : tm_op 132 82 = some (.imul, (0, 0, 0, 0)) := rfl
theorem r132_82 (d : Nat) (u v : Int32) (ls : tm_Lo) (st : List Value) (h : tm_H) (K : Option Value → tm_H → Prop) : tm_A d 132 82 ls (.int u :: .int v :: st) h K ↔ tm_A d 132 83 ls (.int (v * u) :: st) h K := tm_s o132_82 rfl rfl rfl
theorem o132_83 : tm_op 132 83 = some (.iload_n 3, (0, 0, 0, 0)) := rfl
theorem r132_83 (d : Nat) (v : Int32) (l0 l1 l2 : Option Value) (st : List Value) (h : tm_H) (K : Option Value → tm_H → Prop) : tm_A d 132 83 [l0, l1, l2, some (.int v)] st h K ↔ tm_A d 132 84 [l0, l1, l2, some (.int v)] (.int v :: st) h K := tm_s o132_83 rfl rfl rfl
theorem o132_84 : tm_op 132 84 = some (.iadd, (0, 0, 0, 0)) := rfl
theorem r132_84 (d : Nat) (u v : Int32) (ls : tm_Lo) (st : List Value) (h : tm_H) (K : Option Value → tm_H → Prop) : tm_A d 132 84 ls (.int u :: .int v :: st) h K ↔ tm_A d 132 85 ls (.int (v + u) :: st) h K := tm_s o132_84 rfl rfl rfl
theorem o132_85 : tm_op 132 85 = some (.aload_n 0, (0, 0, 0, 0)) := rfl
theorem r132_85 (d : Nat) (v : Nat) (l1 l2 l3 : Option Value) (st : List Value) (h : tm_H) (K : Option Value → tm_H → Prop) : tm_A d 132 85 [some (.ref v), l1, l2, l3] st h K ↔ tm_A d 132 86 [some (.ref v), l1, l2, l3] (.ref v :: st) h K := tm_s o132_85 rfl rfl rfl
theorem o132_86 : tm_op 132 86 = some (.getfield 20, (2, 10, 9, 0)) := rfl
theorem r132_86 (d : Nat) (a : Nat) (ls : tm_Lo) (st : List Value) (G : tm_G) (I : Nat → Nat → Int32) (J : Nat → Nat → Int64) (R : Nat → Nat → Option Nat) (K : Option Value → tm_H → Prop) : tm_A d 132 86 ls (.ref a :: st) (G, I, J, R) K ↔ G.2.2 a = (0, 10) ∧ tm_A d 132 89 ls (tm_rf (R a 9) :: st) (G, I, J, R) K := tm_getR o132_86
theorem o132_89 : tm_op 132 89 = some (.iload_n 3, (0, 0, 0, 0)) := rfl
theorem r132_89 (d : Nat) (v : Int32) (l0 l1 l2 : Option Value) (st : List Value) (h : tm_H) (K : Option Value → tm_H → Prop) : tm_A d 132 89 [l0, l1, l2, some (.int v)] st h K ↔ tm_A d 132 90 [l0, l1, l2, some (.int v)] (.int v :: st) h K := tm_s o132_89 rfl rfl rfl
theorem o132_90 : tm_op 132 90 = some (.iaload, (0, 0, 0, 0)) := rfl
theorem r132_90 (d : Nat) (v : Int32) (a : Nat) (ls : tm_Lo) (st : List Value) (G : tm_G) (I : Nat → Nat → Int32) (J : Nat → Nat → Int64) (R : Nat → Nat → Option Nat) (K : Option Value → tm_H → Prop) : tm_A d 132 90 ls (.int v :: .ref a :: st) (G, I, J, R) K ↔ ((G.2.2 a).1 = 1 ∧ tm_in v (G.2.2 a).2) ∧ tm_A d 132 91 ls (.int (I a (tm_ix v)) :: st) (G, I, J, R) K := tm_iald o132_90
theorem o132_91 : tm_op 132 91 = some (.iastore, (0, 0, 0, 0)) := rfl
theorem r132_91 (d : Nat) (u v : Int32) (a : Nat) (ls : tm_Lo) (st : List Value) (G : tm_G) (I : Nat → Nat → Int32) (J : Nat → Nat → Int64) (R : Nat → Nat → Option Nat) (K : Option Value → tm_H → Prop) : tm_A d 132 91 ls (.int u :: .int v :: .ref a :: st) (G, I, J, R) K ↔ (3 ≤ a ∧ (G.2.2 a).1 = 1 ∧ tm_in v (G.2.2 a).2) ∧ tm_A d 132 92 ls st (G, up2 I a (tm_ix v) u, J, R) K := tm_iast o132_91
theorem o132_92 : tm_op 132 92 = some (.iinc 3 1, (0, 0, 0, 0)) := rfl
theorem r132_92 (d : Nat) (v : Int32) (l0 l1 l2 : Option Value) (st : List Value) (h : tm_H) (K : Option Value → tm_H → Prop) : tm_A d 132 92 [l0, l1, l2, some (.int v)] st h K ↔ tm_A d 132 95 [l0, l1, l2, some (.int (v + (1 : Int32)))] st h K := tm_s o132_92 rfl rfl rfl
theorem o132_95 : tm_op 132 95 = some (.goto (-24), (0, 0, 0, 0)) := rfl
theorem r132_95 (d : Nat) (ls : tm_Lo) (st : List Value) (h : tm_H) (K : Option Value → tm_H → Prop) : tm_A d 132 95 ls st h K ↔ tm_A d 132 71 ls st h K := tm_s o132_95 rfl rfl rfl
theorem o132_98 : tm_op 132 98 = some (.iconst 0, (0, 0, 0, 0)) := rfl
theorem r132_98 (d : Nat) (ls : tm_Lo) (st : List Value) (h : tm_H) (K : Option Value → tm_H → Prop) : tm_A d 132 98 ls st h K ↔ tm_A d 132 99 ls (.int (0 : Int32) :: st) h K := tm_ic o132_98 (by decide)
theorem o132_99 : tm_op 132 99 = some (.istore_n 3, (0, 0, 0, 0)) := rfl
theorem r132_99 (d : Nat) (v : Int32) (l0 l1 l2 l3 : Option Value) (st : List Value) (h : tm_H) (K : Option Value → tm_H → Prop) : tm_A d 132 99 [l0, l1, l2, l3] (.int v :: st) h K ↔ tm_A d 132 100 [l0, l1, l2, some (.int v)] st h K := tm_s o132_99 rfl rfl rfl
theorem o132_100 : tm_op 132 100 = some (.iload_n 3, (0, 0, 0, 0)) := rfl
theorem r132_100 (d : Nat) (v : Int32) (l0 l1 l2 : Option Value) (st : List Value) (h : tm_H) (K : Option Value → tm_H → Prop) : tm_A d 132 100 [l0, l1, l2, some (.int v)] st h K ↔ tm_A d 132 101 [l0, l1, l2, some (.int v)] (.int v :: st) h K := tm_s o132_100 rfl rfl rfl
theorem o132_101 : tm_op 132 101 = some (.bipush 18, (0, 0, 0, 0)) := rfl
theorem r132_101 (d : Nat) (ls : tm_Lo) (st : List Value) (h : tm_H) (K : Option Value → tm_H → Prop) : tm_A d 132 101 ls st h K ↔ tm_A d 132 103 ls (.int (18 : Int32) :: st) h K := tm_bp o132_101 (by decide)
theorem o132_103 : tm_op 132 103 = some (.if_icmp .ge 26, (0, 0, 0, 0)) := rfl
theorem r132_103 (d : Nat) (y x : Int32) (ls : tm_Lo) (st : List Value) (h : tm_H) (K : Option Value → tm_H → Prop) : tm_A d 132 103 ls (.int y :: .int x :: st) h K ↔ if y ≤ x then tm_A d 132 129 ls st h K else tm_A d 132 106 ls st h K := tm_b o132_103 rfl rfl rfl rfl
theorem o132_106 : tm_op 132 106 = some (.aload_n 0, (0, 0, 0, 0)) := rfl
theorem r132_106 (d : Nat) (v : Nat) (l1 l2 l3 : Option Value) (st : List Value) (h : tm_H) (K : Option Value → tm_H → Prop) : tm_A d 132 106 [some (.ref v), l1, l2, l3] st h K ↔ tm_A d 132 107 [some (.ref v), l1, l2, l3] (.ref v :: st) h K := tm_s o132_106 rfl rfl rfl
theorem o132_107 : tm_op 132 107 = some (.getfield 50, (2, 10, 22, 0)) := rfl
theorem r132_107 (d : Nat) (a : Nat) (ls : tm_Lo) (st : List Value) (G : tm_G) (I : Nat → Nat → Int32) (J : Nat → Nat → Int64) (R : Nat → Nat → Option Nat) (K : Option Value → tm_H → Prop) : tm_A d 132 107 ls (.ref a :: st) (G, I, J, R) K ↔ G.2.2 a = (0, 10) ∧ tm_A d 132 110 ls (tm_rf (R a 22) :: st) (G, I, J, R) K := tm_getR o132_107
theorem o132_110 : tm_op 132 110 = some (.bipush 18, (0, 0, 0, 0)) := rfl
theorem r132_110 (d : Nat) (ls : tm_Lo) (st : List Value) (h : tm_H) (K : Option Value → tm_H → Prop) : tm_A d 132 110 ls st h K ↔ tm_A d 132 112 ls (.int (18 : Int32) :: st) h K := tm_bp o132_110 (by decide)
theorem o132_112 : tm_op 132 112 = some (.iload_n 2, (0, 0, 0, 0)) := rfl
theorem r132_112 (d : Nat) (v : Int32) (l0 l1 l3 : Option Value) (st : List Value) (h : tm_H) (K : Option Value → tm_H → Prop) : tm_A d 132 112 [l0, l1, some (.int v), l3] st h K ↔ tm_A d 132 113 [l0, l1, some (.int v), l3] (.int v :: st) h K := tm_s o132_112 rfl rfl rfl
theorem o132_113 : tm_op 132 113 = some (.imul, (0, 0, 0, 0)) := rfl
theorem r132_113 (d : Nat) (u v : Int32) (ls : tm_Lo) (st : List Value) (h : tm_H) (K : Option Value → tm_H → Prop) : tm_A d 132 113 ls (.int u :: .int v :: st) h K ↔ tm_A d 132 114 ls (.int (v * u) :: st) h K := tm_s o132_113 rfl rfl rfl
theorem o132_114 : tm_op 132 114 = some (.iload_n 3, (0, 0, 0, 0)) := rfl
theorem r132_114 (d : Nat) (v : Int32) (l0 l1 l2 : Option Value) (st : List Value) (h : tm_H) (K : Option Value → tm_H → Prop) : tm_A d 132 114 [l0, l1, l2, some (.int v)] st h K ↔ tm_A d 132 115 [l0, l1, l2, some (.int v)] (.int v :: st) h K := tm_s o132_114 rfl rfl rfl
theorem o132_115 : tm_op 132 115 = some (.iadd, (0, 0, 0, 0)) := rfl
theorem r132_115 (d : Nat) (u v : Int32) (ls : tm_Lo) (st : List Value) (h : tm_H) (K : Option Value → tm_H → Prop) : tm_A d 132 115 ls (.int u :: .int v :: st) h K ↔ tm_A d 132 116 ls (.int (v + u) :: st) h K := tm_s o132_115 rfl rfl rfl
theorem o132_116 : tm_op 132 116 = some (.aload_n 0, (0, 0, 0, 0)) := rfl
theorem r132_116 (d : Nat) (v : Nat) (l1 l2 l3 : Option Value) (st : List Value) (h : tm_H) (K : Option Value → tm_H → Prop) : tm_A d 132 116 [some (.ref v), l1, l2, l3] st h K ↔ tm_A d 132 117 [some (.ref v), l1, l2, l3] (.ref v :: st) h K := tm_s o132_116 rfl rfl rfl
theorem o132_117 : tm_op 132 117 = some (.getfield 23, (2, 10, 11, 0)) := rfl
theorem r132_117 (d : Nat) (a : Nat) (ls : tm_Lo) (st : List Value) (G : tm_G) (I : Nat → Nat → Int32) (J : Nat → Nat → Int64) (R : Nat → Nat → Option Nat) (K : Option Value → tm_H → Prop) : tm_A d 132 117 ls (.ref a :: st) (G, I, J, R) K ↔ G.2.2 a = (0, 10) ∧ tm_A d 132 120 ls (tm_rf (R a 11) :: st) (G, I, J, R) K := tm_getR o132_117
theorem o132_120 : tm_op 132 120 = some (.iload_n 3, (0, 0, 0, 0)) := rfl
theorem r132_120 (d : Nat) (v : Int32) (l0 l1 l2 : Option Value) (st : List Value) (h : tm_H) (K : Option Value → tm_H → Prop) : tm_A d 132 120 [l0, l1, l2, some (.int v)] st h K ↔ tm_A d 132 121 [l0, l1, l2, some (.int v)] (.int v :: st) h K := tm_s o132_120 rfl rfl rfl
theorem o132_121 : tm_op 132 121 = some (.iaload, (0, 0, 0, 0)) := rfl
theorem r132_121 (d : Nat) (v : Int32) (a : Nat) (ls : tm_Lo) (st : List Value) (G : tm_G) (I : Nat → Nat → Int32) (J : Nat → Nat → Int64) (R : Nat → Nat → Option Nat) (K : Option Value → tm_H → Prop) : tm_A d 132 121 ls (.int v :: .ref a :: st) (G, I, J, R) K ↔ ((G.2.2 a).1 = 1 ∧ tm_in v (G.2.2 a).2) ∧ tm_A d 132 122 ls (.int (I a (tm_ix v)) :: st) (G, I, J, R) K := tm_iald o132_121
theorem o132_122 : tm_op 132 122 = some (.iastore, (0, 0, 0, 0)) := rfl
theorem r132_122 (d : Nat) (u v : Int32) (a : Nat) (ls : tm_Lo) (st : List Value) (G : tm_G) (I : Nat → Nat → Int32) (J : Nat → Nat → Int64) (R : Nat → Nat → Option Nat) (K : Option Value → tm_H → Prop) : tm_A d 132 122 ls (.int u :: .int v :: .ref a :: st) (G, I, J, R) K ↔ (3 ≤ a ∧ (G.2.2 a).1 = 1 ∧ tm_in v (G.2.2 a).2) ∧ tm_A d 132 123 ls st (G, up2 I a (tm_ix v) u, J, R) K := tm_iast o132_122
theorem o132_123 : tm_op 132 123 = some (.iinc 3 1, (0, 0, 0, 0)) := rfl
theorem r132_123 (d : Nat) (v : Int32) (l0 l1 l2 : Option Value) (st : List Value) (h : tm_H) (K : Option Value → tm_H → Prop) : tm_A d 132 123 [l0, l1, l2, some (.int v)] st h K ↔ tm_A d 132 126 [l0, l1, l2, some (.int (v + (1 : Int32)))] st h K := tm_s o132_123 rfl rfl rfl
theorem o132_126 : tm_op 132 126 = some (.goto (-26), (0, 0, 0, 0)) := rfl
theorem r132_126 (d : Nat) (ls : tm_Lo) (st : List Value) (h : tm_H) (K : Option Value → tm_H → Prop) : tm_A d 132 126 ls st h K ↔ tm_A d 132 100 ls st h K := tm_s o132_126 rfl rfl rfl
theorem o132_129 : tm_op 132 129 = some (.iconst 0, (0, 0, 0, 0)) := rfl
theorem r132_129 (d : Nat) (ls : tm_Lo) (st : List Value) (h : tm_H) (K : Option Value → tm_H → Prop) : tm_A d 132 129 ls st h K ↔ tm_A d 132 130 ls (.int (0 : Int32) :: st) h K := tm_ic o132_129 (by decide)
theorem o132_130 : tm_op 132 130 = some (.istore_n 3, (0, 0, 0, 0)) := rfl
theorem r132_130 (d : Nat) (v : Int32) (l0 l1 l2 l3 : Option Value) (st : List Value) (h : tm_H) (K : Option Value → tm_H → Prop) : tm_A d 132 130 [l0, l1, l2, l3] (.int v :: st) h K ↔ tm_A d 132 131 [l0, l1, l2, some (.int v)] st h K := tm_s o132_130 rfl rfl rfl
theorem o132_131 : tm_op 132 131 = some (.iload_n 3, (0, 0, 0, 0)) := rfl
theorem r132_131 (d : Nat) (v : Int32) (l0 l1 l2 : Option Value) (st : List Value) (h : tm_H) (K : Option Value → tm_H → Prop) : tm_A d 132 131 [l0, l1, l2, some (.int v)] st h K ↔ tm_A d 132 132 [l0, l1, l2, some (.int v)] (.int v :: st) h K := tm_s o132_131 rfl rfl rfl
theorem o132_132 : tm_op 132 132 = some (.iconst 3, (0, 0, 0, 0)) := rfl
theorem r132_132 (d : Nat) (ls : tm_Lo) (st : List Value) (h : tm_H) (K : Option Value → tm_H → Prop) : tm_A d 132 132 ls st h K ↔ tm_A d 132 133 ls (.int (3 : Int32) :: st) h K := tm_ic o132_132 (by decide)
theorem o132_133 : tm_op 132 133 = some (.if_icmp .ge 25, (0, 0, 0, 0)) := rfl
theorem r132_133 (d : Nat) (y x : Int32) (ls : tm_Lo) (st : List Value) (h : tm_H) (K : Option Value → tm_H → Prop) : tm_A d 132 133 ls (.int y :: .int x :: st) h K ↔ if y ≤ x then tm_A d 132 158 ls st h K else tm_A d 132 136 ls st h K := tm_b o132_133 rfl rfl rfl rfl
theorem o132_136 : tm_op 132 136 = some (.aload_n 0, (0, 0, 0, 0)) := rfl
theorem r132_136 (d : Nat) (v : Nat) (l1 l2 l3 : Option Value) (st : List Value) (h : tm_H) (K : Option Value → tm_H → Prop) : tm_A d 132 136 [some (.ref v), l1, l2, l3] st h K ↔ tm_A d 132 137 [some (.ref v), l1, l2, l3] (.ref v :: st) h K := tm_s o132_136 rfl rfl rfl
theorem o132_137 : tm_op 132 137 = some (.getfield 53, (2, 10, 23, 0)) := rfl
theorem r132_137 (d : Nat) (a : Nat) (ls : tm_Lo) (st : List Value) (G : tm_G) (I : Nat → Nat → Int32) (J : Nat → Nat → Int64) (R : Nat → Nat → Option Nat) (K : Option Value → tm_H → Prop) : tm_A d 132 137 ls (.ref a :: st) (G, I, J, R) K ↔ G.2.2 a = (0, 10) ∧ tm_A d 132 140 ls (tm_rf (R a 23) :: st) (G, I, J, R) K := tm_getR o132_137
theorem o132_140 : tm_op 132 140 = some (.iconst 3, (0, 0, 0, 0)) := rfl
theorem r132_140 (d : Nat) (ls : tm_Lo) (st : List Value) (h : tm_H) (K : Option Value → tm_H → Prop) : tm_A d 132 140 ls st h K ↔ tm_A d 132 141 ls (.int (3 : Int32) :: st) h K := tm_ic o132_140 (by decide)
theorem o132_141 : tm_op 132 141 = some (.iload_n 2, (0, 0, 0, 0)) := rfl
theorem r132_141 (d : Nat) (v : Int32) (l0 l1 l3 : Option Value) (st : List Value) (h : tm_H) (K : Option Value → tm_H → Prop) : tm_A d 132 141 [l0, l1, some (.int v), l3] st h K ↔ tm_A d 132 142 [l0, l1, some (.int v), l3] (.int v :: st) h K := tm_s o132_141 rfl rfl rfl
theorem o132_142 : tm_op 132 142 = some (.imul, (0, 0, 0, 0)) := rfl
theorem r132_142 (d : Nat) (u v : Int32) (ls : tm_Lo) (st : List Value) (h : tm_H) (K : Option Value → tm_H → Prop) : tm_A d 132 142 ls (.int u :: .int v :: st) h K ↔ tm_A d 132 143 ls (.int (v * u) :: st) h K := tm_s o132_142 rfl rfl rfl
theorem o132_143 : tm_op 132 143 = some (.iload_n 3, (0, 0, 0, 0)) := rfl
theorem r132_143 (d : Nat) (v : Int32) (l0 l1 l2 : Option Value) (st : List Value) (h : tm_H) (K : Option Value → tm_H → Prop) : tm_A d 132 143 [l0, l1, l2, some (.int v)] st h K ↔ tm_A d 132 144 [l0, l1, l2, some (.int v)] (.int v :: st) h K := tm_s o132_143 rfl rfl rfl
theorem o132_144 : tm_op 132 144 = some (.iadd, (0, 0, 0, 0)) := rfl
theorem r132_144 (d : Nat) (u v : Int32) (ls : tm_Lo) (st : List Value) (h : tm_H) (K : Option Value → tm_H → Prop) : tm_A d 132 144 ls (.int u :: .int v :: st) h K ↔ tm_A d 132 145 ls (.int (v + u) :: st) h K := tm_s o132_144 rfl rfl rfl
theorem o132_145 : tm_op 132 145 = some (.aload_n 0, (0, 0, 0, 0)) := rfl
theorem r132_145 (d : Nat) (v : Nat) (l1 l2 l3 : Option Value) (st : List Value) (h : tm_H) (K : Option Value → tm_H → Prop) : tm_A d 132 145 [some (.ref v), l1, l2, l3] st h K ↔ tm_A d 132 146 [some (.ref v), l1, l2, l3] (.ref v :: st) h K := tm_s o132_145 rfl rfl rfl
theorem o132_146 : tm_op 132 146 = some (.getfield 26, (2, 10, 12, 0)) := rfl
theorem r132_146 (d : Nat) (a : Nat) (ls : tm_Lo) (st : List Value) (G : tm_G) (I : Nat → Nat → Int32) (J : Nat → Nat → Int64) (R : Nat → Nat → Option Nat) (K : Option Value → tm_H → Prop) : tm_A d 132 146 ls (.ref a :: st) (G, I, J, R) K ↔ G.2.2 a = (0, 10) ∧ tm_A d 132 149 ls (tm_rf (R a 12) :: st) (G, I, J, R) K := tm_getR o132_146
theorem o132_149 : tm_op 132 149 = some (.iload_n 3, (0, 0, 0, 0)) := rfl
theorem r132_149 (d : Nat) (v : Int32) (l0 l1 l2 : Option Value) (st : List Value) (h : tm_H) (K : Option Value → tm_H → Prop) : tm_A d 132 149 [l0, l1, l2, some (.int v)] st h K ↔ tm_A d 132 150 [l0, l1, l2, some (.int v)] (.int v :: st) h K := tm_s o132_149 rfl rfl rfl
theorem o132_150 : tm_op 132 150 = some (.iaload, (0, 0, 0, 0)) := rfl
theorem r132_150 (d : Nat) (v : Int32) (a : Nat) (ls : tm_Lo) (st : List Value) (G : tm_G) (I : Nat → Nat → Int32) (J : Nat → Nat → Int64) (R : Nat → Nat → Option Nat) (K : Option Value → tm_H → Prop) : tm_A d 132 150 ls (.int v :: .ref a :: st) (G, I, J, R) K ↔ ((G.2.2 a).1 = 1 ∧ tm_in v (G.2.2 a).2) ∧ tm_A d 132 151 ls (.int (I a (tm_ix v)) :: st) (G, I, J, R) K := tm_iald o132_150
theorem o132_151 : tm_op 132 151 = some (.iastore, (0, 0, 0, 0)) := rfl
theorem r132_151 (d : Nat) (u v : Int32) (a : Nat) (ls : tm_Lo) (st : List Value) (G : tm_G) (I : Nat → Nat → Int32) (J : Nat → Nat → Int64) (R : Nat → Nat → Option Nat) (K : Option Value → tm_H → Prop) : tm_A d 132 151 ls (.int u :: .int v :: .ref a :: st) (G, I, J, R) K ↔ (3 ≤ a ∧ (G.2.2 a).1 = 1 ∧ tm_in v (G.2.2 a).2) ∧ tm_A d 132 152 ls st (G, up2 I a (tm_ix v) u, J, R) K := tm_iast o132_151
theorem o132_152 : tm_op 132 152 = some (.iinc 3 1, (0, 0, 0, 0)) := rfl
theorem r132_152 (d : Nat) (v : Int32) (l0 l1 l2 : Option Value) (st : List Value) (h : tm_H) (K : Option Value → tm_H → Prop) : tm_A d 132 152 [l0, l1, l2, some (.int v)] st h K ↔ tm_A d 132 155 [l0, l1, l2, some (.int (v + (1 : Int32)))] st h K := tm_s o132_152 rfl rfl rfl
theorem o132_155 : tm_op 132 155 = some (.goto (-24), (0, 0, 0, 0)) := rfl
theorem r132_155 (d : Nat) (ls : tm_Lo) (st : List Value) (h : tm_H) (K : Option Value → tm_H → Prop) : tm_A d 132 155 ls st h K ↔ tm_A d 132 131 ls st h K := tm_s o132_155 rfl rfl rfl
theorem o132_158 : tm_op 132 158 = some (.aload_n 0, (0, 0, 0, 0)) := rfl
theorem r132_158 (d : Nat) (v : Nat) (l1 l2 l3 : Option Value) (st : List Value) (h : tm_H) (K : Option Value → tm_H → Prop) : tm_A d 132 158 [some (.ref v), l1, l2, l3] st h K ↔ tm_A d 132 159 [some (.ref v), l1, l2, l3] (.ref v :: st) h K := tm_s o132_158 rfl rfl rfl
theorem o132_159 : tm_op 132 159 = some (.iconst 0, (0, 0, 0, 0)) := rfl
theorem r132_159 (d : Nat) (ls : tm_Lo) (st : List Value) (h : tm_H) (K : Option Value → tm_H → Prop) : tm_A d 132 159 ls st h K ↔ tm_A d 132 160 ls (.int (0 : Int32) :: st) h K := tm_ic o132_159 (by decide)
theorem o132_160 : tm_op 132 160 = some (.putfield 94, (0, 10, 6, 0)) := rfl
theorem r132_160 (d : Nat) (v : Int32) (a : Nat) (ls : tm_Lo) (st : List Value) (G : tm_G) (I : Nat → Nat → Int32) (J : Nat → Nat → Int64) (R : Nat → Nat → Option Nat) (K : Option Value → tm_H → Prop) : tm_A d 132 160 ls (.int v :: .ref a :: st) (G, I, J, R) K ↔ G.2.2 a = (0, 10) ∧ tm_A d 132 163 ls st (G, up2 I a 6 v, J, R) K := tm_putI o132_160
theorem o132_163 : tm_op 132 163 = some (.return_, (0, 0, 0, 0)) := rfl
theorem r132_163 (d : Nat) (ls : tm_Lo) (h : tm_H) (K : Option Value → tm_H → Prop) : tm_A d 132 163 ls [] h K ↔ K none h := tm_retv o132_163 rfl
theorem o133_0 : tm_op 133 0 = some (.aload_n 0, (0, 0, 0, 0)) := rfl
theorem r133_0 (d : Nat) (v : Nat) (st : List Value) (h : tm_H) (K : Option Value → tm_H → Prop) : tm_A d 133 0 [some (.ref v)] st h K ↔ tm_A d 133 1 [some (.ref v)] (.ref v :: st) h K := tm_s o133_0 rfl rfl rfl
theorem o133_1 : tm_op 133 1 = some (.getfield 142, (0, 10, 1, 0)) := rfl
theorem r133_1 (d : Nat) (a : Nat) (ls : tm_Lo) (st : List Value) (G : tm_G) (I : Nat → Nat → Int32) (J : Nat → Nat → Int64) (R : Nat → Nat → Option Nat) (K : Option Value → tm_H → Prop) : tm_A d 133 1 ls (.ref a :: st) (G, I, J, R) K ↔ G.2.2 a = (0, 10) ∧ tm_A d 133 4 ls (.int (I a 1) :: st) (G, I, J, R) K := tm_getI o133_1
theorem o133_4 : tm_op 133 4 = some (.bipush 10, (0, 0, 0, 0)) := rfl
theorem r133_4 (d : Nat) (ls : tm_Lo) (st : List Value) (h : tm_H) (K : Option Value → tm_H → Prop) : tm_A d 133 4 ls st h K ↔ tm_A d 133 6 ls (.int (10 : Int32) :: st) h K := tm_bp o133_4 (by decide)
theorem o133_6 : tm_op 133 6 = some (.if_icmp .eq 11, (0, 0, 0, 0)) := rfl
theorem r133_6 (d : Nat) (y x : Int32) (ls : tm_Lo) (st : List Value) (h : tm_H) (K : Option Value → tm_H → Prop) : tm_A d 133 6 ls (.int y :: .int x :: st) h K ↔ if x = y then tm_A d 133 17 ls st h K else tm_A d 133 9 ls st h K := tm_b o133_6 rfl rfl rfl rfl
theorem o133_9 : tm_op 133 9 = some (.aload_n 0, (0, 0, 0, 0)) := rfl
theorem r133_9 (d : Nat) (v : Nat) (st : List Value) (h : tm_H) (K : Option Value → tm_H → Prop) : tm_A d 133 9 [some (.ref v)] st h K ↔ tm_A d 133 10 [some (.ref v)] (.ref v :: st) h K := tm_s o133_9 rfl rfl rfl
theorem o133_10 : tm_op 133 10 = some (.invokevirtual 145, (2, 131, 1, 10)) := rfl
theorem r133_10 (d : Nat) (a : Nat) (ls : tm_Lo) (st : List Value) (h : tm_H) (K : Option Value → tm_H → Prop) : tm_A (d + 1) 133 10 ls (.ref a :: st) h K ↔ (h.1.2.2 a = (0, 10) ∧ tm_cs st) ∧ tm_R d 131 [.ref a] h (fun r h' => tm_A (d + 1) 133 13 ls (r.toList ++ st) h' K) := tm_callV (as := []) o133_10 rfl rfl rfl rfl
theorem o133_13 : tm_op 133 13 = some (.iconst (-1), (0, 0, 0, 0)) := rfl
theorem r133_13 (d : Nat) (ls : tm_Lo) (st : List Value) (h : tm_H) (K : Option Value → tm_H → Prop) : tm_A d 133 13 ls st h K ↔ tm_A d 133 14 ls (.int (-1 : Int32) :: st) h K := tm_ic o133_13 (by decide)
theorem o133_14 : tm_op 133 14 = some (.if_icmp .eq 5, (0, 0, 0, 0)) := rfl
theorem r133_14 (d : Nat) (y x : Int32) (ls : tm_Lo) (st : List Value) (h : tm_H) (K : Option Value → tm_H → Prop) : tm_A d 133 14 ls (.int y :: .int x :: st) h K ↔ if x = y then tm_A d 133 19 ls st h K else tm_A d 133 17 ls st h K := tm_b o133_14 rfl rfl rfl rfl
theorem o133_17 : tm_op 133 17 = some (.iconst (-1), (0, 0, 0, 0)) := rfl
theorem r133_17 (d : Nat) (ls : tm_Lo) (st : List Value) (h : tm_H) (K : Option Value → tm_H → Prop) : tm_A d 133 17 ls st h K ↔ tm_A d 133 18 ls (.int (-1 : Int32) :: st) h K := tm_ic o133_17 (by decide)
theorem o133_18 : tm_op 133 18 = some (.ireturn, (0, 0, 0, 0)) := rfl
theorem r133_18 (d : Nat) (v : Int32) (ls : tm_Lo) (h : tm_H) (K : Option Value → tm_H → Prop) : tm_A d 133 18 ls [.int v] h K ↔ K (some (.int v)) h := tm_reti o133_18 rfl
theorem o133_19 : tm_op 133 19 = some (.aload_n 0, (0, 0, 0, 0)) := rfl
theorem r133_19 (d : Nat) (v : Nat) (st : List Value) (h : tm_H) (K : Option Value → tm_H → Prop) : tm_A d 133 19 [some (.ref v)] st h K ↔ tm_A d 133 20 [some (.ref v)] (.ref v :: st) h K := tm_s o133_19 rfl rfl rfl
theorem o133_20 : tm_op 133 20 = some (.getfield 56, (2, 10, 24, 0)) := rfl
theorem r133_20 (d : Nat) (a : Nat) (ls : tm_Lo) (st : List Value) (G : tm_G) (I : Nat → Nat → Int32) (J : Nat → Nat → Int64) (R : Nat → Nat → Option Nat) (K : Option Value → tm_H → Prop) : tm_A d 133 20 ls (.ref a :: st) (G, I, J, R) K ↔ G.2.2 a = (0, 10) ∧ tm_A d 133 23 ls (tm_rf (R a 24) :: st) (G, I, J, R) K := tm_getR o133_20
theorem o133_23 : tm_op 133 23 = some (.aload_n 0, (0, 0, 0, 0)) := rfl
theorem r133_23 (d : Nat) (v : Nat) (st : List Value) (h : tm_H) (K : Option Value → tm_H → Prop) : tm_A d 133 23 [some (.ref v)] st h K ↔ tm_A d 133 24 [some (.ref v)] (.ref v :: st) h K := tm_s o133_23 rfl rfl rfl
theorem o133_24 : tm_op 133 24 = some (.getfield 142, (0, 10, 1, 0)) := rfl
theorem r133_24 (d : Nat) (a : Nat) (ls : tm_Lo) (st : List Value) (G : tm_G) (I : Nat → Nat → Int32) (J : Nat → Nat → Int64) (R : Nat → Nat → Option Nat) (K : Option Value → tm_H → Prop) : tm_A d 133 24 ls (.ref a :: st) (G, I, J, R) K ↔ G.2.2 a = (0, 10) ∧ tm_A d 133 27 ls (.int (I a 1) :: st) (G, I, J, R) K := tm_getI o133_24
theorem o133_27 : tm_op 133 27 = some (.aload_n 0, (0, 0, 0, 0)) := rfl
theorem r133_27 (d : Nat) (v : Nat) (st : List Value) (h : tm_H) (K : Option Value → tm_H → Prop) : tm_A d 133 27 [some (.ref v)] st h K ↔ tm_A d 133 28 [some (.ref v)] (.ref v :: st) h K := tm_s o133_27 rfl rfl rfl
theorem o133_28 : tm_op 133 28 = some (.getfield 87, (0, 10, 0, 0)) := rfl
theorem r133_28 (d : Nat) (a : Nat) (ls : tm_Lo) (st : List Value) (G : tm_G) (I : Nat → Nat → Int32) (J : Nat → Nat → Int64) (R : Nat → Nat → Option Nat) (K : Option Value → tm_H → Prop) : tm_A d 133 28 ls (.ref a :: st) (G, I, J, R) K ↔ G.2.2 a = (0, 10) ∧ tm_A d 133 31 ls (.int (I a 0) :: st) (G, I, J, R) K := tm_getI o133_28
theorem o133_31 : tm_op 133 31 = some (.iastore, (0, 0, 0, 0)) := rfl
theorem r133_31 (d : Nat) (u v : Int32) (a : Nat) (ls : tm_Lo) (st : List Value) (G : tm_G) (I : Nat → Nat → Int32) (J : Nat → Nat → Int64) (R : Nat → Nat → Option Nat) (K : Option Value → tm_H → Prop) : tm_A d 133 31 ls (.int u :: .int v :: .ref a :: st) (G, I, J, R) K ↔ (3 ≤ a ∧ (G.2.2 a).1 = 1 ∧ tm_in v (G.2.2 a).2) ∧ tm_A d 133 32 ls st (G, up2 I a (tm_ix v) u, J, R) K := tm_iast o133_31
theorem o133_32 : tm_op 133 32 = some (.aload_n 0, (0, 0, 0, 0)) := rfl
theorem r133_32 (d : Nat) (v : Nat) (st : List Value) (h : tm_H) (K : Option Value → tm_H → Prop) : tm_A d 133 32 [some (.ref v)] st h K ↔ tm_A d 133 33 [some (.ref v)] (.ref v :: st) h K := tm_s o133_32 rfl rfl rfl
theorem o133_33 : tm_op 133 33 = some (.dup, (0, 0, 0, 0)) := rfl
theorem r133_33 (d : Nat) (v : Nat) (ls : tm_Lo) (st : List Value) (h : tm_H) (K : Option Value → tm_H → Prop) : tm_A d 133 33 ls (.ref v :: st) h K ↔ tm_A d 133 34 ls (.ref v :: .ref v :: st) h K := tm_s o133_33 rfl rfl rfl
theorem r133_33i (d : Nat) (v : Int32) (ls : tm_Lo) (st : List Value) (h : tm_H) (K : Option Value → tm_H → Prop) : tm_A d 133 33 ls (.int v :: st) h K ↔ tm_A d 133 34 ls (.int v :: .int v :: st) h K := tm_s o133_33 rfl rfl rfl
theorem o133_34 : tm_op 133 34 = some (.getfield 142, (0, 10, 1, 0)) := rfl
theorem r133_34 (d : Nat) (a : Nat) (ls : tm_Lo) (st : List Value) (G : tm_G) (I : Nat → Nat → Int32) (J : Nat → Nat → Int64) (R : Nat → Nat → Option Nat) (K : Option Value → tm_H → Prop) : tm_A d 133 34 ls (.ref a :: st) (G, I, J, R) K ↔ G.2.2 a = (0, 10) ∧ tm_A d 133 37 ls (.int (I a 1) :: st) (G, I, J, R) K := tm_getI o133_34
theorem o133_37 : tm_op 133 37 = some (.iconst 1, (0, 0, 0, 0)) := rfl
theorem r133_37 (d : Nat) (ls : tm_Lo) (st : List Value) (h : tm_H) (K : Option Value → tm_H → Prop) : tm_A d 133 37 ls st h K ↔ tm_A d 133 38 ls (.int (1 : Int32) :: st) h K := tm_ic o133_37 (by decide)
theorem o133_38 : tm_op 133 38 = some (.iadd, (0, 0, 0, 0)) := rfl
theorem r133_38 (d : Nat) (u v : Int32) (ls : tm_Lo) (st : List Value) (h : tm_H) (K : Option Value → tm_H → Prop) : tm_A d 133 38 ls (.int u :: .int v :: st) h K ↔ tm_A d 133 39 ls (.int (v + u) :: st) h K := tm_s o133_38 rfl rfl rfl
theorem o133_39 : tm_op 133 39 = some (.putfield 142, (0, 10, 1, 0)) := rfl
theorem r133_39 (d : Nat) (v : Int32) (a : Nat) (ls : tm_Lo) (st : List Value) (G : tm_G) (I : Nat → Nat → Int32) (J : Nat → Nat → Int64) (R : Nat → Nat → Option Nat) (K : Option Value → tm_H → Prop) : tm_A d 133 39 ls (.int v :: .ref a :: st) (G, I, J, R) K ↔ G.2.2 a = (0, 10) ∧ tm_A d 133 42 ls st (G, up2 I a 1 v, J, R) K := tm_putI o133_39
theorem o133_42 : tm_op 133 42 = some (.aload_n 0, (0, 0, 0, 0)) := rfl
theorem r133_42 (d : Nat) (v : Nat) (st : List Value) (h : tm_H) (K : Option Value → tm_H → Prop) : tm_A d 133 42 [some (.ref v)] st h K ↔ tm_A d 133 43 [some (.ref v)] (.ref v :: st) h K := tm_s o133_42 rfl rfl rfl
theorem o133_43 : tm_op 133 43 = some (.aload_n 0, (0, 0, 0, 0)) := rfl
theorem r133_43 (d : Nat) (v : Nat) (st : List Value) (h : tm_H) (K : Option Value → tm_H → Prop) : tm_A d 133 43 [some (.ref v)] st h K ↔ tm_A d 133 44 [some (.ref v)] (.ref v :: st) h K := tm_s o133_43 rfl rfl rfl
theorem o133_44 : tm_op 133 44 = some (.getfield 142, (0, 10, 1, 0)) := rfl
theorem r133_44 (d : Nat) (a : Nat) (ls : tm_Lo) (st : List Value) (G : tm_G) (I : Nat → Nat → Int32) (J : Nat → Nat → Int64) (R : Nat → Nat → Option Nat) (K : Option Value → tm_H → Prop) : tm_A d 133 44 ls (.ref a :: st) (G, I, J, R) K ↔ G.2.2 a = (0, 10) ∧ tm_A d 133 47 ls (.int (I a 1) :: st) (G, I, J, R) K := tm_getI o133_44
theorem o133_47 : tm_op 133 47 = some (.iconst 1, (0, 0, 0, 0)) := rfl
theorem r133_47 (d : Nat) (ls : tm_Lo) (st : List Value) (h : tm_H) (K : Option Value → tm_H → Prop) : tm_A d 133 47 ls st h K ↔ tm_A d 133 48 ls (.int (1 : Int32) :: st) h K := tm_ic o133_47 (by decide)
theorem o133_48 : tm_op 133 48 = some (.isub, (0, 0, 0, 0)) := rfl
theorem r133_48 (d : Nat) (u v : Int32) (ls : tm_Lo) (st : List Value) (h : tm_H) (K : Option Value → tm_H → Prop) : tm_A d 133 48 ls (.int u :: .int v :: st) h K ↔ tm_A d 133 49 ls (.int (v - u) :: st) h K := tm_s o133_48 rfl rfl rfl
theorem o133_49 : tm_op 133 49 = some (.invokevirtual 149, (2, 132, 2, 10)) := rfl
theorem r133_49 (d : Nat) (v1 : Int32) (a : Nat) (ls : tm_Lo) (st : List Value) (h : tm_H) (K : Option Value → tm_H → Prop) : tm_A (d + 1) 133 49 ls (.int v1 :: .ref a :: st) h K ↔ (h.1.2.2 a = (0, 10) ∧ tm_cs st) ∧ tm_R d 132 [.ref a, .int v1] h (fun r h' => tm_A (d + 1) 133 52 ls (r.toList ++ st) h' K) := tm_callV (as := [.int v1]) o133_49 rfl rfl rfl rfl
theorem o133_52 : tm_op 133 52 = some (.aload_n 0, (0, 0, 0, 0)) := rfl
theorem r133_52 (d : Nat) (v : Nat) (st : List Value) (h : tm_H) (K : Option Value → tm_H → Prop) : tm_A d 133 52 [some (.ref v)] st h K ↔ tm_A d 133 53 [some (.ref v)] (.ref v :: st) h K := tm_s o133_52 rfl rfl rfl
theorem o133_53 : tm_op 133 53 = some (.getfield 142, (0, 10, 1, 0)) := rfl
theorem r133_53 (d : Nat) (a : Nat) (ls : tm_Lo) (st : List Value) (G : tm_G) (I : Nat → Nat → Int32) (J : Nat → Nat → Int64) (R : Nat → Nat → Option Nat) (K : Option Value → tm_H → Prop) : tm_A d 133 53 ls (.ref a :: st) (G, I, J, R) K ↔ G.2.2 a = (0, 10) ∧ tm_A d 133 56 ls (.int (I a 1) :: st) (G, I, J, R) K := tm_getI o133_53
theorem o133_56 : tm_op 133 56 = some (.iconst 1, (0, 0, 0, 0)) := rfl
theorem r133_56 (d : Nat) (ls : tm_Lo) (st : List Value) (h : tm_H) (K : Option Value → tm_H → Prop) : tm_A d 133 56 ls st h K ↔ tm_A d 133 57 ls (.int (1 : Int32) :: st) h K := tm_ic o133_56 (by decide)
theorem o133_57 : tm_op 133 57 = some (.isub, (0, 0, 0, 0)) := rfl
theorem r133_57 (d : Nat) (u v : Int32) (ls : tm_Lo) (st : List Value) (h : tm_H) (K : Option Value → tm_H → Prop) : tm_A d 133 57 ls (.int u :: .int v :: st) h K ↔ tm_A d 133 58 ls (.int (v - u) :: st) h K := tm_s o133_57 rfl rfl rfl
theorem o133_58 : tm_op 133 58 = some (.ireturn, (0, 0, 0, 0)) := rfl
theorem r133_58 (d : Nat) (v : Int32) (ls : tm_Lo) (h : tm_H) (K : Option Value → tm_H → Prop) : tm_A d 133 58 ls [.int v] h K ↔ K (some (.int v)) h := tm_reti o133_58 rfl
theorem o134_0 : tm_op 134 0 = some (.iload_n 1, (0, 0, 0, 0)) := rfl
theorem r134_0 (d : Nat) (v : Int32) (l0 : Option Value) (st : List Value) (h : tm_H) (K : Option Value → tm_H → Prop) : tm_A d 134 0 [l0, some (.int v)] st h K ↔ tm_A d 134 1 [l0, some (.int v)] (.int v :: st) h K := tm_s o134_0 rfl rfl rfl
theorem o134_1 : tm_op 134 1 = some (.iconst 0, (0, 0, 0, 0)) := rfl
theorem r134_1 (d : Nat) (ls : tm_Lo) (st : List Value) (h : tm_H) (K : Option Value → tm_H → Prop) : tm_A d 134 1 ls st h K ↔ tm_A d 134 2 ls (.int (0 : Int32) :: st) h K := tm_ic o134_1 (by decide)
theorem o134_2 : tm_op 134 2 = some (.aload_n 0, (0, 0, 0, 0)) := rfl
theorem r134_2 (d : Nat) (v : Nat) (l1 : Option Value) (st : List Value) (h : tm_H) (K : Option Value → tm_H → Prop) : tm_A d 134 2 [some (.ref v), l1] st h K ↔ tm_A d 134 3 [some (.ref v), l1] (.ref v :: st) h K := tm_s o134_2 rfl rfl rfl
theorem o134_3 : tm_op 134 3 = some (.getfield 142, (0, 10, 1, 0)) := rfl
theorem r134_3 (d : Nat) (a : Nat) (ls : tm_Lo) (st : List Value) (G : tm_G) (I : Nat → Nat → Int32) (J : Nat → Nat → Int64) (R : Nat → Nat → Option Nat) (K : Option Value → tm_H → Prop) : tm_A d 134 3 ls (.ref a :: st) (G, I, J, R) K ↔ G.2.2 a = (0, 10) ∧ tm_A d 134 6 ls (.int (I a 1) :: st) (G, I, J, R) K := tm_getI o134_3
theorem o134_6 : tm_op 134 6 = some (.iconst 1, (0, 0, 0, 0)) := rfl
theorem r134_6 (d : Nat) (ls : tm_Lo) (st : List Value) (h : tm_H) (K : Option Value → tm_H → Prop) : tm_A d 134 6 ls st h K ↔ tm_A d 134 7 ls (.int (1 : Int32) :: st) h K := tm_ic o134_6 (by decide)
theorem o134_7 : tm_op 134 7 = some (.isub, (0, 0, 0, 0)) := rfl
theorem r134_7 (d : Nat) (u v : Int32) (ls : tm_Lo) (st : List Value) (h : tm_H) (K : Option Value → tm_H → Prop) : tm_A d 134 7 ls (.int u :: .int v :: st) h K ↔ tm_A d 134 8 ls (.int (v - u) :: st) h K := tm_s o134_7 rfl rfl rfl
theorem o134_8 : tm_op 134 8 = some (.invokestatic 83, (1, 117, 3, 0)) := rfl
theorem r134_8 (d : Nat) (v0 : Int32) (v1 : Int32) (v2 : Int32) (ls : tm_Lo) (st : List Value) (h : tm_H) (K : Option Value → tm_H → Prop) : tm_A (d + 1) 134 8 ls (.int v2 :: .int v1 :: .int v0 :: st) h K ↔ tm_cs st ∧ tm_R d 117 [.int v0, .int v1, .int v2] h (fun r h' => tm_A (d + 1) 134 11 ls (r.toList ++ st) h' K) := tm_callS (as := [.int v0, .int v1, .int v2]) o134_8 rfl rfl rfl rfl
theorem o134_11 : tm_op 134 11 = some (.ireturn, (0, 0, 0, 0)) := rfl
theorem r134_11 (d : Nat) (v : Int32) (ls : tm_Lo) (h : tm_H) (K : Option Value → tm_H → Prop) : tm_A d 134 11 ls [.int v] h K ↔ (v = 0 ∨ v = 1) ∧ K (some (.int v)) h := tm_retz o134_11 rfl
theorem o135_0 : tm_op 135 0 = some (.aload_n 0, (0, 0, 0, 0)) := rfl
theorem r135_0 (d : Nat) (v : Nat) (l1 : Option Value) (st : List Value) (h : tm_H) (K : Option Value → tm_H → Prop) : tm_A d 135 0 [some (.ref v), l1] st h K ↔ tm_A d 135 1 [some (.ref v), l1] (.ref v :: st) h K := tm_s o135_0 rfl rfl rfl
theorem o135_1 : tm_op 135 1 = some (.iload_n 1, (0, 0, 0, 0)) := rfl
theorem r135_1 (d : Nat) (v : Int32) (l0 : Option Value) (st : List Value) (h : tm_H) (K : Option Value → tm_H → Prop) : tm_A d 135 1 [l0, some (.int v)] st h K ↔ tm_A d 135 2 [l0, some (.int v)] (.int v :: st) h K := tm_s o135_1 rfl rfl rfl
theorem o135_2 : tm_op 135 2 = some (.invokevirtual 153, (2, 134, 2, 10)) := rfl
theorem r135_2 (d : Nat) (v1 : Int32) (a : Nat) (ls : tm_Lo) (st : List Value) (h : tm_H) (K : Option Value → tm_H → Prop) : tm_A (d + 1) 135 2 ls (.int v1 :: .ref a :: st) h K ↔ (h.1.2.2 a = (0, 10) ∧ tm_cs st) ∧ tm_R d 134 [.ref a, .int v1] h (fun r h' => tm_A (d + 1) 135 5 ls (r.toList ++ st) h' K) := tm_callV (as := [.int v1]) o135_2 rfl rfl rfl rfl
theorem o135_5 : tm_op 135 5 = some (.ifCond .eq 20, (0, 0, 0, 0)) := rfl
theorem r135_5 (d : Nat) (x : Int32) (ls : tm_Lo) (st : List Value) (h : tm_H) (K : Option Value → tm_H → Prop) : tm_A d 135 5 ls (.int x :: st) h K ↔ if x = 0 then tm_A d 135 25 ls st h K else tm_A d 135 8 ls st h K := tm_b o135_5 rfl rfl rfl rfl
theorem o135_8 : tm_op 135 8 = some (.aload_n 0, (0, 0, 0, 0)) := rfl
theorem r135_8 (d : Nat) (v : Nat) (l1 : Option Value) (st : List Value) (h : tm_H) (K : Option Value → tm_H → Prop) : tm_A d 135 8 [some (.ref v), l1] st h K ↔ tm_A d 135 9 [some (.ref v), l1] (.ref v :: st) h K := tm_s o135_8 rfl rfl rfl
theorem o135_9 : tm_op 135 9 = some (.getfield 156, (0, 10, 2, 0)) := rfl
theorem r135_9 (d : Nat) (a : Nat) (ls : tm_Lo) (st : List Value) (G : tm_G) (I : Nat → Nat → Int32) (J : Nat → Nat → Int64) (R : Nat → Nat → Option Nat) (K : Option Value → tm_H → Prop) : tm_A d 135 9 ls (.ref a :: st) (G, I, J, R) K ↔ G.2.2 a = (0, 10) ∧ tm_A d 135 12 ls (.int (I a 2) :: st) (G, I, J, R) K := tm_getI o135_9
theorem o135_12 : tm_op 135 12 = some (.bipush 60, (0, 0, 0, 0)) := rfl
theorem r135_12 (d : Nat) (ls : tm_Lo) (st : List Value) (h : tm_H) (K : Option Value → tm_H → Prop) : tm_A d 135 12 ls st h K ↔ tm_A d 135 14 ls (.int (60 : Int32) :: st) h K := tm_bp o135_12 (by decide)
theorem o135_14 : tm_op 135 14 = some (.if_icmp .eq 11, (0, 0, 0, 0)) := rfl
theorem r135_14 (d : Nat) (y x : Int32) (ls : tm_Lo) (st : List Value) (h : tm_H) (K : Option Value → tm_H → Prop) : tm_A d 135 14 ls (.int y :: .int x :: st) h K ↔ if x = y then tm_A d 135 25 ls st h K else tm_A d 135 17 ls st h K := tm_b o135_14 rfl rfl rfl rfl
theorem o135_17 : tm_op 135 17 = some (.aload_n 0, (0, 0, 0, 0)) := rfl
theorem r135_17 (d : Nat) (v : Nat) (l1 : Option Value) (st : List Value) (h : tm_H) (K : Option Value → tm_H → Prop) : tm_A d 135 17 [some (.ref v), l1] st h K ↔ tm_A d 135 18 [some (.ref v), l1] (.ref v :: st) h K := tm_s o135_17 rfl rfl rfl
theorem o135_18 : tm_op 135 18 = some (.invokevirtual 145, (2, 131, 1, 10)) := rfl
theorem r135_18 (d : Nat) (a : Nat) (ls : tm_Lo) (st : List Value) (h : tm_H) (K : Option Value → tm_H → Prop) : tm_A (d + 1) 135 18 ls (.ref a :: st) h K ↔ (h.1.2.2 a = (0, 10) ∧ tm_cs st) ∧ tm_R d 131 [.ref a] h (fun r h' => tm_A (d + 1) 135 21 ls (r.toList ++ st) h' K) := tm_callV (as := []) o135_18 rfl rfl rfl rfl
theorem o135_21 : tm_op 135 21 = some (.iconst (-1), (0, 0, 0, 0)) := rfl
theorem r135_21 (d : Nat) (ls : tm_Lo) (st : List Value) (h : tm_H) (K : Option Value → tm_H → Prop) : tm_A d 135 21 ls st h K ↔ tm_A d 135 22 ls (.int (-1 : Int32) :: st) h K := tm_ic o135_21 (by decide)
theorem o135_22 : tm_op 135 22 = some (.if_icmp .eq 5, (0, 0, 0, 0)) := rfl
theorem r135_22 (d : Nat) (y x : Int32) (ls : tm_Lo) (st : List Value) (h : tm_H) (K : Option Value → tm_H → Prop) : tm_A d 135 22 ls (.int y :: .int x :: st) h K ↔ if x = y then tm_A d 135 27 ls st h K else tm_A d 135 25 ls st h K := tm_b o135_22 rfl rfl rfl rfl
theorem o135_25 : tm_op 135 25 = some (.iconst 0, (0, 0, 0, 0)) := rfl
theorem r135_25 (d : Nat) (ls : tm_Lo) (st : List Value) (h : tm_H) (K : Option Value → tm_H → Prop) : tm_A d 135 25 ls st h K ↔ tm_A d 135 26 ls (.int (0 : Int32) :: st) h K := tm_ic o135_25 (by decide)
theorem o135_26 : tm_op 135 26 = some (.ireturn, (0, 0, 0, 0)) := rfl
theorem r135_26 (d : Nat) (v : Int32) (ls : tm_Lo) (h : tm_H) (K : Option Value → tm_H → Prop) : tm_A d 135 26 ls [.int v] h K ↔ (v = 0 ∨ v = 1) ∧ K (some (.int v)) h := tm_retz o135_26 rfl
theorem o135_27 : tm_op 135 27 = some (.aload_n 0, (0, 0, 0, 0)) := rfl
theorem r135_27 (d : Nat) (v : Nat) (l1 : Option Value) (st : List Value) (h : tm_H) (K : Option Value → tm_H → Prop) : tm_A d 135 27 [some (.ref v), l1] st h K ↔ tm_A d 135 28 [some (.ref v), l1] (.ref v :: st) h K := tm_s o135_27 rfl rfl rfl
theorem o135_28 : tm_op 135 28 = some (.dup, (0, 0, 0, 0)) := rfl
theorem r135_28 (d : Nat) (v : Nat) (ls : tm_Lo) (st : List Value) (h : tm_H) (K : Option Value → tm_H → Prop) : tm_A d 135 28 ls (.ref v :: st) h K ↔ tm_A d 135 29 ls (.ref v :: .ref v :: st) h K := tm_s o135_28 rfl rfl rfl
theorem r135_28i (d : Nat) (v : Int32) (ls : tm_Lo) (st : List Value) (h : tm_H) (K : Option Value → tm_H → Prop) : tm_A d 135 28 ls (.int v :: st) h K ↔ tm_A d 135 29 ls (.int v :: .int v :: st) h K := tm_s o135_28 rfl rfl rfl
theorem o135_29 : tm_op 135 29 = some (.getfield 156, (0, 10, 2, 0)) := rfl
theorem r135_29 (d : Nat) (a : Nat) (ls : tm_Lo) (st : List Value) (G : tm_G) (I : Nat → Nat → Int32) (J : Nat → Nat → Int64) (R : Nat → Nat → Option Nat) (K : Option Value → tm_H → Prop) : tm_A d 135 29 ls (.ref a :: st) (G, I, J, R) K ↔ G.2.2 a = (0, 10) ∧ tm_A d 135 32 ls (.int (I a 2) :: st) (G, I, J, R) K := tm_getI o135_29
theorem o135_32 : tm_op 135 32 = some (.iconst 1, (0, 0, 0, 0)) := rfl
theorem r135_32 (d : Nat) (ls : tm_Lo) (st : List Value) (h : tm_H) (K : Option Value → tm_H → Prop) : tm_A d 135 32 ls st h K ↔ tm_A d 135 33 ls (.int (1 : Int32) :: st) h K := tm_ic o135_32 (by decide)
theorem o135_33 : tm_op 135 33 = some (.iadd, (0, 0, 0, 0)) := rfl
theorem r135_33 (d : Nat) (u v : Int32) (ls : tm_Lo) (st : List Value) (h : tm_H) (K : Option Value → tm_H → Prop) : tm_A d 135 33 ls (.int u :: .int v :: st) h K ↔ tm_A d 135 34 ls (.int (v + u) :: st) h K := tm_s o135_33 rfl rfl rfl
theorem o135_34 : tm_op 135 34 = some (.putfield 156, (0, 10, 2, 0)) := rfl
theorem r135_34 (d : Nat) (v : Int32) (a : Nat) (ls : tm_Lo) (st : List Value) (G : tm_G) (I : Nat → Nat → Int32) (J : Nat → Nat → Int64) (R : Nat → Nat → Option Nat) (K : Option Value → tm_H → Prop) : tm_A d 135 34 ls (.int v :: .ref a :: st) (G, I, J, R) K ↔ G.2.2 a = (0, 10) ∧ tm_A d 135 37 ls st (G, up2 I a 2 v, J, R) K := tm_putI o135_34
theorem o135_37 : tm_op 135 37 = some (.aload_n 0, (0, 0, 0, 0)) := rfl
theorem r135_37 (d : Nat) (v : Nat) (l1 : Option Value) (st : List Value) (h : tm_H) (K : Option Value → tm_H → Prop) : tm_A d 135 37 [some (.ref v), l1] st h K ↔ tm_A d 135 38 [some (.ref v), l1] (.ref v :: st) h K := tm_s o135_37 rfl rfl rfl
theorem o135_38 : tm_op 135 38 = some (.iload_n 1, (0, 0, 0, 0)) := rfl
theorem r135_38 (d : Nat) (v : Int32) (l0 : Option Value) (st : List Value) (h : tm_H) (K : Option Value → tm_H → Prop) : tm_A d 135 38 [l0, some (.int v)] st h K ↔ tm_A d 135 39 [l0, some (.int v)] (.int v :: st) h K := tm_s o135_38 rfl rfl rfl
theorem o135_39 : tm_op 135 39 = some (.invokevirtual 149, (2, 132, 2, 10)) := rfl
theorem r135_39 (d : Nat) (v1 : Int32) (a : Nat) (ls : tm_Lo) (st : List Value) (h : tm_H) (K : Option Value → tm_H → Prop) : tm_A (d + 1) 135 39 ls (.int v1 :: .ref a :: st) h K ↔ (h.1.2.2 a = (0, 10) ∧ tm_cs st) ∧ tm_R d 132 [.ref a, .int v1] h (fun r h' => tm_A (d + 1) 135 42 ls (r.toList ++ st) h' K) := tm_callV (as := [.int v1]) o135_39 rfl rfl rfl rfl
theorem o135_42 : tm_op 135 42 = some (.iconst 1, (0, 0, 0, 0)) := rfl
theorem r135_42 (d : Nat) (ls : tm_Lo) (st : List Value) (h : tm_H) (K : Option Value → tm_H → Prop) : tm_A d 135 42 ls st h K ↔ tm_A d 135 43 ls (.int (1 : Int32) :: st) h K := tm_ic o135_42 (by decide)
theorem o135_43 : tm_op 135 43 = some (.ireturn, (0, 0, 0, 0)) := rfl
theorem r135_43 (d : Nat) (v : Int32) (ls : tm_Lo) (h : tm_H) (K : Option Value → tm_H → Prop) : tm_A d 135 43 ls [.int v] h K ↔ (v = 0 ∨ v = 1) ∧ K (some (.int v)) h := tm_retz o135_43 rfl
theorem o136_0 : tm_op 136 0 = some (.aload_n 0, (0, 0, 0, 0)) := rfl
theorem r136_0 (d : Nat) (v : Nat) (l1 l2 l3 : Option Value) (st : List Value) (h : tm_H) (K : Option Value → tm_H → Prop) : tm_A d 136 0 [some (.ref v), l1, l2, l3] st h K ↔ tm_A d 136 1 [some (.ref v), l1, l2, l3] (.ref v :: st) h K := tm_s o136_0 rfl rfl rfl
theorem o136_1 : tm_op 136 1 = some (.iload_n 1, (0, 0, 0, 0)) := rfl
theorem r136_1 (d : Nat) (v : Int32) (l0 l2 l3 : Option Value) (st : List Value) (h : tm_H) (K : Option Value → tm_H → Prop) : tm_A d 136 1 [l0, some (.int v), l2, l3] st h K ↔ tm_A d 136 2 [l0, some (.int v), l2, l3] (.int v :: st) h K := tm_s o136_1 rfl rfl rfl
theorem o136_2 : tm_op 136 2 = some (.invokevirtual 153, (2, 134, 2, 10)) := rfl
theorem r136_2 (d : Nat) (v1 : Int32) (a : Nat) (ls : tm_Lo) (st : List Value) (h : tm_H) (K : Option Value → tm_H → Prop) : tm_A (d + 1) 136 2 ls (.int v1 :: .ref a :: st) h K ↔ (h.1.2.2 a = (0, 10) ∧ tm_cs st) ∧ tm_R d 134 [.ref a, .int v1] h (fun r h' => tm_A (d + 1) 136 5 ls (r.toList ++ st) h' K) := tm_callV (as := [.int v1]) o136_2 rfl rfl rfl rfl
theorem o136_5 : tm_op 136 5 = some (.ifCond .eq 21, (0, 0, 0, 0)) := rfl
theorem r136_5 (d : Nat) (x : Int32) (ls : tm_Lo) (st : List Value) (h : tm_H) (K : Option Value → tm_H → Prop) : tm_A d 136 5 ls (.int x :: st) h K ↔ if x = 0 then tm_A d 136 26 ls st h K else tm_A d 136 8 ls st h K := tm_b o136_5 rfl rfl rfl rfl
theorem o136_8 : tm_op 136 8 = some (.iload_n 2, (0, 0, 0, 0)) := rfl
theorem r136_8 (d : Nat) (v : Int32) (l0 l1 l3 : Option Value) (st : List Value) (h : tm_H) (K : Option Value → tm_H → Prop) : tm_A d 136 8 [l0, l1, some (.int v), l3] st h K ↔ tm_A d 136 9 [l0, l1, some (.int v), l3] (.int v :: st) h K := tm_s o136_8 rfl rfl rfl
theorem o136_9 : tm_op 136 9 = some (.iconst 0, (0, 0, 0, 0)) := rfl
theorem r136_9 (d : Nat) (ls : tm_Lo) (st : List Value) (h : tm_H) (K : Option Value → tm_H → Prop) : tm_A d 136 9 ls st h K ↔ tm_A d 136 10 ls (.int (0 : Int32) :: st) h K := tm_ic o136_9 (by decide)
theorem o136_10 : tm_op 136 10 = some (.iconst 4, (0, 0, 0, 0)) := rfl
theorem r136_10 (d : Nat) (ls : tm_Lo) (st : List Value) (h : tm_H) (K : Option Value → tm_H → Prop) : tm_A d 136 10 ls st h K ↔ tm_A d 136 11 ls (.int (4 : Int32) :: st) h K := tm_ic o136_10 (by decide)
theorem o136_11 : tm_op 136 11 = some (.invokestatic 83, (1, 117, 3, 0)) := rfl
theorem r136_11 (d : Nat) (v0 : Int32) (v1 : Int32) (v2 : Int32) (ls : tm_Lo) (st : List Value) (h : tm_H) (K : Option Value → tm_H → Prop) : tm_A (d + 1) 136 11 ls (.int v2 :: .int v1 :: .int v0 :: st) h K ↔ tm_cs st ∧ tm_R d 117 [.int v0, .int v1, .int v2] h (fun r h' => tm_A (d + 1) 136 14 ls (r.toList ++ st) h' K) := tm_callS (as := [.int v0, .int v1, .int v2]) o136_11 rfl rfl rfl rfl
theorem o136_14 : tm_op 136 14 = some (.ifCond .eq 12, (0, 0, 0, 0)) := rfl
theorem r136_14 (d : Nat) (x : Int32) (ls : tm_Lo) (st : List Value) (h : tm_H) (K : Option Value → tm_H → Prop) : tm_A d 136 14 ls (.int x :: st) h K ↔ if x = 0 then tm_A d 136 26 ls st h K else tm_A d 136 17 ls st h K := tm_b o136_14 rfl rfl rfl rfl
theorem o136_17 : tm_op 136 17 = some (.aload_n 0, (0, 0, 0, 0)) := rfl
theorem r136_17 (d : Nat) (v : Nat) (l1 l2 l3 : Option Value) (st : List Value) (h : tm_H) (K : Option Value → tm_H → Prop) : tm_A d 136 17 [some (.ref v), l1, l2, l3] st h K ↔ tm_A d 136 18 [some (.ref v), l1, l2, l3] (.ref v :: st) h K := tm_s o136_17 rfl rfl rfl
theorem o136_18 : tm_op 136 18 = some (.getfield 156, (0, 10, 2, 0)) := rfl
theorem r136_18 (d : Nat) (a : Nat) (ls : tm_Lo) (st : List Value) (G : tm_G) (I : Nat → Nat → Int32) (J : Nat → Nat → Int64) (R : Nat → Nat → Option Nat) (K : Option Value → tm_H → Prop) : tm_A d 136 18 ls (.ref a :: st) (G, I, J, R) K ↔ G.2.2 a = (0, 10) ∧ tm_A d 136 21 ls (.int (I a 2) :: st) (G, I, J, R) K := tm_getI o136_18
theorem o136_21 : tm_op 136 21 = some (.bipush 60, (0, 0, 0, 0)) := rfl
theorem r136_21 (d : Nat) (ls : tm_Lo) (st : List Value) (h : tm_H) (K : Option Value → tm_H → Prop) : tm_A d 136 21 ls st h K ↔ tm_A d 136 23 ls (.int (60 : Int32) :: st) h K := tm_bp o136_21 (by decide)
theorem o136_23 : tm_op 136 23 = some (.if_icmp .ne 5, (0, 0, 0, 0)) := rfl
theorem r136_23 (d : Nat) (y x : Int32) (ls : tm_Lo) (st : List Value) (h : tm_H) (K : Option Value → tm_H → Prop) : tm_A d 136 23 ls (.int y :: .int x :: st) h K ↔ if ¬ x = y then tm_A d 136 28 ls st h K else tm_A d 136 26 ls st h K := tm_b o136_23 rfl rfl rfl rfl
theorem o136_26 : tm_op 136 26 = some (.iconst 0, (0, 0, 0, 0)) := rfl
theorem r136_26 (d : Nat) (ls : tm_Lo) (st : List Value) (h : tm_H) (K : Option Value → tm_H → Prop) : tm_A d 136 26 ls st h K ↔ tm_A d 136 27 ls (.int (0 : Int32) :: st) h K := tm_ic o136_26 (by decide)
theorem o136_27 : tm_op 136 27 = some (.ireturn, (0, 0, 0, 0)) := rfl
theorem r136_27 (d : Nat) (v : Int32) (ls : tm_Lo) (h : tm_H) (K : Option Value → tm_H → Prop) : tm_A d 136 27 ls [.int v] h K ↔ (v = 0 ∨ v = 1) ∧ K (some (.int v)) h := tm_retz o136_27 rfl
theorem o136_28 : tm_op 136 28 = some (.aload_n 0, (0, 0, 0, 0)) := rfl
theorem r136_28 (d : Nat) (v : Nat) (l1 l2 l3 : Option Value) (st : List Value) (h : tm_H) (K : Option Value → tm_H → Prop) : tm_A d 136 28 [some (.ref v), l1, l2, l3] st h K ↔ tm_A d 136 29 [some (.ref v), l1, l2, l3] (.ref v :: st) h K := tm_s o136_28 rfl rfl rfl
theorem o136_29 : tm_op 136 29 = some (.dup, (0, 0, 0, 0)) := rfl
theorem r136_29 (d : Nat) (v : Nat) (ls : tm_Lo) (st : List Value) (h : tm_H) (K : Option Value → tm_H → Prop) : tm_A d 136 29 ls (.ref v :: st) h K ↔ tm_A d 136 30 ls (.ref v :: .ref v :: st) h K := tm_s o136_29 rfl rfl rfl
theorem r136_29i (d : Nat) (v : Int32) (ls : tm_Lo) (st : List Value) (h : tm_H) (K : Option Value → tm_H → Prop) : tm_A d 136 29 ls (.int v :: st) h K ↔ tm_A d 136 30 ls (.int v :: .int v :: st) h K := tm_s o136_29 rfl rfl rfl
theorem o136_30 : tm_op 136 30 = some (.getfield 156, (0, 10, 2, 0)) := rfl
theorem r136_30 (d : Nat) (a : Nat) (ls : tm_Lo) (st : List Value) (G : tm_G) (I : Nat → Nat → Int32) (J : Nat → Nat → Int64) (R : Nat → Nat → Option Nat) (K : Option Value → tm_H → Prop) : tm_A d 136 30 ls (.ref a :: st) (G, I, J, R) K ↔ G.2.2 a = (0, 10) ∧ tm_A d 136 33 ls (.int (I a 2) :: st) (G, I, J, R) K := tm_getI o136_30
theorem o136_33 : tm_op 136 33 = some (.iconst 1, (0, 0, 0, 0)) := rfl
theorem r136_33 (d : Nat) (ls : tm_Lo) (st : List Value) (h : tm_H) (K : Option Value → tm_H → Prop) : tm_A d 136 33 ls st h K ↔ tm_A d 136 34 ls (.int (1 : Int32) :: st) h K := tm_ic o136_33 (by decide)
theorem o136_34 : tm_op 136 34 = some (.iadd, (0, 0, 0, 0)) := rfl
theorem r136_34 (d : Nat) (u v : Int32) (ls : tm_Lo) (st : List Value) (h : tm_H) (K : Option Value → tm_H → Prop) : tm_A d 136 34 ls (.int u :: .int v :: st) h K ↔ tm_A d 136 35 ls (.int (v + u) :: st) h K := tm_s o136_34 rfl rfl rfl
theorem o136_35 : tm_op 136 35 = some (.putfield 156, (0, 10, 2, 0)) := rfl
theorem r136_35 (d : Nat) (v : Int32) (a : Nat) (ls : tm_Lo) (st : List Value) (G : tm_G) (I : Nat → Nat → Int32) (J : Nat → Nat → Int64) (R : Nat → Nat → Option Nat) (K : Option Value → tm_H → Prop) : tm_A d 136 35 ls (.int v :: .ref a :: st) (G, I, J, R) K ↔ G.2.2 a = (0, 10) ∧ tm_A d 136 38 ls st (G, up2 I a 2 v, J, R) K := tm_putI o136_35
theorem o136_38 : tm_op 136 38 = some (.aload_n 0, (0, 0, 0, 0)) := rfl
theorem r136_38 (d : Nat) (v : Nat) (l1 l2 l3 : Option Value) (st : List Value) (h : tm_H) (K : Option Value → tm_H → Prop) : tm_A d 136 38 [some (.ref v), l1, l2, l3] st h K ↔ tm_A d 136 39 [some (.ref v), l1, l2, l3] (.ref v :: st) h K := tm_s o136_38 rfl rfl rfl
theorem o136_39 : tm_op 136 39 = some (.getfield 139, (0, 10, 14, 0)) := rfl
theorem r136_39 (d : Nat) (a : Nat) (ls : tm_Lo) (st : List Value) (G : tm_G) (I : Nat → Nat → Int32) (J : Nat → Nat → Int64) (R : Nat → Nat → Option Nat) (K : Option Value → tm_H → Prop) : tm_A d 136 39 ls (.ref a :: st) (G, I, J, R) K ↔ G.2.2 a = (0, 10) ∧ tm_A d 136 42 ls (.int (I a 14) :: st) (G, I, J, R) K := tm_getI o136_39
theorem o136_42 : tm_op 136 42 = some (.istore_n 3, (0, 0, 0, 0)) := rfl
theorem r136_42 (d : Nat) (v : Int32) (l0 l1 l2 l3 : Option Value) (st : List Value) (h : tm_H) (K : Option Value → tm_H → Prop) : tm_A d 136 42 [l0, l1, l2, l3] (.int v :: st) h K ↔ tm_A d 136 43 [l0, l1, l2, some (.int v)] st h K := tm_s o136_42 rfl rfl rfl
theorem o136_43 : tm_op 136 43 = some (.aload_n 0, (0, 0, 0, 0)) := rfl
theorem r136_43 (d : Nat) (v : Nat) (l1 l2 l3 : Option Value) (st : List Value) (h : tm_H) (K : Option Value → tm_H → Prop) : tm_A d 136 43 [some (.ref v), l1, l2, l3] st h K ↔ tm_A d 136 44 [some (.ref v), l1, l2, l3] (.ref v :: st) h K := tm_s o136_43 rfl rfl rfl
theorem o136_44 : tm_op 136 44 = some (.dup, (0, 0, 0, 0)) := rfl
theorem r136_44 (d : Nat) (v : Nat) (ls : tm_Lo) (st : List Value) (h : tm_H) (K : Option Value → tm_H → Prop) : tm_A d 136 44 ls (.ref v :: st) h K ↔ tm_A d 136 45 ls (.ref v :: .ref v :: st) h K := tm_s o136_44 rfl rfl rfl
theorem r136_44i (d : Nat) (v : Int32) (ls : tm_Lo) (st : List Value) (h : tm_H) (K : Option Value → tm_H → Prop) : tm_A d 136 44 ls (.int v :: st) h K ↔ tm_A d 136 45 ls (.int v :: .int v :: st) h K := tm_s o136_44 rfl rfl rfl
theorem o136_45 : tm_op 136 45 = some (.getfield 139, (0, 10, 14, 0)) := rfl
theorem r136_45 (d : Nat) (a : Nat) (ls : tm_Lo) (st : List Value) (G : tm_G) (I : Nat → Nat → Int32) (J : Nat → Nat → Int64) (R : Nat → Nat → Option Nat) (K : Option Value → tm_H → Prop) : tm_A d 136 45 ls (.ref a :: st) (G, I, J, R) K ↔ G.2.2 a = (0, 10) ∧ tm_A d 136 48 ls (.int (I a 14) :: st) (G, I, J, R) K := tm_getI o136_45
theorem o136_48 : tm_op 136 48 = some (.iconst 1, (0, 0, 0, 0)) := rfl
theorem r136_48 (d : Nat) (ls : tm_Lo) (st : List Value) (h : tm_H) (K : Option Value → tm_H → Prop) : tm_A d 136 48 ls st h K ↔ tm_A d 136 49 ls (.int (1 : Int32) :: st) h K := tm_ic o136_48 (by decide)
theorem o136_49 : tm_op 136 49 = some (.iadd, (0, 0, 0, 0)) := rfl
theorem r136_49 (d : Nat) (u v : Int32) (ls : tm_Lo) (st : List Value) (h : tm_H) (K : Option Value → tm_H → Prop) : tm_A d 136 49 ls (.int u :: .int v :: st) h K ↔ tm_A d 136 50 ls (.int (v + u) :: st) h K := tm_s o136_49 rfl rfl rfl
theorem o136_50 : tm_op 136 50 = some (.putfield 139, (0, 10, 14, 0)) := rfl
theorem r136_50 (d : Nat) (v : Int32) (a : Nat) (ls : tm_Lo) (st : List Value) (G : tm_G) (I : Nat → Nat → Int32) (J : Nat → Nat → Int64) (R : Nat → Nat → Option Nat) (K : Option Value → tm_H → Prop) : tm_A d 136 50 ls (.int v :: .ref a :: st) (G, I, J, R) K ↔ G.2.2 a = (0, 10) ∧ tm_A d 136 53 ls st (G, up2 I a 14 v, J, R) K := tm_putI o136_50
theorem o136_53 : tm_op 136 53 = some (.aload_n 0, (0, 0, 0, 0)) := rfl
theorem r136_53 (d : Nat) (v : Nat) (l1 l2 l3 : Option Value) (st : List Value) (h : tm_H) (K : Option Value → tm_H → Prop) : tm_A d 136 53 [some (.ref v), l1, l2, l3] st h K ↔ tm_A d 136 54 [some (.ref v), l1, l2, l3] (.ref v :: st) h K := tm_s o136_53 rfl rfl rfl
theorem o136_54 : tm_op 136 54 = some (.getfield 29, (2, 10, 15, 0)) := rfl
theorem r136_54 (d : Nat) (a : Nat) (ls : tm_Lo) (st : List Value) (G : tm_G) (I : Nat → Nat → Int32) (J : Nat → Nat → Int64) (R : Nat → Nat → Option Nat) (K : Option Value → tm_H → Prop) : tm_A d 136 54 ls (.ref a :: st) (G, I, J, R) K ↔ G.2.2 a = (0, 10) ∧ tm_A d 136 57 ls (tm_rf (R a 15) :: st) (G, I, J, R) K := tm_getR o136_54
theorem o136_57 : tm_op 136 57 = some (.iload_n 3, (0, 0, 0, 0)) := rfl
theorem r136_57 (d : Nat) (v : Int32) (l0 l1 l2 : Option Value) (st : List Value) (h : tm_H) (K : Option Value → tm_H → Prop) : tm_A d 136 57 [l0, l1, l2, some (.int v)] st h K ↔ tm_A d 136 58 [l0, l1, l2, some (.int v)] (.int v :: st) h K := tm_s o136_57 rfl rfl rfl
theorem o136_58 : tm_op 136 58 = some (.iload_n 1, (0, 0, 0, 0)) := rfl
theorem r136_58 (d : Nat) (v : Int32) (l0 l2 l3 : Option Value) (st : List Value) (h : tm_H) (K : Option Value → tm_H → Prop) : tm_A d 136 58 [l0, some (.int v), l2, l3] st h K ↔ tm_A d 136 59 [l0, some (.int v), l2, l3] (.int v :: st) h K := tm_s o136_58 rfl rfl rfl
theorem o136_59 : tm_op 136 59 = some (.iastore, (0, 0, 0, 0)) := rfl
theorem r136_59 (d : Nat) (u v : Int32) (a : Nat) (ls : tm_Lo) (st : List Value) (G : tm_G) (I : Nat → Nat → Int32) (J : Nat → Nat → Int64) (R : Nat → Nat → Option Nat) (K : Option Value → tm_H → Prop) : tm_A d 136 59 ls (.int u :: .int v :: .ref a :: st) (G, I, J, R) K ↔ (3 ≤ a ∧ (G.2.2 a).1 = 1 ∧ tm_in v (G.2.2 a).2) ∧ tm_A d 136 60 ls st (G, up2 I a (tm_ix v) u, J, R) K := tm_iast o136_59
theorem o136_60 : tm_op 136 60 = some (.aload_n 0, (0, 0, 0, 0)) := rfl
theorem r136_60 (d : Nat) (v : Nat) (l1 l2 l3 : Option Value) (st : List Value) (h : tm_H) (K : Option Value → tm_H → Prop) : tm_A d 136 60 [some (.ref v), l1, l2, l3] st h K ↔ tm_A d 136 61 [some (.ref v), l1, l2, l3] (.ref v :: st) h K := tm_s o136_60 rfl rfl rfl
theorem o136_61 : tm_op 136 61 = some (.getfield 32, (2, 10, 16, 0)) := rfl
theorem r136_61 (d : Nat) (a : Nat) (ls : tm_Lo) (st : List Value) (G : tm_G) (I : Nat → Nat → Int32) (J : Nat → Nat → Int64) (R : Nat → Nat → Option Nat) (K : Option Value → tm_H → Prop) : tm_A d 136 61 ls (.ref a :: st) (G, I, J, R) K ↔ G.2.2 a = (0, 10) ∧ tm_A d 136 64 ls (tm_rf (R a 16) :: st) (G, I, J, R) K := tm_getR o136_61
theorem o136_64 : tm_op 136 64 = some (.iload_n 3, (0, 0, 0, 0)) := rfl
theorem r136_64 (d : Nat) (v : Int32) (l0 l1 l2 : Option Value) (st : List Value) (h : tm_H) (K : Option Value → tm_H → Prop) : tm_A d 136 64 [l0, l1, l2, some (.int v)] st h K ↔ tm_A d 136 65 [l0, l1, l2, some (.int v)] (.int v :: st) h K := tm_s o136_64 rfl rfl rfl
theorem o136_65 : tm_op 136 65 = some (.aload_n 0, (0, 0, 0, 0)) := rfl
theorem r136_65 (d : Nat) (v : Nat) (l1 l2 l3 : Option Value) (st : List Value) (h : tm_H) (K : Option Value → tm_H → Prop) : tm_A d 136 65 [some (.ref v), l1, l2, l3] st h K ↔ tm_A d 136 66 [some (.ref v), l1, l2, l3] (.ref v :: st) h K := tm_s o136_65 rfl rfl rfl
theorem o136_66 : tm_op 136 66 = some (.getfield 87, (0, 10, 0, 0)) := rfl
theorem r136_66 (d : Nat) (a : Nat) (ls : tm_Lo) (st : List Value) (G : tm_G) (I : Nat → Nat → Int32) (J : Nat → Nat → Int64) (R : Nat → Nat → Option Nat) (K : Option Value → tm_H → Prop) : tm_A d 136 66 ls (.ref a :: st) (G, I, J, R) K ↔ G.2.2 a = (0, 10) ∧ tm_A d 136 69 ls (.int (I a 0) :: st) (G, I, J, R) K := tm_getI o136_66
theorem o136_69 : tm_op 136 69 = some (.iastore, (0, 0, 0, 0)) := rfl
theorem r136_69 (d : Nat) (u v : Int32) (a : Nat) (ls : tm_Lo) (st : List Value) (G : tm_G) (I : Nat → Nat → Int32) (J : Nat → Nat → Int64) (R : Nat → Nat → Option Nat) (K : Option Value → tm_H → Prop) : tm_A d 136 69 ls (.int u :: .int v :: .ref a :: st) (G, I, J, R) K ↔ (3 ≤ a ∧ (G.2.2 a).1 = 1 ∧ tm_in v (G.2.2 a).2) ∧ tm_A d 136 70 ls st (G, up2 I a (tm_ix v) u, J, R) K := tm_iast o136_69
theorem o136_70 : tm_op 136 70 = some (.aload_n 0, (0, 0, 0, 0)) := rfl
theorem r136_70 (d : Nat) (v : Nat) (l1 l2 l3 : Option Value) (st : List Value) (h : tm_H) (K : Option Value → tm_H → Prop) : tm_A d 136 70 [some (.ref v), l1, l2, l3] st h K ↔ tm_A d 136 71 [some (.ref v), l1, l2, l3] (.ref v :: st) h K := tm_s o136_70 rfl rfl rfl
theorem o136_71 : tm_op 136 71 = some (.getfield 35, (2, 10, 17, 0)) := rfl
theorem r136_71 (d : Nat) (a : Nat) (ls : tm_Lo) (st : List Value) (G : tm_G) (I : Nat → Nat → Int32) (J : Nat → Nat → Int64) (R : Nat → Nat → Option Nat) (K : Option Value → tm_H → Prop) : tm_A d 136 71 ls (.ref a :: st) (G, I, J, R) K ↔ G.2.2 a = (0, 10) ∧ tm_A d 136 74 ls (tm_rf (R a 17) :: st) (G, I, J, R) K := tm_getR o136_71
theorem o136_74 : tm_op 136 74 = some (.iload_n 3, (0, 0, 0, 0)) := rfl
theorem r136_74 (d : Nat) (v : Int32) (l0 l1 l2 : Option Value) (st : List Value) (h : tm_H) (K : Option Value → tm_H → Prop) : tm_A d 136 74 [l0, l1, l2, some (.int v)] st h K ↔ tm_A d 136 75 [l0, l1, l2, some (.int v)] (.int v :: st) h K := tm_s o136_74 rfl rfl rfl
theorem o136_75 : tm_op 136 75 = some (.iconst 0, (0, 0, 0, 0)) := rfl
theorem r136_75 (d : Nat) (ls : tm_Lo) (st : List Value) (h : tm_H) (K : Option Value → tm_H → Prop) : tm_A d 136 75 ls st h K ↔ tm_A d 136 76 ls (.int (0 : Int32) :: st) h K := tm_ic o136_75 (by decide)
theorem o136_76 : tm_op 136 76 = some (.iastore, (0, 0, 0, 0)) := rfl
theorem r136_76 (d : Nat) (u v : Int32) (a : Nat) (ls : tm_Lo) (st : List Value) (G : tm_G) (I : Nat → Nat → Int32) (J : Nat → Nat → Int64) (R : Nat → Nat → Option Nat) (K : Option Value → tm_H → Prop) : tm_A d 136 76 ls (.int u :: .int v :: .ref a :: st) (G, I, J, R) K ↔ (3 ≤ a ∧ (G.2.2 a).1 = 1 ∧ tm_in v (G.2.2 a).2) ∧ tm_A d 136 77 ls st (G, up2 I a (tm_ix v) u, J, R) K := tm_iast o136_76
theorem o136_77 : tm_op 136 77 = some (.aload_n 0, (0, 0, 0, 0)) := rfl
theorem r136_77 (d : Nat) (v : Nat) (l1 l2 l3 : Option Value) (st : List Value) (h : tm_H) (K : Option Value → tm_H → Prop) : tm_A d 136 77 [some (.ref v), l1, l2, l3] st h K ↔ tm_A d 136 78 [some (.ref v), l1, l2, l3] (.ref v :: st) h K := tm_s o136_77 rfl rfl rfl
theorem o136_78 : tm_op 136 78 = some (.getfield 38, (2, 10, 18, 0)) := rfl
theorem r136_78 (d : Nat) (a : Nat) (ls : tm_Lo) (st : List Value) (G : tm_G) (I : Nat → Nat → Int32) (J : Nat → Nat → Int64) (R : Nat → Nat → Option Nat) (K : Option Value → tm_H → Prop) : tm_A d 136 78 ls (.ref a :: st) (G, I, J, R) K ↔ G.2.2 a = (0, 10) ∧ tm_A d 136 81 ls (tm_rf (R a 18) :: st) (G, I, J, R) K := tm_getR o136_78
theorem o136_81 : tm_op 136 81 = some (.iload_n 3, (0, 0, 0, 0)) := rfl
theorem r136_81 (d : Nat) (v : Int32) (l0 l1 l2 : Option Value) (st : List Value) (h : tm_H) (K : Option Value → tm_H → Prop) : tm_A d 136 81 [l0, l1, l2, some (.int v)] st h K ↔ tm_A d 136 82 [l0, l1, l2, some (.int v)] (.int v :: st) h K := tm_s o136_81 rfl rfl rfl
theorem o136_82 : tm_op 136 82 = some (.iload_n 2, (0, 0, 0, 0)) := rfl
theorem r136_82 (d : Nat) (v : Int32) (l0 l1 l3 : Option Value) (st : List Value) (h : tm_H) (K : Option Value → tm_H → Prop) : tm_A d 136 82 [l0, l1, some (.int v), l3] st h K ↔ tm_A d 136 83 [l0, l1, some (.int v), l3] (.int v :: st) h K := tm_s o136_82 rfl rfl rfl
theorem o136_83 : tm_op 136 83 = some (.iastore, (0, 0, 0, 0)) := rfl
theorem r136_83 (d : Nat) (u v : Int32) (a : Nat) (ls : tm_Lo) (st : List Value) (G : tm_G) (I : Nat → Nat → Int32) (J : Nat → Nat → Int64) (R : Nat → Nat → Option Nat) (K : Option Value → tm_H → Prop) : tm_A d 136 83 ls (.int u :: .int v :: .ref a :: st) (G, I, J, R) K ↔ (3 ≤ a ∧ (G.2.2 a).1 = 1 ∧ tm_in v (G.2.2 a).2) ∧ tm_A d 136 84 ls st (G, up2 I a (tm_ix v) u, J, R) K := tm_iast o136_83
theorem o136_84 : tm_op 136 84 = some (.iconst 1, (0, 0, 0, 0)) := rfl
theorem r136_84 (d : Nat) (ls : tm_Lo) (st : List Value) (h : tm_H) (K : Option Value → tm_H → Prop) : tm_A d 136 84 ls st h K ↔ tm_A d 136 85 ls (.int (1 : Int32) :: st) h K := tm_ic o136_84 (by decide)
theorem o136_85 : tm_op 136 85 = some (.ireturn, (0, 0, 0, 0)) := rfl
theorem r136_85 (d : Nat) (v : Int32) (ls : tm_Lo) (h : tm_H) (K : Option Value → tm_H → Prop) : tm_A d 136 85 ls [.int v] h K ↔ (v = 0 ∨ v = 1) ∧ K (some (.int v)) h := tm_retz o136_85 rfl
theorem o137_0 : tm_op 137 0 = some (.iconst (-1), (0, 0, 0, 0)) := rfl
theorem r137_0 (d : Nat) (ls : tm_Lo) (st : List Value) (h : tm_H) (K : Option Value → tm_H → Prop) : tm_A d 137 0 ls st h K ↔ tm_A d 137 1 ls (.int (-1 : Int32) :: st) h K := tm_ic o137_0 (by decide)
theorem o137_1 : tm_op 137 1 = some (.istore 4, (0, 0, 0, 0)) := rfl
theorem r137_1 (d : Nat) (v : Int32) (l0 l1 l2 l3 l4 l5 : Option Value) (st : List Value) (h : tm_H) (K : Option Value → tm_H → Prop) : tm_A d 137 1 [l0, l1, l2, l3, l4, l5] (.int v :: st) h K ↔ tm_A d 137 3 [l0, l1, l2, l3, some (.int v), l5] st h K := tm_s o137_1 rfl rfl rfl
theorem o137_3 : tm_op 137 3 = some (.iconst 0, (0, 0, 0, 0)) := rfl
theorem r137_3 (d : Nat) (ls : tm_Lo) (st : List Value) (h : tm_H) (K : Option Value → tm_H → Prop) : tm_A d 137 3 ls st h K ↔ tm_A d 137 4 ls (.int (0 : Int32) :: st) h K := tm_ic o137_3 (by decide)
theorem o137_4 : tm_op 137 4 = some (.istore 5, (0, 0, 0, 0)) := rfl
theorem r137_4 (d : Nat) (v : Int32) (l0 l1 l2 l3 l4 l5 : Option Value) (st : List Value) (h : tm_H) (K : Option Value → tm_H → Prop) : tm_A d 137 4 [l0, l1, l2, l3, l4, l5] (.int v :: st) h K ↔ tm_A d 137 6 [l0, l1, l2, l3, l4, some (.int v)] st h K := tm_s o137_4 rfl rfl rfl
theorem o137_6 : tm_op 137 6 = some (.iload 5, (0, 0, 0, 0)) := rfl
theorem r137_6 (d : Nat) (v : Int32) (l0 l1 l2 l3 l4 : Option Value) (st : List Value) (h : tm_H) (K : Option Value → tm_H → Prop) : tm_A d 137 6 [l0, l1, l2, l3, l4, some (.int v)] st h K ↔ tm_A d 137 8 [l0, l1, l2, l3, l4, some (.int v)] (.int v :: st) h K := tm_s o137_6 rfl rfl rfl
theorem o137_8 : tm_op 137 8 = some (.aload_n 0, (0, 0, 0, 0)) := rfl
theorem r137_8 (d : Nat) (v : Nat) (l1 l2 l3 l4 l5 : Option Value) (st : List Value) (h : tm_H) (K : Option Value → tm_H → Prop) : tm_A d 137 8 [some (.ref v), l1, l2, l3, l4, l5] st h K ↔ tm_A d 137 9 [some (.ref v), l1, l2, l3, l4, l5] (.ref v :: st) h K := tm_s o137_8 rfl rfl rfl
theorem o137_9 : tm_op 137 9 = some (.getfield 139, (0, 10, 14, 0)) := rfl
theorem r137_9 (d : Nat) (a : Nat) (ls : tm_Lo) (st : List Value) (G : tm_G) (I : Nat → Nat → Int32) (J : Nat → Nat → Int64) (R : Nat → Nat → Option Nat) (K : Option Value → tm_H → Prop) : tm_A d 137 9 ls (.ref a :: st) (G, I, J, R) K ↔ G.2.2 a = (0, 10) ∧ tm_A d 137 12 ls (.int (I a 14) :: st) (G, I, J, R) K := tm_getI o137_9
theorem o137_12 : tm_op 137 12 = some (.if_icmp .ge 70, (0, 0, 0, 0)) := rfl
theorem r137_12 (d : Nat) (y x : Int32) (ls : tm_Lo) (st : List Value) (h : tm_H) (K : Option Value → tm_H → Prop) : tm_A d 137 12 ls (.int y :: .int x :: st) h K ↔ if y ≤ x then tm_A d 137 82 ls st h K else tm_A d 137 15 ls st h K := tm_b o137_12 rfl rfl rfl rfl
theorem o137_15 : tm_op 137 15 = some (.aload_n 0, (0, 0, 0, 0)) := rfl
theorem r137_15 (d : Nat) (v : Nat) (l1 l2 l3 l4 l5 : Option Value) (st : List Value) (h : tm_H) (K : Option Value → tm_H → Prop) : tm_A d 137 15 [some (.ref v), l1, l2, l3, l4, l5] st h K ↔ tm_A d 137 16 [some (.ref v), l1, l2, l3, l4, l5] (.ref v :: st) h K := tm_s o137_15 rfl rfl rfl
theorem o137_16 : tm_op 137 16 = some (.getfield 29, (2, 10, 15, 0)) := rfl
theorem r137_16 (d : Nat) (a : Nat) (ls : tm_Lo) (st : List Value) (G : tm_G) (I : Nat → Nat → Int32) (J : Nat → Nat → Int64) (R : Nat → Nat → Option Nat) (K : Option Value → tm_H → Prop) : tm_A d 137 16 ls (.ref a :: st) (G, I, J, R) K ↔ G.2.2 a = (0, 10) ∧ tm_A d 137 19 ls (tm_rf (R a 15) :: st) (G, I, J, R) K := tm_getR o137_16
theorem o137_19 : tm_op 137 19 = some (.iload 5, (0, 0, 0, 0)) := rfl
theorem r137_19 (d : Nat) (v : Int32) (l0 l1 l2 l3 l4 : Option Value) (st : List Value) (h : tm_H) (K : Option Value → tm_H → Prop) : tm_A d 137 19 [l0, l1, l2, l3, l4, some (.int v)] st h K ↔ tm_A d 137 21 [l0, l1, l2, l3, l4, some (.int v)] (.int v :: st) h K := tm_s o137_19 rfl rfl rfl
theorem o137_21 : tm_op 137 21 = some (.iaload, (0, 0, 0, 0)) := rfl
theorem r137_21 (d : Nat) (v : Int32) (a : Nat) (ls : tm_Lo) (st : List Value) (G : tm_G) (I : Nat → Nat → Int32) (J : Nat → Nat → Int64) (R : Nat → Nat → Option Nat) (K : Option Value → tm_H → Prop) : tm_A d 137 21 ls (.int v :: .ref a :: st) (G, I, J, R) K ↔ ((G.2.2 a).1 = 1 ∧ tm_in v (G.2.2 a).2) ∧ tm_A d 137 22 ls (.int (I a (tm_ix v)) :: st) (G, I, J, R) K := tm_iald o137_21
theorem o137_22 : tm_op 137 22 = some (.iload_n 1, (0, 0, 0, 0)) := rfl
theorem r137_22 (d : Nat) (v : Int32) (l0 l2 l3 l4 l5 : Option Value) (st : List Value) (h : tm_H) (K : Option Value → tm_H → Prop) : tm_A d 137 22 [l0, some (.int v), l2, l3, l4, l5] st h K ↔ tm_A d 137 23 [l0, some (.int v), l2, l3, l4, l5] (.int v :: st) h K := tm_s o137_22 rfl rfl rfl
theorem o137_23 : tm_op 137 23 = some (.if_icmp .ne 53, (0, 0, 0, 0)) := rfl
theorem r137_23 (d : Nat) (y x : Int32) (ls : tm_Lo) (st : List Value) (h : tm_H) (K : Option Value → tm_H → Prop) : tm_A d 137 23 ls (.int y :: .int x :: st) h K ↔ if ¬ x = y then tm_A d 137 76 ls st h K else tm_A d 137 26 ls st h K := tm_b o137_23 rfl rfl rfl rfl
theorem o137_26 : tm_op 137 26 = some (.aload_n 0, (0, 0, 0, 0)) := rfl
theorem r137_26 (d : Nat) (v : Nat) (l1 l2 l3 l4 l5 : Option Value) (st : List Value) (h : tm_H) (K : Option Value → tm_H → Prop) : tm_A d 137 26 [some (.ref v), l1, l2, l3, l4, l5] st h K ↔ tm_A d 137 27 [some (.ref v), l1, l2, l3, l4, l5] (.ref v :: st) h K := tm_s o137_26 rfl rfl rfl
theorem o137_27 : tm_op 137 27 = some (.getfield 32, (2, 10, 16, 0)) := rfl
theorem r137_27 (d : Nat) (a : Nat) (ls : tm_Lo) (st : List Value) (G : tm_G) (I : Nat → Nat → Int32) (J : Nat → Nat → Int64) (R : Nat → Nat → Option Nat) (K : Option Value → tm_H → Prop) : tm_A d 137 27 ls (.ref a :: st) (G, I, J, R) K ↔ G.2.2 a = (0, 10) ∧ tm_A d 137 30 ls (tm_rf (R a 16) :: st) (G, I, J, R) K := tm_getR o137_27
theorem o137_30 : tm_op 137 30 = some (.iload 5, (0, 0, 0, 0)) := rfl
theorem r137_30 (d : Nat) (v : Int32) (l0 l1 l2 l3 l4 : Option Value) (st : List Value) (h : tm_H) (K : Option Value → tm_H → Prop) : tm_A d 137 30 [l0, l1, l2, l3, l4, some (.int v)] st h K ↔ tm_A d 137 32 [l0, l1, l2, l3, l4, some (.int v)] (.int v :: st) h K := tm_s o137_30 rfl rfl rfl
theorem o137_32 : tm_op 137 32 = some (.iaload, (0, 0, 0, 0)) := rfl
theorem r137_32 (d : Nat) (v : Int32) (a : Nat) (ls : tm_Lo) (st : List Value) (G : tm_G) (I : Nat → Nat → Int32) (J : Nat → Nat → Int64) (R : Nat → Nat → Option Nat) (K : Option Value → tm_H → Prop) : tm_A d 137 32 ls (.int v :: .ref a :: st) (G, I, J, R) K ↔ ((G.2.2 a).1 = 1 ∧ tm_in v (G.2.2 a).2) ∧ tm_A d 137 33 ls (.int (I a (tm_ix v)) :: st) (G, I, J, R) K := tm_iald o137_32
theorem o137_33 : tm_op 137 33 = some (.iload_n 3, (0, 0, 0, 0)) := rfl
theorem r137_33 (d : Nat) (v : Int32) (l0 l1 l2 l4 l5 : Option Value) (st : List Value) (h : tm_H) (K : Option Value → tm_H → Prop) : tm_A d 137 33 [l0, l1, l2, some (.int v), l4, l5] st h K ↔ tm_A d 137 34 [l0, l1, l2, some (.int v), l4, l5] (.int v :: st) h K := tm_s o137_33 rfl rfl rfl
theorem o137_34 : tm_op 137 34 = some (.if_icmp .gt 42, (0, 0, 0, 0)) := rfl
theorem r137_34 (d : Nat) (y x : Int32) (ls : tm_Lo) (st : List Value) (h : tm_H) (K : Option Value → tm_H → Prop) : tm_A d 137 34 ls (.int y :: .int x :: st) h K ↔ if y < x then tm_A d 137 76 ls st h K else tm_A d 137 37 ls st h K := tm_b o137_34 rfl rfl rfl rfl
theorem o137_37 : tm_op 137 37 = some (.aload_n 0, (0, 0, 0, 0)) := rfl
theorem r137_37 (d : Nat) (v : Nat) (l1 l2 l3 l4 l5 : Option Value) (st : List Value) (h : tm_H) (K : Option Value → tm_H → Prop) : tm_A d 137 37 [some (.ref v), l1, l2, l3, l4, l5] st h K ↔ tm_A d 137 38 [some (.ref v), l1, l2, l3, l4, l5] (.ref v :: st) h K := tm_s o137_37 rfl rfl rfl
theorem o137_38 : tm_op 137 38 = some (.getfield 35, (2, 10, 17, 0)) := rfl
theorem r137_38 (d : Nat) (a : Nat) (ls : tm_Lo) (st : List Value) (G : tm_G) (I : Nat → Nat → Int32) (J : Nat → Nat → Int64) (R : Nat → Nat → Option Nat) (K : Option Value → tm_H → Prop) : tm_A d 137 38 ls (.ref a :: st) (G, I, J, R) K ↔ G.2.2 a = (0, 10) ∧ tm_A d 137 41 ls (tm_rf (R a 17) :: st) (G, I, J, R) K := tm_getR o137_38
theorem o137_41 : tm_op 137 41 = some (.iload 5, (0, 0, 0, 0)) := rfl
theorem r137_41 (d : Nat) (v : Int32) (l0 l1 l2 l3 l4 : Option Value) (st : List Value) (h : tm_H) (K : Option Value → tm_H → Prop) : tm_A d 137 41 [l0, l1, l2, l3, l4, some (.int v)] st h K ↔ tm_A d 137 43 [l0, l1, l2, l3, l4, some (.int v)] (.int v :: st) h K := tm_s o137_41 rfl rfl rfl
theorem o137_43 : tm_op 137 43 = some (.iaload, (0, 0, 0, 0)) := rfl
theorem r137_43 (d : Nat) (v : Int32) (a : Nat) (ls : tm_Lo) (st : List Value) (G : tm_G) (I : Nat → Nat → Int32) (J : Nat → Nat → Int64) (R : Nat → Nat → Option Nat) (K : Option Value → tm_H → Prop) : tm_A d 137 43 ls (.int v :: .ref a :: st) (G, I, J, R) K ↔ ((G.2.2 a).1 = 1 ∧ tm_in v (G.2.2 a).2) ∧ tm_A d 137 44 ls (.int (I a (tm_ix v)) :: st) (G, I, J, R) K := tm_iald o137_43
theorem o137_44 : tm_op 137 44 = some (.iload_n 2, (0, 0, 0, 0)) := rfl
theorem r137_44 (d : Nat) (v : Int32) (l0 l1 l3 l4 l5 : Option Value) (st : List Value) (h : tm_H) (K : Option Value → tm_H → Prop) : tm_A d 137 44 [l0, l1, some (.int v), l3, l4, l5] st h K ↔ tm_A d 137 45 [l0, l1, some (.int v), l3, l4, l5] (.int v :: st) h K := tm_s o137_44 rfl rfl rfl
theorem o137_45 : tm_op 137 45 = some (.ishr, (0, 0, 0, 0)) := rfl
theorem r137_45 (d : Nat) (u v : Int32) (ls : tm_Lo) (st : List Value) (h : tm_H) (K : Option Value → tm_H → Prop) : tm_A d 137 45 ls (.int u :: .int v :: st) h K ↔ tm_A d 137 46 ls (.int (v >>> (u &&& 31)) :: st) h K := tm_s o137_45 rfl rfl rfl
theorem o137_46 : tm_op 137 46 = some (.iconst 1, (0, 0, 0, 0)) := rfl
theorem r137_46 (d : Nat) (ls : tm_Lo) (st : List Value) (h : tm_H) (K : Option Value → tm_H → Prop) : tm_A d 137 46 ls st h K ↔ tm_A d 137 47 ls (.int (1 : Int32) :: st) h K := tm_ic o137_46 (by decide)
theorem o137_47 : tm_op 137 47 = some (.iand, (0, 0, 0, 0)) := rfl
theorem r137_47 (d : Nat) (u v : Int32) (ls : tm_Lo) (st : List Value) (h : tm_H) (K : Option Value → tm_H → Prop) : tm_A d 137 47 ls (.int u :: .int v :: st) h K ↔ tm_A d 137 48 ls (.int (v &&& u) :: st) h K := tm_s o137_47 rfl rfl rfl
theorem o137_48 : tm_op 137 48 = some (.iconst 1, (0, 0, 0, 0)) := rfl
theorem r137_48 (d : Nat) (ls : tm_Lo) (st : List Value) (h : tm_H) (K : Option Value → tm_H → Prop) : tm_A d 137 48 ls st h K ↔ tm_A d 137 49 ls (.int (1 : Int32) :: st) h K := tm_ic o137_48 (by decide)
theorem o137_49 : tm_op 137 49 = some (.if_icmp .ne 8, (0, 0, 0, 0)) := rfl
theorem r137_49 (d : Nat) (y x : Int32) (ls : tm_Lo) (st : List Value) (h : tm_H) (K : Option Value → tm_H → Prop) : tm_A d 137 49 ls (.int y :: .int x :: st) h K ↔ if ¬ x = y then tm_A d 137 57 ls st h K else tm_A d 137 52 ls st h K := tm_b o137_49 rfl rfl rfl rfl
theorem o137_52 : tm_op 137 52 = some (.iload 5, (0, 0, 0, 0)) := rfl
theorem r137_52 (d : Nat) (v : Int32) (l0 l1 l2 l3 l4 : Option Value) (st : List Value) (h : tm_H) (K : Option Value → tm_H → Prop) : tm_A d 137 52 [l0, l1, l2, l3, l4, some (.int v)] st h K ↔ tm_A d 137 54 [l0, l1, l2, l3, l4, some (.int v)] (.int v :: st) h K := tm_s o137_52 rfl rfl rfl
theorem o137_54 : tm_op 137 54 = some (.goto 20, (0, 0, 0, 0)) := rfl
theorem r137_54 (d : Nat) (ls : tm_Lo) (st : List Value) (h : tm_H) (K : Option Value → tm_H → Prop) : tm_A d 137 54 ls st h K ↔ tm_A d 137 74 ls st h K := tm_s o137_54 rfl rfl rfl
theorem o137_57 : tm_op 137 57 = some (.aload_n 0, (0, 0, 0, 0)) := rfl
theorem r137_57 (d : Nat) (v : Nat) (l1 l2 l3 l4 l5 : Option Value) (st : List Value) (h : tm_H) (K : Option Value → tm_H → Prop) : tm_A d 137 57 [some (.ref v), l1, l2, l3, l4, l5] st h K ↔ tm_A d 137 58 [some (.ref v), l1, l2, l3, l4, l5] (.ref v :: st) h K := tm_s o137_57 rfl rfl rfl
theorem o137_58 : tm_op 137 58 = some (.getfield 38, (2, 10, 18, 0)) := rfl
theorem r137_58 (d : Nat) (a : Nat) (ls : tm_Lo) (st : List Value) (G : tm_G) (I : Nat → Nat → Int32) (J : Nat → Nat → Int64) (R : Nat → Nat → Option Nat) (K : Option Value → tm_H → Prop) : tm_A d 137 58 ls (.ref a :: st) (G, I, J, R) K ↔ G.2.2 a = (0, 10) ∧ tm_A d 137 61 ls (tm_rf (R a 18) :: st) (G, I, J, R) K := tm_getR o137_58
theorem o137_61 : tm_op 137 61 = some (.iload 5, (0, 0, 0, 0)) := rfl
theorem r137_61 (d : Nat) (v : Int32) (l0 l1 l2 l3 l4 : Option Value) (st : List Value) (h : tm_H) (K : Option Value → tm_H → Prop) : tm_A d 137 61 [l0, l1, l2, l3, l4, some (.int v)] st h K ↔ tm_A d 137 63 [l0, l1, l2, l3, l4, some (.int v)] (.int v :: st) h K := tm_s o137_61 rfl rfl rfl
theorem o137_63 : tm_op 137 63 = some (.iaload, (0, 0, 0, 0)) := rfl
theorem r137_63 (d : Nat) (v : Int32) (a : Nat) (ls : tm_Lo) (st : List Value) (G : tm_G) (I : Nat → Nat → Int32) (J : Nat → Nat → Int64) (R : Nat → Nat → Option Nat) (K : Option Value → tm_H → Prop) : tm_A d 137 63 ls (.int v :: .ref a :: st) (G, I, J, R) K ↔ ((G.2.2 a).1 = 1 ∧ tm_in v (G.2.2 a).2) ∧ tm_A d 137 64 ls (.int (I a (tm_ix v)) :: st) (G, I, J, R) K := tm_iald o137_63
theorem o137_64 : tm_op 137 64 = some (.iload_n 2, (0, 0, 0, 0)) := rfl
theorem r137_64 (d : Nat) (v : Int32) (l0 l1 l3 l4 l5 : Option Value) (st : List Value) (h : tm_H) (K : Option Value → tm_H → Prop) : tm_A d 137 64 [l0, l1, some (.int v), l3, l4, l5] st h K ↔ tm_A d 137 65 [l0, l1, some (.int v), l3, l4, l5] (.int v :: st) h K := tm_s o137_64 rfl rfl rfl
theorem o137_65 : tm_op 137 65 = some (.if_icmp .ne 7, (0, 0, 0, 0)) := rfl
theorem r137_65 (d : Nat) (y x : Int32) (ls : tm_Lo) (st : List Value) (h : tm_H) (K : Option Value → tm_H → Prop) : tm_A d 137 65 ls (.int y :: .int x :: st) h K ↔ if ¬ x = y then tm_A d 137 72 ls st h K else tm_A d 137 68 ls st h K := tm_b o137_65 rfl rfl rfl rfl
theorem o137_68 : tm_op 137 68 = some (.iconst (-1), (0, 0, 0, 0)) := rfl
theorem r137_68 (d : Nat) (ls : tm_Lo) (st : List Value) (h : tm_H) (K : Option Value → tm_H → Prop) : tm_A d 137 68 ls st h K ↔ tm_A d 137 69 ls (.int (-1 : Int32) :: st) h K := tm_ic o137_68 (by decide)
theorem o137_69 : tm_op 137 69 = some (.goto 5, (0, 0, 0, 0)) := rfl
theorem r137_69 (d : Nat) (ls : tm_Lo) (st : List Value) (h : tm_H) (K : Option Value → tm_H → Prop) : tm_A d 137 69 ls st h K ↔ tm_A d 137 74 ls st h K := tm_s o137_69 rfl rfl rfl
theorem o137_72 : tm_op 137 72 = some (.iload 4, (0, 0, 0, 0)) := rfl
theorem r137_72 (d : Nat) (v : Int32) (l0 l1 l2 l3 l5 : Option Value) (st : List Value) (h : tm_H) (K : Option Value → tm_H → Prop) : tm_A d 137 72 [l0, l1, l2, l3, some (.int v), l5] st h K ↔ tm_A d 137 74 [l0, l1, l2, l3, some (.int v), l5] (.int v :: st) h K := tm_s o137_72 rfl rfl rfl
theorem o137_74 : tm_op 137 74 = some (.istore 4, (0, 0, 0, 0)) := rfl
theorem r137_74 (d : Nat) (v : Int32) (l0 l1 l2 l3 l4 l5 : Option Value) (st : List Value) (h : tm_H) (K : Option Value → tm_H → Prop) : tm_A d 137 74 [l0, l1, l2, l3, l4, l5] (.int v :: st) h K ↔ tm_A d 137 76 [l0, l1, l2, l3, some (.int v), l5] st h K := tm_s o137_74 rfl rfl rfl
theorem o137_76 : tm_op 137 76 = some (.iinc 5 1, (0, 0, 0, 0)) := rfl
theorem r137_76 (d : Nat) (v : Int32) (l0 l1 l2 l3 l4 : Option Value) (st : List Value) (h : tm_H) (K : Option Value → tm_H → Prop) : tm_A d 137 76 [l0, l1, l2, l3, l4, some (.int v)] st h K ↔ tm_A d 137 79 [l0, l1, l2, l3, l4, some (.int (v + (1 : Int32)))] st h K := tm_s o137_76 rfl rfl rfl
theorem o137_79 : tm_op 137 79 = some (.goto (-73), (0, 0, 0, 0)) := rfl
theorem r137_79 (d : Nat) (ls : tm_Lo) (st : List Value) (h : tm_H) (K : Option Value → tm_H → Prop) : tm_A d 137 79 ls st h K ↔ tm_A d 137 6 ls st h K := tm_s o137_79 rfl rfl rfl
theorem o137_82 : tm_op 137 82 = some (.iload 4, (0, 0, 0, 0)) := rfl
theorem r137_82 (d : Nat) (v : Int32) (l0 l1 l2 l3 l5 : Option Value) (st : List Value) (h : tm_H) (K : Option Value → tm_H → Prop) : tm_A d 137 82 [l0, l1, l2, l3, some (.int v), l5] st h K ↔ tm_A d 137 84 [l0, l1, l2, l3, some (.int v), l5] (.int v :: st) h K := tm_s o137_82 rfl rfl rfl
theorem o137_84 : tm_op 137 84 = some (.ireturn, (0, 0, 0, 0)) := rfl
theorem r137_84 (d : Nat) (v : Int32) (ls : tm_Lo) (h : tm_H) (K : Option Value → tm_H → Prop) : tm_A d 137 84 ls [.int v] h K ↔ K (some (.int v)) h := tm_reti o137_84 rfl
theorem o138_0 : tm_op 138 0 = some (.aload_n 0, (0, 0, 0, 0)) := rfl
theorem r138_0 (d : Nat) (v : Nat) (l1 l2 : Option Value) (st : List Value) (h : tm_H) (K : Option Value → tm_H → Prop) : tm_A d 138 0 [some (.ref v), l1, l2] st h K ↔ tm_A d 138 1 [some (.ref v), l1, l2] (.ref v :: st) h K := tm_s o138_0 rfl rfl rfl
theorem o138_1 : tm_op 138 1 = some (.iload_n 1, (0, 0, 0, 0)) := rfl
theorem r138_1 (d : Nat) (v : Int32) (l0 l2 : Option Value) (st : List Value) (h : tm_H) (K : Option Value → tm_H → Prop) : tm_A d 138 1 [l0, some (.int v), l2] st h K ↔ tm_A d 138 2 [l0, some (.int v), l2] (.int v :: st) h K := tm_s o138_1 rfl rfl rfl
theorem o138_2 : tm_op 138 2 = some (.invokevirtual 153, (2, 134, 2, 10)) := rfl
theorem r138_2 (d : Nat) (v1 : Int32) (a : Nat) (ls : tm_Lo) (st : List Value) (h : tm_H) (K : Option Value → tm_H → Prop) : tm_A (d + 1) 138 2 ls (.int v1 :: .ref a :: st) h K ↔ (h.1.2.2 a = (0, 10) ∧ tm_cs st) ∧ tm_R d 134 [.ref a, .int v1] h (fun r h' => tm_A (d + 1) 138 5 ls (r.toList ++ st) h' K) := tm_callV (as := [.int v1]) o138_2 rfl rfl rfl rfl
theorem o138_5 : tm_op 138 5 = some (.ifCond .eq 29, (0, 0, 0, 0)) := rfl
theorem r138_5 (d : Nat) (x : Int32) (ls : tm_Lo) (st : List Value) (h : tm_H) (K : Option Value → tm_H → Prop) : tm_A d 138 5 ls (.int x :: st) h K ↔ if x = 0 then tm_A d 138 34 ls st h K else tm_A d 138 8 ls st h K := tm_b o138_5 rfl rfl rfl rfl
theorem o138_8 : tm_op 138 8 = some (.iload_n 2, (0, 0, 0, 0)) := rfl
theorem r138_8 (d : Nat) (v : Int32) (l0 l1 : Option Value) (st : List Value) (h : tm_H) (K : Option Value → tm_H → Prop) : tm_A d 138 8 [l0, l1, some (.int v)] st h K ↔ tm_A d 138 9 [l0, l1, some (.int v)] (.int v :: st) h K := tm_s o138_8 rfl rfl rfl
theorem o138_9 : tm_op 138 9 = some (.iconst 0, (0, 0, 0, 0)) := rfl
theorem r138_9 (d : Nat) (ls : tm_Lo) (st : List Value) (h : tm_H) (K : Option Value → tm_H → Prop) : tm_A d 138 9 ls st h K ↔ tm_A d 138 10 ls (.int (0 : Int32) :: st) h K := tm_ic o138_9 (by decide)
theorem o138_10 : tm_op 138 10 = some (.aload_n 0, (0, 0, 0, 0)) := rfl
theorem r138_10 (d : Nat) (v : Nat) (l1 l2 : Option Value) (st : List Value) (h : tm_H) (K : Option Value → tm_H → Prop) : tm_A d 138 10 [some (.ref v), l1, l2] st h K ↔ tm_A d 138 11 [some (.ref v), l1, l2] (.ref v :: st) h K := tm_s o138_10 rfl rfl rfl
theorem o138_11 : tm_op 138 11 = some (.getfield 87, (0, 10, 0, 0)) := rfl
theorem r138_11 (d : Nat) (a : Nat) (ls : tm_Lo) (st : List Value) (G : tm_G) (I : Nat → Nat → Int32) (J : Nat → Nat → Int64) (R : Nat → Nat → Option Nat) (K : Option Value → tm_H → Prop) : tm_A d 138 11 ls (.ref a :: st) (G, I, J, R) K ↔ G.2.2 a = (0, 10) ∧ tm_A d 138 14 ls (.int (I a 0) :: st) (G, I, J, R) K := tm_getI o138_11
theorem o138_14 : tm_op 138 14 = some (.invokestatic 83, (1, 117, 3, 0)) := rfl
theorem r138_14 (d : Nat) (v0 : Int32) (v1 : Int32) (v2 : Int32) (ls : tm_Lo) (st : List Value) (h : tm_H) (K : Option Value → tm_H → Prop) : tm_A (d + 1) 138 14 ls (.int v2 :: .int v1 :: .int v0 :: st) h K ↔ tm_cs st ∧ tm_R d 117 [.int v0, .int v1, .int v2] h (fun r h' => tm_A (d + 1) 138 17 ls (r.toList ++ st) h' K) := tm_callS (as := [.int v0, .int v1, .int v2]) o138_14 rfl rfl rfl rfl
theorem o138_17 : tm_op 138 17 = some (.ifCond .eq 17, (0, 0, 0, 0)) := rfl
theorem r138_17 (d : Nat) (x : Int32) (ls : tm_Lo) (st : List Value) (h : tm_H) (K : Option Value → tm_H → Prop) : tm_A d 138 17 ls (.int x :: st) h K ↔ if x = 0 then tm_A d 138 34 ls st h K else tm_A d 138 20 ls st h K := tm_b o138_17 rfl rfl rfl rfl
theorem o138_20 : tm_op 138 20 = some (.aload_n 0, (0, 0, 0, 0)) := rfl
theorem r138_20 (d : Nat) (v : Nat) (l1 l2 : Option Value) (st : List Value) (h : tm_H) (K : Option Value → tm_H → Prop) : tm_A d 138 20 [some (.ref v), l1, l2] st h K ↔ tm_A d 138 21 [some (.ref v), l1, l2] (.ref v :: st) h K := tm_s o138_20 rfl rfl rfl
theorem o138_21 : tm_op 138 21 = some (.getfield 56, (2, 10, 24, 0)) := rfl
theorem r138_21 (d : Nat) (a : Nat) (ls : tm_Lo) (st : List Value) (G : tm_G) (I : Nat → Nat → Int32) (J : Nat → Nat → Int64) (R : Nat → Nat → Option Nat) (K : Option Value → tm_H → Prop) : tm_A d 138 21 ls (.ref a :: st) (G, I, J, R) K ↔ G.2.2 a = (0, 10) ∧ tm_A d 138 24 ls (tm_rf (R a 24) :: st) (G, I, J, R) K := tm_getR o138_21
theorem o138_24 : tm_op 138 24 = some (.iload_n 1, (0, 0, 0, 0)) := rfl
theorem r138_24 (d : Nat) (v : Int32) (l0 l2 : Option Value) (st : List Value) (h : tm_H) (K : Option Value → tm_H → Prop) : tm_A d 138 24 [l0, some (.int v), l2] st h K ↔ tm_A d 138 25 [l0, some (.int v), l2] (.int v :: st) h K := tm_s o138_24 rfl rfl rfl
theorem o138_25 : tm_op 138 25 = some (.iaload, (0, 0, 0, 0)) := rfl
theorem r138_25 (d : Nat) (v : Int32) (a : Nat) (ls : tm_Lo) (st : List Value) (G : tm_G) (I : Nat → Nat → Int32) (J : Nat → Nat → Int64) (R : Nat → Nat → Option Nat) (K : Option Value → tm_H → Prop) : tm_A d 138 25 ls (.int v :: .ref a :: st) (G, I, J, R) K ↔ ((G.2.2 a).1 = 1 ∧ tm_in v (G.2.2 a).2) ∧ tm_A d 138 26 ls (.int (I a (tm_ix v)) :: st) (G, I, J, R) K := tm_iald o138_25
theorem o138_26 : tm_op 138 26 = some (.iload_n 2, (0, 0, 0, 0)) := rfl
theorem r138_26 (d : Nat) (v : Int32) (l0 l1 : Option Value) (st : List Value) (h : tm_H) (K : Option Value → tm_H → Prop) : tm_A d 138 26 [l0, l1, some (.int v)] st h K ↔ tm_A d 138 27 [l0, l1, some (.int v)] (.int v :: st) h K := tm_s o138_26 rfl rfl rfl
theorem o138_27 : tm_op 138 27 = some (.if_icmp .gt 7, (0, 0, 0, 0)) := rfl
theorem r138_27 (d : Nat) (y x : Int32) (ls : tm_Lo) (st : List Value) (h : tm_H) (K : Option Value → tm_H → Prop) : tm_A d 138 27 ls (.int y :: .int x :: st) h K ↔ if y < x then tm_A d 138 34 ls st h K else tm_A d 138 30 ls st h K := tm_b o138_27 rfl rfl rfl rfl
theorem o138_30 : tm_op 138 30 = some (.iconst 1, (0, 0, 0, 0)) := rfl
theorem r138_30 (d : Nat) (ls : tm_Lo) (st : List Value) (h : tm_H) (K : Option Value → tm_H → Prop) : tm_A d 138 30 ls st h K ↔ tm_A d 138 31 ls (.int (1 : Int32) :: st) h K := tm_ic o138_30 (by decide)
theorem o138_31 : tm_op 138 31 = some (.goto 4, (0, 0, 0, 0)) := rfl
theorem r138_31 (d : Nat) (ls : tm_Lo) (st : List Value) (h : tm_H) (K : Option Value → tm_H → Prop) : tm_A d 138 31 ls st h K ↔ tm_A d 138 35 ls st h K := tm_s o138_31 rfl rfl rfl
theorem o138_34 : tm_op 138 34 = some (.iconst 0, (0, 0, 0, 0)) := rfl
theorem r138_34 (d : Nat) (ls : tm_Lo) (st : List Value) (h : tm_H) (K : Option Value → tm_H → Prop) : tm_A d 138 34 ls st h K ↔ tm_A d 138 35 ls (.int (0 : Int32) :: st) h K := tm_ic o138_34 (by decide)
theorem o138_35 : tm_op 138 35 = some (.ireturn, (0, 0, 0, 0)) := rfl
theorem r138_35 (d : Nat) (v : Int32) (ls : tm_Lo) (h : tm_H) (K : Option Value → tm_H → Prop) : tm_A d 138 35 ls [.int v] h K ↔ (v = 0 ∨ v = 1) ∧ K (some (.int v)) h := tm_retz o138_35 rfl
theorem o139_0 : tm_op 139 0 = some (.aload_n 0, (0, 0, 0, 0)) := rfl
theorem r139_0 (d : Nat) (v : Nat) (l1 l2 l3 : Option Value) (st : List Value) (h : tm_H) (K : Option Value → tm_H → Prop) : tm_A d 139 0 [some (.ref v), l1, l2, l3] st h K ↔ tm_A d 139 1 [some (.ref v), l1, l2, l3] (.ref v :: st) h K := tm_s o139_0 rfl rfl rfl
theorem o139_1 : tm_op 139 1 = some (.iconst 0, (0, 0, 0, 0)) := rfl
theorem r139_1 (d : Nat) (ls : tm_Lo) (st : List Value) (h : tm_H) (K : Option Value → tm_H → Prop) : tm_A d 139 1 ls st h K ↔ tm_A d 139 2 ls (.int (0 : Int32) :: st) h K := tm_ic o139_1 (by decide)
theorem o139_2 : tm_op 139 2 = some (.putfield 159, (0, 10, 26, 0)) := rfl
theorem r139_2 (d : Nat) (v : Int32) (a : Nat) (ls : tm_Lo) (st : List Value) (G : tm_G) (I : Nat → Nat → Int32) (J : Nat → Nat → Int64) (R : Nat → Nat → Option Nat) (K : Option Value → tm_H → Prop) : tm_A d 139 2 ls (.int v :: .ref a :: st) (G, I, J, R) K ↔ G.2.2 a = (0, 10) ∧ tm_A d 139 5 ls st (G, up2 I a 26 v, J, R) K := tm_putI o139_2
theorem o139_5 : tm_op 139 5 = some (.iconst 0, (0, 0, 0, 0)) := rfl
theorem r139_5 (d : Nat) (ls : tm_Lo) (st : List Value) (h : tm_H) (K : Option Value → tm_H → Prop) : tm_A d 139 5 ls st h K ↔ tm_A d 139 6 ls (.int (0 : Int32) :: st) h K := tm_ic o139_5 (by decide)
theorem o139_6 : tm_op 139 6 = some (.istore_n 2, (0, 0, 0, 0)) := rfl
theorem r139_6 (d : Nat) (v : Int32) (l0 l1 l2 l3 : Option Value) (st : List Value) (h : tm_H) (K : Option Value → tm_H → Prop) : tm_A d 139 6 [l0, l1, l2, l3] (.int v :: st) h K ↔ tm_A d 139 7 [l0, l1, some (.int v), l3] st h K := tm_s o139_6 rfl rfl rfl
theorem o139_7 : tm_op 139 7 = some (.iload_n 2, (0, 0, 0, 0)) := rfl
theorem r139_7 (d : Nat) (v : Int32) (l0 l1 l3 : Option Value) (st : List Value) (h : tm_H) (K : Option Value → tm_H → Prop) : tm_A d 139 7 [l0, l1, some (.int v), l3] st h K ↔ tm_A d 139 8 [l0, l1, some (.int v), l3] (.int v :: st) h K := tm_s o139_7 rfl rfl rfl
theorem o139_8 : tm_op 139 8 = some (.aload_n 0, (0, 0, 0, 0)) := rfl
theorem r139_8 (d : Nat) (v : Nat) (l1 l2 l3 : Option Value) (st : List Value) (h : tm_H) (K : Option Value → tm_H → Prop) : tm_A d 139 8 [some (.ref v), l1, l2, l3] st h K ↔ tm_A d 139 9 [some (.ref v), l1, l2, l3] (.ref v :: st) h K := tm_s o139_8 rfl rfl rfl
theorem o139_9 : tm_op 139 9 = some (.getfield 142, (0, 10, 1, 0)) := rfl
theorem r139_9 (d : Nat) (a : Nat) (ls : tm_Lo) (st : List Value) (G : tm_G) (I : Nat → Nat → Int32) (J : Nat → Nat → Int64) (R : Nat → Nat → Option Nat) (K : Option Value → tm_H → Prop) : tm_A d 139 9 ls (.ref a :: st) (G, I, J, R) K ↔ G.2.2 a = (0, 10) ∧ tm_A d 139 12 ls (.int (I a 1) :: st) (G, I, J, R) K := tm_getI o139_9
theorem o139_12 : tm_op 139 12 = some (.if_icmp .ge 69, (0, 0, 0, 0)) := rfl
theorem r139_12 (d : Nat) (y x : Int32) (ls : tm_Lo) (st : List Value) (h : tm_H) (K : Option Value → tm_H → Prop) : tm_A d 139 12 ls (.int y :: .int x :: st) h K ↔ if y ≤ x then tm_A d 139 81 ls st h K else tm_A d 139 15 ls st h K := tm_b o139_12 rfl rfl rfl rfl
theorem o139_15 : tm_op 139 15 = some (.iconst 0, (0, 0, 0, 0)) := rfl
theorem r139_15 (d : Nat) (ls : tm_Lo) (st : List Value) (h : tm_H) (K : Option Value → tm_H → Prop) : tm_A d 139 15 ls st h K ↔ tm_A d 139 16 ls (.int (0 : Int32) :: st) h K := tm_ic o139_15 (by decide)
theorem o139_16 : tm_op 139 16 = some (.istore_n 3, (0, 0, 0, 0)) := rfl
theorem r139_16 (d : Nat) (v : Int32) (l0 l1 l2 l3 : Option Value) (st : List Value) (h : tm_H) (K : Option Value → tm_H → Prop) : tm_A d 139 16 [l0, l1, l2, l3] (.int v :: st) h K ↔ tm_A d 139 17 [l0, l1, l2, some (.int v)] st h K := tm_s o139_16 rfl rfl rfl
theorem o139_17 : tm_op 139 17 = some (.iload_n 3, (0, 0, 0, 0)) := rfl
theorem r139_17 (d : Nat) (v : Int32) (l0 l1 l2 : Option Value) (st : List Value) (h : tm_H) (K : Option Value → tm_H → Prop) : tm_A d 139 17 [l0, l1, l2, some (.int v)] st h K ↔ tm_A d 139 18 [l0, l1, l2, some (.int v)] (.int v :: st) h K := tm_s o139_17 rfl rfl rfl
theorem o139_18 : tm_op 139 18 = some (.iconst 5, (0, 0, 0, 0)) := rfl
theorem r139_18 (d : Nat) (ls : tm_Lo) (st : List Value) (h : tm_H) (K : Option Value → tm_H → Prop) : tm_A d 139 18 ls st h K ↔ tm_A d 139 19 ls (.int (5 : Int32) :: st) h K := tm_ic o139_18 (by decide)
theorem o139_19 : tm_op 139 19 = some (.if_icmp .ge 26, (0, 0, 0, 0)) := rfl
theorem r139_19 (d : Nat) (y x : Int32) (ls : tm_Lo) (st : List Value) (h : tm_H) (K : Option Value → tm_H → Prop) : tm_A d 139 19 ls (.int y :: .int x :: st) h K ↔ if y ≤ x then tm_A d 139 45 ls st h K else tm_A d 139 22 ls st h K := tm_b o139_19 rfl rfl rfl rfl
theorem o139_22 : tm_op 139 22 = some (.aload_n 0, (0, 0, 0, 0)) := rfl
theorem r139_22 (d : Nat) (v : Nat) (l1 l2 l3 : Option Value) (st : List Value) (h : tm_H) (K : Option Value → tm_H → Prop) : tm_A d 139 22 [some (.ref v), l1, l2, l3] st h K ↔ tm_A d 139 23 [some (.ref v), l1, l2, l3] (.ref v :: st) h K := tm_s o139_22 rfl rfl rfl
theorem o139_23 : tm_op 139 23 = some (.getfield 59, (2, 10, 25, 0)) := rfl
theorem r139_23 (d : Nat) (a : Nat) (ls : tm_Lo) (st : List Value) (G : tm_G) (I : Nat → Nat → Int32) (J : Nat → Nat → Int64) (R : Nat → Nat → Option Nat) (K : Option Value → tm_H → Prop) : tm_A d 139 23 ls (.ref a :: st) (G, I, J, R) K ↔ G.2.2 a = (0, 10) ∧ tm_A d 139 26 ls (tm_rf (R a 25) :: st) (G, I, J, R) K := tm_getR o139_23
theorem o139_26 : tm_op 139 26 = some (.iconst 5, (0, 0, 0, 0)) := rfl
theorem r139_26 (d : Nat) (ls : tm_Lo) (st : List Value) (h : tm_H) (K : Option Value → tm_H → Prop) : tm_A d 139 26 ls st h K ↔ tm_A d 139 27 ls (.int (5 : Int32) :: st) h K := tm_ic o139_26 (by decide)
theorem o139_27 : tm_op 139 27 = some (.iload_n 2, (0, 0, 0, 0)) := rfl
theorem r139_27 (d : Nat) (v : Int32) (l0 l1 l3 : Option Value) (st : List Value) (h : tm_H) (K : Option Value → tm_H → Prop) : tm_A d 139 27 [l0, l1, some (.int v), l3] st h K ↔ tm_A d 139 28 [l0, l1, some (.int v), l3] (.int v :: st) h K := tm_s o139_27 rfl rfl rfl
theorem o139_28 : tm_op 139 28 = some (.imul, (0, 0, 0, 0)) := rfl
theorem r139_28 (d : Nat) (u v : Int32) (ls : tm_Lo) (st : List Value) (h : tm_H) (K : Option Value → tm_H → Prop) : tm_A d 139 28 ls (.int u :: .int v :: st) h K ↔ tm_A d 139 29 ls (.int (v * u) :: st) h K := tm_s o139_28 rfl rfl rfl
theorem o139_29 : tm_op 139 29 = some (.iload_n 3, (0, 0, 0, 0)) := rfl
theorem r139_29 (d : Nat) (v : Int32) (l0 l1 l2 : Option Value) (st : List Value) (h : tm_H) (K : Option Value → tm_H → Prop) : tm_A d 139 29 [l0, l1, l2, some (.int v)] st h K ↔ tm_A d 139 30 [l0, l1, l2, some (.int v)] (.int v :: st) h K := tm_s o139_29 rfl rfl rfl
theorem o139_30 : tm_op 139 30 = some (.iadd, (0, 0, 0, 0)) := rfl
theorem r139_30 (d : Nat) (u v : Int32) (ls : tm_Lo) (st : List Value) (h : tm_H) (K : Option Value → tm_H → Prop) : tm_A d 139 30 ls (.int u :: .int v :: st) h K ↔ tm_A d 139 31 ls (.int (v + u) :: st) h K := tm_s o139_30 rfl rfl rfl
theorem o139_31 : tm_op 139 31 = some (.aload_n 0, (0, 0, 0, 0)) := rfl
theorem r139_31 (d : Nat) (v : Nat) (l1 l2 l3 : Option Value) (st : List Value) (h : tm_H) (K : Option Value → tm_H → Prop) : tm_A d 139 31 [some (.ref v), l1, l2, l3] st h K ↔ tm_A d 139 32 [some (.ref v), l1, l2, l3] (.ref v :: st) h K := tm_s o139_31 rfl rfl rfl
theorem o139_32 : tm_op 139 32 = some (.iload_n 2, (0, 0, 0, 0)) := rfl
theorem r139_32 (d : Nat) (v : Int32) (l0 l1 l3 : Option Value) (st : List Value) (h : tm_H) (K : Option Value → tm_H → Prop) : tm_A d 139 32 [l0, l1, some (.int v), l3] st h K ↔ tm_A d 139 33 [l0, l1, some (.int v), l3] (.int v :: st) h K := tm_s o139_32 rfl rfl rfl
theorem o139_33 : tm_op 139 33 = some (.iload_n 3, (0, 0, 0, 0)) := rfl
theorem r139_33 (d : Nat) (v : Int32) (l0 l1 l2 : Option Value) (st : List Value) (h : tm_H) (K : Option Value → tm_H → Prop) : tm_A d 139 33 [l0, l1, l2, some (.int v)] st h K ↔ tm_A d 139 34 [l0, l1, l2, some (.int v)] (.int v :: st) h K := tm_s o139_33 rfl rfl rfl
theorem o139_34 : tm_op 139 34 = some (.iload_n 1, (0, 0, 0, 0)) := rfl
theorem r139_34 (d : Nat) (v : Int32) (l0 l2 l3 : Option Value) (st : List Value) (h : tm_H) (K : Option Value → tm_H → Prop) : tm_A d 139 34 [l0, some (.int v), l2, l3] st h K ↔ tm_A d 139 35 [l0, some (.int v), l2, l3] (.int v :: st) h K := tm_s o139_34 rfl rfl rfl
theorem o139_35 : tm_op 139 35 = some (.invokevirtual 162, (2, 137, 4, 10)) := rfl
theorem r139_35 (d : Nat) (v1 : Int32) (v2 : Int32) (v3 : Int32) (a : Nat) (ls : tm_Lo) (st : List Value) (h : tm_H) (K : Option Value → tm_H → Prop) : tm_A (d + 1) 139 35 ls (.int v3 :: .int v2 :: .int v1 :: .ref a :: st) h K ↔ (h.1.2.2 a = (0, 10) ∧ tm_cs st) ∧ tm_R d 137 [.ref a, .int v1, .int v2, .int v3] h (fun r h' => tm_A (d + 1) 139 38 ls (r.toList ++ st) h' K) := tm_callV (as := [.int v1, .int v2, .int v3]) o139_35 rfl rfl rfl rfl
theorem o139_38 : tm_op 139 38 = some (.iastore, (0, 0, 0, 0)) := rfl
theorem r139_38 (d : Nat) (u v : Int32) (a : Nat) (ls : tm_Lo) (st : List Value) (G : tm_G) (I : Nat → Nat → Int32) (J : Nat → Nat → Int64) (R : Nat → Nat → Option Nat) (K : Option Value → tm_H → Prop) : tm_A d 139 38 ls (.int u :: .int v :: .ref a :: st) (G, I, J, R) K ↔ (3 ≤ a ∧ (G.2.2 a).1 = 1 ∧ tm_in v (G.2.2 a).2) ∧ tm_A d 139 39 ls st (G, up2 I a (tm_ix v) u, J, R) K := tm_iast o139_38
theorem o139_39 : tm_op 139 39 = some (.iinc 3 1, (0, 0, 0, 0)) := rfl
theorem r139_39 (d : Nat) (v : Int32) (l0 l1 l2 : Option Value) (st : List Value) (h : tm_H) (K : Option Value → tm_H → Prop) : tm_A d 139 39 [l0, l1, l2, some (.int v)] st h K ↔ tm_A d 139 42 [l0, l1, l2, some (.int (v + (1 : Int32)))] st h K := tm_s o139_39 rfl rfl rfl
theorem o139_42 : tm_op 139 42 = some (.goto (-25), (0, 0, 0, 0)) := rfl
theorem r139_42 (d : Nat) (ls : tm_Lo) (st : List Value) (h : tm_H) (K : Option Value → tm_H → Prop) : tm_A d 139 42 ls st h K ↔ tm_A d 139 17 ls st h K := tm_s o139_42 rfl rfl rfl
theorem o139_45 : tm_op 139 45 = some (.aload_n 0, (0, 0, 0, 0)) := rfl
theorem r139_45 (d : Nat) (v : Nat) (l1 l2 l3 : Option Value) (st : List Value) (h : tm_H) (K : Option Value → tm_H → Prop) : tm_A d 139 45 [some (.ref v), l1, l2, l3] st h K ↔ tm_A d 139 46 [some (.ref v), l1, l2, l3] (.ref v :: st) h K := tm_s o139_45 rfl rfl rfl
theorem o139_46 : tm_op 139 46 = some (.getfield 56, (2, 10, 24, 0)) := rfl
theorem r139_46 (d : Nat) (a : Nat) (ls : tm_Lo) (st : List Value) (G : tm_G) (I : Nat → Nat → Int32) (J : Nat → Nat → Int64) (R : Nat → Nat → Option Nat) (K : Option Value → tm_H → Prop) : tm_A d 139 46 ls (.ref a :: st) (G, I, J, R) K ↔ G.2.2 a = (0, 10) ∧ tm_A d 139 49 ls (tm_rf (R a 24) :: st) (G, I, J, R) K := tm_getR o139_46
theorem o139_49 : tm_op 139 49 = some (.iload_n 2, (0, 0, 0, 0)) := rfl
theorem r139_49 (d : Nat) (v : Int32) (l0 l1 l3 : Option Value) (st : List Value) (h : tm_H) (K : Option Value → tm_H → Prop) : tm_A d 139 49 [l0, l1, some (.int v), l3] st h K ↔ tm_A d 139 50 [l0, l1, some (.int v), l3] (.int v :: st) h K := tm_s o139_49 rfl rfl rfl
theorem o139_50 : tm_op 139 50 = some (.iaload, (0, 0, 0, 0)) := rfl
theorem r139_50 (d : Nat) (v : Int32) (a : Nat) (ls : tm_Lo) (st : List Value) (G : tm_G) (I : Nat → Nat → Int32) (J : Nat → Nat → Int64) (R : Nat → Nat → Option Nat) (K : Option Value → tm_H → Prop) : tm_A d 139 50 ls (.int v :: .ref a :: st) (G, I, J, R) K ↔ ((G.2.2 a).1 = 1 ∧ tm_in v (G.2.2 a).2) ∧ tm_A d 139 51 ls (.int (I a (tm_ix v)) :: st) (G, I, J, R) K := tm_iald o139_50
theorem o139_51 : tm_op 139 51 = some (.iload_n 1, (0, 0, 0, 0)) := rfl
theorem r139_51 (d : Nat) (v : Int32) (l0 l2 l3 : Option Value) (st : List Value) (h : tm_H) (K : Option Value → tm_H → Prop) : tm_A d 139 51 [l0, some (.int v), l2, l3] st h K ↔ tm_A d 139 52 [l0, some (.int v), l2, l3] (.int v :: st) h K := tm_s o139_51 rfl rfl rfl
theorem o139_52 : tm_op 139 52 = some (.if_icmp .gt 23, (0, 0, 0, 0)) := rfl
theorem r139_52 (d : Nat) (y x : Int32) (ls : tm_Lo) (st : List Value) (h : tm_H) (K : Option Value → tm_H → Prop) : tm_A d 139 52 ls (.int y :: .int x :: st) h K ↔ if y < x then tm_A d 139 75 ls st h K else tm_A d 139 55 ls st h K := tm_b o139_52 rfl rfl rfl rfl
theorem o139_55 : tm_op 139 55 = some (.aload_n 0, (0, 0, 0, 0)) := rfl
theorem r139_55 (d : Nat) (v : Nat) (l1 l2 l3 : Option Value) (st : List Value) (h : tm_H) (K : Option Value → tm_H → Prop) : tm_A d 139 55 [some (.ref v), l1, l2, l3] st h K ↔ tm_A d 139 56 [some (.ref v), l1, l2, l3] (.ref v :: st) h K := tm_s o139_55 rfl rfl rfl
theorem o139_56 : tm_op 139 56 = some (.getfield 62, (2, 10, 27, 0)) := rfl
theorem r139_56 (d : Nat) (a : Nat) (ls : tm_Lo) (st : List Value) (G : tm_G) (I : Nat → Nat → Int32) (J : Nat → Nat → Int64) (R : Nat → Nat → Option Nat) (K : Option Value → tm_H → Prop) : tm_A d 139 56 ls (.ref a :: st) (G, I, J, R) K ↔ G.2.2 a = (0, 10) ∧ tm_A d 139 59 ls (tm_rf (R a 27) :: st) (G, I, J, R) K := tm_getR o139_56
theorem o139_59 : tm_op 139 59 = some (.aload_n 0, (0, 0, 0, 0)) := rfl
theorem r139_59 (d : Nat) (v : Nat) (l1 l2 l3 : Option Value) (st : List Value) (h : tm_H) (K : Option Value → tm_H → Prop) : tm_A d 139 59 [some (.ref v), l1, l2, l3] st h K ↔ tm_A d 139 60 [some (.ref v), l1, l2, l3] (.ref v :: st) h K := tm_s o139_59 rfl rfl rfl
theorem o139_60 : tm_op 139 60 = some (.getfield 159, (0, 10, 26, 0)) := rfl
theorem r139_60 (d : Nat) (a : Nat) (ls : tm_Lo) (st : List Value) (G : tm_G) (I : Nat → Nat → Int32) (J : Nat → Nat → Int64) (R : Nat → Nat → Option Nat) (K : Option Value → tm_H → Prop) : tm_A d 139 60 ls (.ref a :: st) (G, I, J, R) K ↔ G.2.2 a = (0, 10) ∧ tm_A d 139 63 ls (.int (I a 26) :: st) (G, I, J, R) K := tm_getI o139_60
theorem o139_63 : tm_op 139 63 = some (.iload_n 2, (0, 0, 0, 0)) := rfl
theorem r139_63 (d : Nat) (v : Int32) (l0 l1 l3 : Option Value) (st : List Value) (h : tm_H) (K : Option Value → tm_H → Prop) : tm_A d 139 63 [l0, l1, some (.int v), l3] st h K ↔ tm_A d 139 64 [l0, l1, some (.int v), l3] (.int v :: st) h K := tm_s o139_63 rfl rfl rfl
theorem o139_64 : tm_op 139 64 = some (.iastore, (0, 0, 0, 0)) := rfl
theorem r139_64 (d : Nat) (u v : Int32) (a : Nat) (ls : tm_Lo) (st : List Value) (G : tm_G) (I : Nat → Nat → Int32) (J : Nat → Nat → Int64) (R : Nat → Nat → Option Nat) (K : Option Value → tm_H → Prop) : tm_A d 139 64 ls (.int u :: .int v :: .ref a :: st) (G, I, J, R) K ↔ (3 ≤ a ∧ (G.2.2 a).1 = 1 ∧ tm_in v (G.2.2 a).2) ∧ tm_A d 139 65 ls st (G, up2 I a (tm_ix v) u, J, R) K := tm_iast o139_64
theorem o139_65 : tm_op 139 65 = some (.aload_n 0, (0, 0, 0, 0)) := rfl
theorem r139_65 (d : Nat) (v : Nat) (l1 l2 l3 : Option Value) (st : List Value) (h : tm_H) (K : Option Value → tm_H → Prop) : tm_A d 139 65 [some (.ref v), l1, l2, l3] st h K ↔ tm_A d 139 66 [some (.ref v), l1, l2, l3] (.ref v :: st) h K := tm_s o139_65 rfl rfl rfl
theorem o139_66 : tm_op 139 66 = some (.dup, (0, 0, 0, 0)) := rfl
theorem r139_66 (d : Nat) (v : Nat) (ls : tm_Lo) (st : List Value) (h : tm_H) (K : Option Value → tm_H → Prop) : tm_A d 139 66 ls (.ref v :: st) h K ↔ tm_A d 139 67 ls (.ref v :: .ref v :: st) h K := tm_s o139_66 rfl rfl rfl
theorem r139_66i (d : Nat) (v : Int32) (ls : tm_Lo) (st : List Value) (h : tm_H) (K : Option Value → tm_H → Prop) : tm_A d 139 66 ls (.int v :: st) h K ↔ tm_A d 139 67 ls (.int v :: .int v :: st) h K := tm_s o139_66 rfl rfl rfl
theorem o139_67 : tm_op 139 67 = some (.getfield 159, (0, 10, 26, 0)) := rfl
theorem r139_67 (d : Nat) (a : Nat) (ls : tm_Lo) (st : List Value) (G : tm_G) (I : Nat → Nat → Int32) (J : Nat → Nat → Int64) (R : Nat → Nat → Option Nat) (K : Option Value → tm_H → Prop) : tm_A d 139 67 ls (.ref a :: st) (G, I, J, R) K ↔ G.2.2 a = (0, 10) ∧ tm_A d 139 70 ls (.int (I a 26) :: st) (G, I, J, R) K := tm_getI o139_67
theorem o139_70 : tm_op 139 70 = some (.iconst 1, (0, 0, 0, 0)) := rfl
theorem r139_70 (d : Nat) (ls : tm_Lo) (st : List Value) (h : tm_H) (K : Option Value → tm_H → Prop) : tm_A d 139 70 ls st h K ↔ tm_A d 139 71 ls (.int (1 : Int32) :: st) h K := tm_ic o139_70 (by decide)
theorem o139_71 : tm_op 139 71 = some (.iadd, (0, 0, 0, 0)) := rfl
theorem r139_71 (d : Nat) (u v : Int32) (ls : tm_Lo) (st : List Value) (h : tm_H) (K : Option Value → tm_H → Prop) : tm_A d 139 71 ls (.int u :: .int v :: st) h K ↔ tm_A d 139 72 ls (.int (v + u) :: st) h K := tm_s o139_71 rfl rfl rfl
theorem o139_72 : tm_op 139 72 = some (.putfield 159, (0, 10, 26, 0)) := rfl
theorem r139_72 (d : Nat) (v : Int32) (a : Nat) (ls : tm_Lo) (st : List Value) (G : tm_G) (I : Nat → Nat → Int32) (J : Nat → Nat → Int64) (R : Nat → Nat → Option Nat) (K : Option Value → tm_H → Prop) : tm_A d 139 72 ls (.int v :: .ref a :: st) (G, I, J, R) K ↔ G.2.2 a = (0, 10) ∧ tm_A d 139 75 ls st (G, up2 I a 26 v, J, R) K := tm_putI o139_72
theorem o139_75 : tm_op 139 75 = some (.iinc 2 1, (0, 0, 0, 0)) := rfl
theorem r139_75 (d : Nat) (v : Int32) (l0 l1 l3 : Option Value) (st : List Value) (h : tm_H) (K : Option Value → tm_H → Prop) : tm_A d 139 75 [l0, l1, some (.int v), l3] st h K ↔ tm_A d 139 78 [l0, l1, some (.int (v + (1 : Int32))), l3] st h K := tm_s o139_75 rfl rfl rfl
theorem o139_78 : tm_op 139 78 = some (.goto (-71), (0, 0, 0, 0)) := rfl
theorem r139_78 (d : Nat) (ls : tm_Lo) (st : List Value) (h : tm_H) (K : Option Value → tm_H → Prop) : tm_A d 139 78 ls st h K ↔ tm_A d 139 7 ls st h K := tm_s o139_78 rfl rfl rfl
theorem o139_81 : tm_op 139 81 = some (.return_, (0, 0, 0, 0)) := rfl
theorem r139_81 (d : Nat) (ls : tm_Lo) (h : tm_H) (K : Option Value → tm_H → Prop) : tm_A d 139 81 ls [] h K ↔ K none h := tm_retv o139_81 rfl
theorem o140_0 : tm_op 140 0 = some (.aload_n 0, (0, 0, 0, 0)) := rfl
theorem r140_0 (d : Nat) (v : Nat) (l1 l2 : Option Value) (st : List Value) (h : tm_H) (K : Option Value → tm_H → Prop) : tm_A d 140 0 [some (.ref v), l1, l2] st h K ↔ tm_A d 140 1 [some (.ref v), l1, l2] (.ref v :: st) h K := tm_s o140_0 rfl rfl rfl
theorem o140_1 : tm_op 140 1 = some (.getfield 59, (2, 10, 25, 0)) := rfl
theorem r140_1 (d : Nat) (a : Nat) (ls : tm_Lo) (st : List Value) (G : tm_G) (I : Nat → Nat → Int32) (J : Nat → Nat → Int64) (R : Nat → Nat → Option Nat) (K : Option Value → tm_H → Prop) : tm_A d 140 1 ls (.ref a :: st) (G, I, J, R) K ↔ G.2.2 a = (0, 10) ∧ tm_A d 140 4 ls (tm_rf (R a 25) :: st) (G, I, J, R) K := tm_getR o140_1
theorem o140_4 : tm_op 140 4 = some (.iconst 5, (0, 0, 0, 0)) := rfl
theorem r140_4 (d : Nat) (ls : tm_Lo) (st : List Value) (h : tm_H) (K : Option Value → tm_H → Prop) : tm_A d 140 4 ls st h K ↔ tm_A d 140 5 ls (.int (5 : Int32) :: st) h K := tm_ic o140_4 (by decide)
theorem o140_5 : tm_op 140 5 = some (.iload_n 1, (0, 0, 0, 0)) := rfl
theorem r140_5 (d : Nat) (v : Int32) (l0 l2 : Option Value) (st : List Value) (h : tm_H) (K : Option Value → tm_H → Prop) : tm_A d 140 5 [l0, some (.int v), l2] st h K ↔ tm_A d 140 6 [l0, some (.int v), l2] (.int v :: st) h K := tm_s o140_5 rfl rfl rfl
theorem o140_6 : tm_op 140 6 = some (.imul, (0, 0, 0, 0)) := rfl
theorem r140_6 (d : Nat) (u v : Int32) (ls : tm_Lo) (st : List Value) (h : tm_H) (K : Option Value → tm_H → Prop) : tm_A d 140 6 ls (.int u :: .int v :: st) h K ↔ tm_A d 140 7 ls (.int (v * u) :: st) h K := tm_s o140_6 rfl rfl rfl
theorem o140_7 : tm_op 140 7 = some (.iload_n 2, (0, 0, 0, 0)) := rfl
theorem r140_7 (d : Nat) (v : Int32) (l0 l1 : Option Value) (st : List Value) (h : tm_H) (K : Option Value → tm_H → Prop) : tm_A d 140 7 [l0, l1, some (.int v)] st h K ↔ tm_A d 140 8 [l0, l1, some (.int v)] (.int v :: st) h K := tm_s o140_7 rfl rfl rfl
theorem o140_8 : tm_op 140 8 = some (.iadd, (0, 0, 0, 0)) := rfl
theorem r140_8 (d : Nat) (u v : Int32) (ls : tm_Lo) (st : List Value) (h : tm_H) (K : Option Value → tm_H → Prop) : tm_A d 140 8 ls (.int u :: .int v :: st) h K ↔ tm_A d 140 9 ls (.int (v + u) :: st) h K := tm_s o140_8 rfl rfl rfl
theorem o140_9 : tm_op 140 9 = some (.iaload, (0, 0, 0, 0)) := rfl
theorem r140_9 (d : Nat) (v : Int32) (a : Nat) (ls : tm_Lo) (st : List Value) (G : tm_G) (I : Nat → Nat → Int32) (J : Nat → Nat → Int64) (R : Nat → Nat → Option Nat) (K : Option Value → tm_H → Prop) : tm_A d 140 9 ls (.int v :: .ref a :: st) (G, I, J, R) K ↔ ((G.2.2 a).1 = 1 ∧ tm_in v (G.2.2 a).2) ∧ tm_A d 140 10 ls (.int (I a (tm_ix v)) :: st) (G, I, J, R) K := tm_iald o140_9
theorem o140_10 : tm_op 140 10 = some (.iconst (-1), (0, 0, 0, 0)) := rfl
theorem r140_10 (d : Nat) (ls : tm_Lo) (st : List Value) (h : tm_H) (K : Option Value → tm_H → Prop) : tm_A d 140 10 ls st h K ↔ tm_A d 140 11 ls (.int (-1 : Int32) :: st) h K := tm_ic o140_10 (by decide)
theorem o140_11 : tm_op 140 11 = some (.if_icmp .eq 7, (0, 0, 0, 0)) := rfl
theorem r140_11 (d : Nat) (y x : Int32) (ls : tm_Lo) (st : List Value) (h : tm_H) (K : Option Value → tm_H → Prop) : tm_A d 140 11 ls (.int y :: .int x :: st) h K ↔ if x = y then tm_A d 140 18 ls st h K else tm_A d 140 14 ls st h K := tm_b o140_11 rfl rfl rfl rfl
theorem o140_14 : tm_op 140 14 = some (.iconst 1, (0, 0, 0, 0)) := rfl
theorem r140_14 (d : Nat) (ls : tm_Lo) (st : List Value) (h : tm_H) (K : Option Value → tm_H → Prop) : tm_A d 140 14 ls st h K ↔ tm_A d 140 15 ls (.int (1 : Int32) :: st) h K := tm_ic o140_14 (by decide)
theorem o140_15 : tm_op 140 15 = some (.goto 4, (0, 0, 0, 0)) := rfl
theorem r140_15 (d : Nat) (ls : tm_Lo) (st : List Value) (h : tm_H) (K : Option Value → tm_H → Prop) : tm_A d 140 15 ls st h K ↔ tm_A d 140 19 ls st h K := tm_s o140_15 rfl rfl rfl
theorem o140_18 : tm_op 140 18 = some (.iconst 0, (0, 0, 0, 0)) := rfl
theorem r140_18 (d : Nat) (ls : tm_Lo) (st : List Value) (h : tm_H) (K : Option Value → tm_H → Prop) : tm_A d 140 18 ls st h K ↔ tm_A d 140 19 ls (.int (0 : Int32) :: st) h K := tm_ic o140_18 (by decide)
theorem o140_19 : tm_op 140 19 = some (.ireturn, (0, 0, 0, 0)) := rfl
theorem r140_19 (d : Nat) (v : Int32) (ls : tm_Lo) (h : tm_H) (K : Option Value → tm_H → Prop) : tm_A d 140 19 ls [.int v] h K ↔ (v = 0 ∨ v = 1) ∧ K (some (.int v)) h := tm_retz o140_19 rfl
theorem o141_0 : tm_op 141 0 = some (.aload_n 0, (0, 0, 0, 0)) := rfl
theorem r141_0 (d : Nat) (v : Nat) (l1 l2 : Option Value) (st : List Value) (h : tm_H) (K : Option Value → tm_H → Prop) : tm_A d 141 0 [some (.ref v), l1, l2] st h K ↔ tm_A d 141 1 [some (.ref v), l1, l2] (.ref v :: st) h K := tm_s o141_0 rfl rfl rfl
theorem o141_1 : tm_op 141 1 = some (.getfield 41, (2, 10, 19, 0)) := rfl
theorem r141_1 (d : Nat) (a : Nat) (ls : tm_Lo) (st : List Value) (G : tm_G) (I : Nat → Nat → Int32) (J : Nat → Nat → Int64) (R : Nat → Nat → Option Nat) (K : Option Value → tm_H → Prop) : tm_A d 141 1 ls (.ref a :: st) (G, I, J, R) K ↔ G.2.2 a = (0, 10) ∧ tm_A d 141 4 ls (tm_rf (R a 19) :: st) (G, I, J, R) K := tm_getR o141_1
theorem o141_4 : tm_op 141 4 = some (.iconst 5, (0, 0, 0, 0)) := rfl
theorem r141_4 (d : Nat) (ls : tm_Lo) (st : List Value) (h : tm_H) (K : Option Value → tm_H → Prop) : tm_A d 141 4 ls st h K ↔ tm_A d 141 5 ls (.int (5 : Int32) :: st) h K := tm_ic o141_4 (by decide)
theorem o141_5 : tm_op 141 5 = some (.aload_n 0, (0, 0, 0, 0)) := rfl
theorem r141_5 (d : Nat) (v : Nat) (l1 l2 : Option Value) (st : List Value) (h : tm_H) (K : Option Value → tm_H → Prop) : tm_A d 141 5 [some (.ref v), l1, l2] st h K ↔ tm_A d 141 6 [some (.ref v), l1, l2] (.ref v :: st) h K := tm_s o141_5 rfl rfl rfl
theorem o141_6 : tm_op 141 6 = some (.getfield 59, (2, 10, 25, 0)) := rfl
theorem r141_6 (d : Nat) (a : Nat) (ls : tm_Lo) (st : List Value) (G : tm_G) (I : Nat → Nat → Int32) (J : Nat → Nat → Int64) (R : Nat → Nat → Option Nat) (K : Option Value → tm_H → Prop) : tm_A d 141 6 ls (.ref a :: st) (G, I, J, R) K ↔ G.2.2 a = (0, 10) ∧ tm_A d 141 9 ls (tm_rf (R a 25) :: st) (G, I, J, R) K := tm_getR o141_6
theorem o141_9 : tm_op 141 9 = some (.iconst 5, (0, 0, 0, 0)) := rfl
theorem r141_9 (d : Nat) (ls : tm_Lo) (st : List Value) (h : tm_H) (K : Option Value → tm_H → Prop) : tm_A d 141 9 ls st h K ↔ tm_A d 141 10 ls (.int (5 : Int32) :: st) h K := tm_ic o141_9 (by decide)
theorem o141_10 : tm_op 141 10 = some (.iload_n 1, (0, 0, 0, 0)) := rfl
theorem r141_10 (d : Nat) (v : Int32) (l0 l2 : Option Value) (st : List Value) (h : tm_H) (K : Option Value → tm_H → Prop) : tm_A d 141 10 [l0, some (.int v), l2] st h K ↔ tm_A d 141 11 [l0, some (.int v), l2] (.int v :: st) h K := tm_s o141_10 rfl rfl rfl
theorem o141_11 : tm_op 141 11 = some (.imul, (0, 0, 0, 0)) := rfl
theorem r141_11 (d : Nat) (u v : Int32) (ls : tm_Lo) (st : List Value) (h : tm_H) (K : Option Value → tm_H → Prop) : tm_A d 141 11 ls (.int u :: .int v :: st) h K ↔ tm_A d 141 12 ls (.int (v * u) :: st) h K := tm_s o141_11 rfl rfl rfl
theorem o141_12 : tm_op 141 12 = some (.iload_n 2, (0, 0, 0, 0)) := rfl
theorem r141_12 (d : Nat) (v : Int32) (l0 l1 : Option Value) (st : List Value) (h : tm_H) (K : Option Value → tm_H → Prop) : tm_A d 141 12 [l0, l1, some (.int v)] st h K ↔ tm_A d 141 13 [l0, l1, some (.int v)] (.int v :: st) h K := tm_s o141_12 rfl rfl rfl
theorem o141_13 : tm_op 141 13 = some (.iadd, (0, 0, 0, 0)) := rfl
theorem r141_13 (d : Nat) (u v : Int32) (ls : tm_Lo) (st : List Value) (h : tm_H) (K : Option Value → tm_H → Prop) : tm_A d 141 13 ls (.int u :: .int v :: st) h K ↔ tm_A d 141 14 ls (.int (v + u) :: st) h K := tm_s o141_13 rfl rfl rfl
theorem o141_14 : tm_op 141 14 = some (.iaload, (0, 0, 0, 0)) := rfl
theorem r141_14 (d : Nat) (v : Int32) (a : Nat) (ls : tm_Lo) (st : List Value) (G : tm_G) (I : Nat → Nat → Int32) (J : Nat → Nat → Int64) (R : Nat → Nat → Option Nat) (K : Option Value → tm_H → Prop) : tm_A d 141 14 ls (.int v :: .ref a :: st) (G, I, J, R) K ↔ ((G.2.2 a).1 = 1 ∧ tm_in v (G.2.2 a).2) ∧ tm_A d 141 15 ls (.int (I a (tm_ix v)) :: st) (G, I, J, R) K := tm_iald o141_14
theorem o141_15 : tm_op 141 15 = some (.imul, (0, 0, 0, 0)) := rfl
theorem r141_15 (d : Nat) (u v : Int32) (ls : tm_Lo) (st : List Value) (h : tm_H) (K : Option Value → tm_H → Prop) : tm_A d 141 15 ls (.int u :: .int v :: st) h K ↔ tm_A d 141 16 ls (.int (v * u) :: st) h K := tm_s o141_15 rfl rfl rfl
theorem o141_16 : tm_op 141 16 = some (.iload_n 2, (0, 0, 0, 0)) := rfl
theorem r141_16 (d : Nat) (v : Int32) (l0 l1 : Option Value) (st : List Value) (h : tm_H) (K : Option Value → tm_H → Prop) : tm_A d 141 16 [l0, l1, some (.int v)] st h K ↔ tm_A d 141 17 [l0, l1, some (.int v)] (.int v :: st) h K := tm_s o141_16 rfl rfl rfl
theorem o141_17 : tm_op 141 17 = some (.iadd, (0, 0, 0, 0)) := rfl
theorem r141_17 (d : Nat) (u v : Int32) (ls : tm_Lo) (st : List Value) (h : tm_H) (K : Option Value → tm_H → Prop) : tm_A d 141 17 ls (.int u :: .int v :: st) h K ↔ tm_A d 141 18 ls (.int (v + u) :: st) h K := tm_s o141_17 rfl rfl rfl
theorem o141_18 : tm_op 141 18 = some (.iaload, (0, 0, 0, 0)) := rfl
theorem r141_18 (d : Nat) (v : Int32) (a : Nat) (ls : tm_Lo) (st : List Value) (G : tm_G) (I : Nat → Nat → Int32) (J : Nat → Nat → Int64) (R : Nat → Nat → Option Nat) (K : Option Value → tm_H → Prop) : tm_A d 141 18 ls (.int v :: .ref a :: st) (G, I, J, R) K ↔ ((G.2.2 a).1 = 1 ∧ tm_in v (G.2.2 a).2) ∧ tm_A d 141 19 ls (.int (I a (tm_ix v)) :: st) (G, I, J, R) K := tm_iald o141_18
theorem o141_19 : tm_op 141 19 = some (.ireturn, (0, 0, 0, 0)) := rfl
theorem r141_19 (d : Nat) (v : Int32) (ls : tm_Lo) (h : tm_H) (K : Option Value → tm_H → Prop) : tm_A d 141 19 ls [.int v] h K ↔ K (some (.int v)) h := tm_reti o141_19 rfl
theorem o142_0 : tm_op 142 0 = some (.aload_n 0, (0, 0, 0, 0)) := rfl
theorem r142_0 (d : Nat) (v : Nat) (l1 : Option Value) (st : List Value) (h : tm_H) (K : Option Value → tm_H → Prop) : tm_A d 142 0 [some (.ref v), l1] st h K ↔ tm_A d 142 1 [some (.ref v), l1] (.ref v :: st) h K := tm_s o142_0 rfl rfl rfl
theorem o142_1 : tm_op 142 1 = some (.getfield 44, (2, 10, 20, 0)) := rfl
theorem r142_1 (d : Nat) (a : Nat) (ls : tm_Lo) (st : List Value) (G : tm_G) (I : Nat → Nat → Int32) (J : Nat → Nat → Int64) (R : Nat → Nat → Option Nat) (K : Option Value → tm_H → Prop) : tm_A d 142 1 ls (.ref a :: st) (G, I, J, R) K ↔ G.2.2 a = (0, 10) ∧ tm_A d 142 4 ls (tm_rf (R a 20) :: st) (G, I, J, R) K := tm_getR o142_1
theorem o142_4 : tm_op 142 4 = some (.aload_n 0, (0, 0, 0, 0)) := rfl
theorem r142_4 (d : Nat) (v : Nat) (l1 : Option Value) (st : List Value) (h : tm_H) (K : Option Value → tm_H → Prop) : tm_A d 142 4 [some (.ref v), l1] st h K ↔ tm_A d 142 5 [some (.ref v), l1] (.ref v :: st) h K := tm_s o142_4 rfl rfl rfl
theorem o142_5 : tm_op 142 5 = some (.getfield 59, (2, 10, 25, 0)) := rfl
theorem r142_5 (d : Nat) (a : Nat) (ls : tm_Lo) (st : List Value) (G : tm_G) (I : Nat → Nat → Int32) (J : Nat → Nat → Int64) (R : Nat → Nat → Option Nat) (K : Option Value → tm_H → Prop) : tm_A d 142 5 ls (.ref a :: st) (G, I, J, R) K ↔ G.2.2 a = (0, 10) ∧ tm_A d 142 8 ls (tm_rf (R a 25) :: st) (G, I, J, R) K := tm_getR o142_5
theorem o142_8 : tm_op 142 8 = some (.iconst 5, (0, 0, 0, 0)) := rfl
theorem r142_8 (d : Nat) (ls : tm_Lo) (st : List Value) (h : tm_H) (K : Option Value → tm_H → Prop) : tm_A d 142 8 ls st h K ↔ tm_A d 142 9 ls (.int (5 : Int32) :: st) h K := tm_ic o142_8 (by decide)
theorem o142_9 : tm_op 142 9 = some (.iload_n 1, (0, 0, 0, 0)) := rfl
theorem r142_9 (d : Nat) (v : Int32) (l0 : Option Value) (st : List Value) (h : tm_H) (K : Option Value → tm_H → Prop) : tm_A d 142 9 [l0, some (.int v)] st h K ↔ tm_A d 142 10 [l0, some (.int v)] (.int v :: st) h K := tm_s o142_9 rfl rfl rfl
theorem o142_10 : tm_op 142 10 = some (.imul, (0, 0, 0, 0)) := rfl
theorem r142_10 (d : Nat) (u v : Int32) (ls : tm_Lo) (st : List Value) (h : tm_H) (K : Option Value → tm_H → Prop) : tm_A d 142 10 ls (.int u :: .int v :: st) h K ↔ tm_A d 142 11 ls (.int (v * u) :: st) h K := tm_s o142_10 rfl rfl rfl
theorem o142_11 : tm_op 142 11 = some (.iconst 2, (0, 0, 0, 0)) := rfl
theorem r142_11 (d : Nat) (ls : tm_Lo) (st : List Value) (h : tm_H) (K : Option Value → tm_H → Prop) : tm_A d 142 11 ls st h K ↔ tm_A d 142 12 ls (.int (2 : Int32) :: st) h K := tm_ic o142_11 (by decide)
theorem o142_12 : tm_op 142 12 = some (.iadd, (0, 0, 0, 0)) := rfl
theorem r142_12 (d : Nat) (u v : Int32) (ls : tm_Lo) (st : List Value) (h : tm_H) (K : Option Value → tm_H → Prop) : tm_A d 142 12 ls (.int u :: .int v :: st) h K ↔ tm_A d 142 13 ls (.int (v + u) :: st) h K := tm_s o142_12 rfl rfl rfl
theorem o142_13 : tm_op 142 13 = some (.iaload, (0, 0, 0, 0)) := rfl
theorem r142_13 (d : Nat) (v : Int32) (a : Nat) (ls : tm_Lo) (st : List Value) (G : tm_G) (I : Nat → Nat → Int32) (J : Nat → Nat → Int64) (R : Nat → Nat → Option Nat) (K : Option Value → tm_H → Prop) : tm_A d 142 13 ls (.int v :: .ref a :: st) (G, I, J, R) K ↔ ((G.2.2 a).1 = 1 ∧ tm_in v (G.2.2 a).2) ∧ tm_A d 142 14 ls (.int (I a (tm_ix v)) :: st) (G, I, J, R) K := tm_iald o142_13
theorem o142_14 : tm_op 142 14 = some (.iaload, (0, 0, 0, 0)) := rfl
theorem r142_14 (d : Nat) (v : Int32) (a : Nat) (ls : tm_Lo) (st : List Value) (G : tm_G) (I : Nat → Nat → Int32) (J : Nat → Nat → Int64) (R : Nat → Nat → Option Nat) (K : Option Value → tm_H → Prop) : tm_A d 142 14 ls (.int v :: .ref a :: st) (G, I, J, R) K ↔ ((G.2.2 a).1 = 1 ∧ tm_in v (G.2.2 a).2) ∧ tm_A d 142 15 ls (.int (I a (tm_ix v)) :: st) (G, I, J, R) K := tm_iald o142_14
theorem o142_15 : tm_op 142 15 = some (.ireturn, (0, 0, 0, 0)) := rfl
theorem r142_15 (d : Nat) (v : Int32) (ls : tm_Lo) (h : tm_H) (K : Option Value → tm_H → Prop) : tm_A d 142 15 ls [.int v] h K ↔ K (some (.int v)) h := tm_reti o142_15 rfl
theorem o143_0 : tm_op 143 0 = some (.aload_n 0, (0, 0, 0, 0)) := rfl
theorem r143_0 (d : Nat) (v : Nat) (l1 l2 l3 l4 : Option Value) (st : List Value) (h : tm_H) (K : Option Value → tm_H → Prop) : tm_A d 143 0 [some (.ref v), l1, l2, l3, l4] st h K ↔ tm_A d 143 1 [some (.ref v), l1, l2, l3, l4] (.ref v :: st) h K := tm_s o143_0 rfl rfl rfl
theorem o143_1 : tm_op 143 1 = some (.iload_n 1, (0, 0, 0, 0)) := rfl
theorem r143_1 (d : Nat) (v : Int32) (l0 l2 l3 l4 : Option Value) (st : List Value) (h : tm_H) (K : Option Value → tm_H → Prop) : tm_A d 143 1 [l0, some (.int v), l2, l3, l4] st h K ↔ tm_A d 143 2 [l0, some (.int v), l2, l3, l4] (.int v :: st) h K := tm_s o143_1 rfl rfl rfl
theorem o143_2 : tm_op 143 2 = some (.iload_n 3, (0, 0, 0, 0)) := rfl
theorem r143_2 (d : Nat) (v : Int32) (l0 l1 l2 l4 : Option Value) (st : List Value) (h : tm_H) (K : Option Value → tm_H → Prop) : tm_A d 143 2 [l0, l1, l2, some (.int v), l4] st h K ↔ tm_A d 143 3 [l0, l1, l2, some (.int v), l4] (.int v :: st) h K := tm_s o143_2 rfl rfl rfl
theorem o143_3 : tm_op 143 3 = some (.invokevirtual 166, (2, 138, 3, 10)) := rfl
theorem r143_3 (d : Nat) (v1 : Int32) (v2 : Int32) (a : Nat) (ls : tm_Lo) (st : List Value) (h : tm_H) (K : Option Value → tm_H → Prop) : tm_A (d + 1) 143 3 ls (.int v2 :: .int v1 :: .ref a :: st) h K ↔ (h.1.2.2 a = (0, 10) ∧ tm_cs st) ∧ tm_R d 138 [.ref a, .int v1, .int v2] h (fun r h' => tm_A (d + 1) 143 6 ls (r.toList ++ st) h' K) := tm_callV (as := [.int v1, .int v2]) o143_3 rfl rfl rfl rfl
theorem o143_6 : tm_op 143 6 = some (.ifCond .eq 12, (0, 0, 0, 0)) := rfl
theorem r143_6 (d : Nat) (x : Int32) (ls : tm_Lo) (st : List Value) (h : tm_H) (K : Option Value → tm_H → Prop) : tm_A d 143 6 ls (.int x :: st) h K ↔ if x = 0 then tm_A d 143 18 ls st h K else tm_A d 143 9 ls st h K := tm_b o143_6 rfl rfl rfl rfl
theorem o143_9 : tm_op 143 9 = some (.iload_n 2, (0, 0, 0, 0)) := rfl
theorem r143_9 (d : Nat) (v : Int32) (l0 l1 l3 l4 : Option Value) (st : List Value) (h : tm_H) (K : Option Value → tm_H → Prop) : tm_A d 143 9 [l0, l1, some (.int v), l3, l4] st h K ↔ tm_A d 143 10 [l0, l1, some (.int v), l3, l4] (.int v :: st) h K := tm_s o143_9 rfl rfl rfl
theorem o143_10 : tm_op 143 10 = some (.iconst 0, (0, 0, 0, 0)) := rfl
theorem r143_10 (d : Nat) (ls : tm_Lo) (st : List Value) (h : tm_H) (K : Option Value → tm_H → Prop) : tm_A d 143 10 ls st h K ↔ tm_A d 143 11 ls (.int (0 : Int32) :: st) h K := tm_ic o143_10 (by decide)
theorem o143_11 : tm_op 143 11 = some (.iconst 4, (0, 0, 0, 0)) := rfl
theorem r143_11 (d : Nat) (ls : tm_Lo) (st : List Value) (h : tm_H) (K : Option Value → tm_H → Prop) : tm_A d 143 11 ls st h K ↔ tm_A d 143 12 ls (.int (4 : Int32) :: st) h K := tm_ic o143_11 (by decide)
theorem o143_12 : tm_op 143 12 = some (.invokestatic 83, (1, 117, 3, 0)) := rfl
theorem r143_12 (d : Nat) (v0 : Int32) (v1 : Int32) (v2 : Int32) (ls : tm_Lo) (st : List Value) (h : tm_H) (K : Option Value → tm_H → Prop) : tm_A (d + 1) 143 12 ls (.int v2 :: .int v1 :: .int v0 :: st) h K ↔ tm_cs st ∧ tm_R d 117 [.int v0, .int v1, .int v2] h (fun r h' => tm_A (d + 1) 143 15 ls (r.toList ++ st) h' K) := tm_callS (as := [.int v0, .int v1, .int v2]) o143_12 rfl rfl rfl rfl
theorem o143_15 : tm_op 143 15 = some (.ifCond .ne 5, (0, 0, 0, 0)) := rfl
theorem r143_15 (d : Nat) (x : Int32) (ls : tm_Lo) (st : List Value) (h : tm_H) (K : Option Value → tm_H → Prop) : tm_A d 143 15 ls (.int x :: st) h K ↔ if ¬ x = 0 then tm_A d 143 20 ls st h K else tm_A d 143 18 ls st h K := tm_b o143_15 rfl rfl rfl rfl
theorem o143_18 : tm_op 143 18 = some (.iconst (-1), (0, 0, 0, 0)) := rfl
theorem r143_18 (d : Nat) (ls : tm_Lo) (st : List Value) (h : tm_H) (K : Option Value → tm_H → Prop) : tm_A d 143 18 ls st h K ↔ tm_A d 143 19 ls (.int (-1 : Int32) :: st) h K := tm_ic o143_18 (by decide)
theorem o143_19 : tm_op 143 19 = some (.ireturn, (0, 0, 0, 0)) := rfl
theorem r143_19 (d : Nat) (v : Int32) (ls : tm_Lo) (h : tm_H) (K : Option Value → tm_H → Prop) : tm_A d 143 19 ls [.int v] h K ↔ K (some (.int v)) h := tm_reti o143_19 rfl
theorem o143_20 : tm_op 143 20 = some (.aload_n 0, (0, 0, 0, 0)) := rfl
theorem r143_20 (d : Nat) (v : Nat) (l1 l2 l3 l4 : Option Value) (st : List Value) (h : tm_H) (K : Option Value → tm_H → Prop) : tm_A d 143 20 [some (.ref v), l1, l2, l3, l4] st h K ↔ tm_A d 143 21 [some (.ref v), l1, l2, l3, l4] (.ref v :: st) h K := tm_s o143_20 rfl rfl rfl
theorem o143_21 : tm_op 143 21 = some (.iload_n 1, (0, 0, 0, 0)) := rfl
theorem r143_21 (d : Nat) (v : Int32) (l0 l2 l3 l4 : Option Value) (st : List Value) (h : tm_H) (K : Option Value → tm_H → Prop) : tm_A d 143 21 [l0, some (.int v), l2, l3, l4] st h K ↔ tm_A d 143 22 [l0, some (.int v), l2, l3, l4] (.int v :: st) h K := tm_s o143_21 rfl rfl rfl
theorem o143_22 : tm_op 143 22 = some (.iload_n 2, (0, 0, 0, 0)) := rfl
theorem r143_22 (d : Nat) (v : Int32) (l0 l1 l3 l4 : Option Value) (st : List Value) (h : tm_H) (K : Option Value → tm_H → Prop) : tm_A d 143 22 [l0, l1, some (.int v), l3, l4] st h K ↔ tm_A d 143 23 [l0, l1, some (.int v), l3, l4] (.int v :: st) h K := tm_s o143_22 rfl rfl rfl
theorem o143_23 : tm_op 143 23 = some (.iload_n 3, (0, 0, 0, 0)) := rfl
theorem r143_23 (d : Nat) (v : Int32) (l0 l1 l2 l4 : Option Value) (st : List Value) (h : tm_H) (K : Option Value → tm_H → Prop) : tm_A d 143 23 [l0, l1, l2, some (.int v), l4] st h K ↔ tm_A d 143 24 [l0, l1, l2, some (.int v), l4] (.int v :: st) h K := tm_s o143_23 rfl rfl rfl
theorem o143_24 : tm_op 143 24 = some (.invokevirtual 162, (2, 137, 4, 10)) := rfl
theorem r143_24 (d : Nat) (v1 : Int32) (v2 : Int32) (v3 : Int32) (a : Nat) (ls : tm_Lo) (st : List Value) (h : tm_H) (K : Option Value → tm_H → Prop) : tm_A (d + 1) 143 24 ls (.int v3 :: .int v2 :: .int v1 :: .ref a :: st) h K ↔ (h.1.2.2 a = (0, 10) ∧ tm_cs st) ∧ tm_R d 137 [.ref a, .int v1, .int v2, .int v3] h (fun r h' => tm_A (d + 1) 143 27 ls (r.toList ++ st) h' K) := tm_callV (as := [.int v1, .int v2, .int v3]) o143_24 rfl rfl rfl rfl
theorem o143_27 : tm_op 143 27 = some (.istore 4, (0, 0, 0, 0)) := rfl
theorem r143_27 (d : Nat) (v : Int32) (l0 l1 l2 l3 l4 : Option Value) (st : List Value) (h : tm_H) (K : Option Value → tm_H → Prop) : tm_A d 143 27 [l0, l1, l2, l3, l4] (.int v :: st) h K ↔ tm_A d 143 29 [l0, l1, l2, l3, some (.int v)] st h K := tm_s o143_27 rfl rfl rfl
theorem o143_29 : tm_op 143 29 = some (.iload 4, (0, 0, 0, 0)) := rfl
theorem r143_29 (d : Nat) (v : Int32) (l0 l1 l2 l3 : Option Value) (st : List Value) (h : tm_H) (K : Option Value → tm_H → Prop) : tm_A d 143 29 [l0, l1, l2, l3, some (.int v)] st h K ↔ tm_A d 143 31 [l0, l1, l2, l3, some (.int v)] (.int v :: st) h K := tm_s o143_29 rfl rfl rfl
theorem o143_31 : tm_op 143 31 = some (.iconst (-1), (0, 0, 0, 0)) := rfl
theorem r143_31 (d : Nat) (ls : tm_Lo) (st : List Value) (h : tm_H) (K : Option Value → tm_H → Prop) : tm_A d 143 31 ls st h K ↔ tm_A d 143 32 ls (.int (-1 : Int32) :: st) h K := tm_ic o143_31 (by decide)
theorem o143_32 : tm_op 143 32 = some (.if_icmp .ne 5, (0, 0, 0, 0)) := rfl
theorem r143_32 (d : Nat) (y x : Int32) (ls : tm_Lo) (st : List Value) (h : tm_H) (K : Option Value → tm_H → Prop) : tm_A d 143 32 ls (.int y :: .int x :: st) h K ↔ if ¬ x = y then tm_A d 143 37 ls st h K else tm_A d 143 35 ls st h K := tm_b o143_32 rfl rfl rfl rfl
theorem o143_35 : tm_op 143 35 = some (.iconst (-1), (0, 0, 0, 0)) := rfl
theorem r143_35 (d : Nat) (ls : tm_Lo) (st : List Value) (h : tm_H) (K : Option Value → tm_H → Prop) : tm_A d 143 35 ls st h K ↔ tm_A d 143 36 ls (.int (-1 : Int32) :: st) h K := tm_ic o143_35 (by decide)
theorem o143_36 : tm_op 143 36 = some (.ireturn, (0, 0, 0, 0)) := rfl
theorem r143_36 (d : Nat) (v : Int32) (ls : tm_Lo) (h : tm_H) (K : Option Value → tm_H → Prop) : tm_A d 143 36 ls [.int v] h K ↔ K (some (.int v)) h := tm_reti o143_36 rfl
theorem o143_37 : tm_op 143 37 = some (.iload_n 2, (0, 0, 0, 0)) := rfl
theorem r143_37 (d : Nat) (v : Int32) (l0 l1 l3 l4 : Option Value) (st : List Value) (h : tm_H) (K : Option Value → tm_H → Prop) : tm_A d 143 37 [l0, l1, some (.int v), l3, l4] st h K ↔ tm_A d 143 38 [l0, l1, some (.int v), l3, l4] (.int v :: st) h K := tm_s o143_37 rfl rfl rfl
theorem o143_38 : tm_op 143 38 = some (.iconst 3, (0, 0, 0, 0)) := rfl
theorem r143_38 (d : Nat) (ls : tm_Lo) (st : List Value) (h : tm_H) (K : Option Value → tm_H → Prop) : tm_A d 143 38 ls st h K ↔ tm_A d 143 39 ls (.int (3 : Int32) :: st) h K := tm_ic o143_38 (by decide)
theorem o143_39 : tm_op 143 39 = some (.if_icmp .ne 13, (0, 0, 0, 0)) := rfl
theorem r143_39 (d : Nat) (y x : Int32) (ls : tm_Lo) (st : List Value) (h : tm_H) (K : Option Value → tm_H → Prop) : tm_A d 143 39 ls (.int y :: .int x :: st) h K ↔ if ¬ x = y then tm_A d 143 52 ls st h K else tm_A d 143 42 ls st h K := tm_b o143_39 rfl rfl rfl rfl
theorem o143_42 : tm_op 143 42 = some (.aload_n 0, (0, 0, 0, 0)) := rfl
theorem r143_42 (d : Nat) (v : Nat) (l1 l2 l3 l4 : Option Value) (st : List Value) (h : tm_H) (K : Option Value → tm_H → Prop) : tm_A d 143 42 [some (.ref v), l1, l2, l3, l4] st h K ↔ tm_A d 143 43 [some (.ref v), l1, l2, l3, l4] (.ref v :: st) h K := tm_s o143_42 rfl rfl rfl
theorem o143_43 : tm_op 143 43 = some (.getfield 47, (2, 10, 21, 0)) := rfl
theorem r143_43 (d : Nat) (a : Nat) (ls : tm_Lo) (st : List Value) (G : tm_G) (I : Nat → Nat → Int32) (J : Nat → Nat → Int64) (R : Nat → Nat → Option Nat) (K : Option Value → tm_H → Prop) : tm_A d 143 43 ls (.ref a :: st) (G, I, J, R) K ↔ G.2.2 a = (0, 10) ∧ tm_A d 143 46 ls (tm_rf (R a 21) :: st) (G, I, J, R) K := tm_getR o143_43
theorem o143_46 : tm_op 143 46 = some (.iload 4, (0, 0, 0, 0)) := rfl
theorem r143_46 (d : Nat) (v : Int32) (l0 l1 l2 l3 : Option Value) (st : List Value) (h : tm_H) (K : Option Value → tm_H → Prop) : tm_A d 143 46 [l0, l1, l2, l3, some (.int v)] st h K ↔ tm_A d 143 48 [l0, l1, l2, l3, some (.int v)] (.int v :: st) h K := tm_s o143_46 rfl rfl rfl
theorem o143_48 : tm_op 143 48 = some (.iaload, (0, 0, 0, 0)) := rfl
theorem r143_48 (d : Nat) (v : Int32) (a : Nat) (ls : tm_Lo) (st : List Value) (G : tm_G) (I : Nat → Nat → Int32) (J : Nat → Nat → Int64) (R : Nat → Nat → Option Nat) (K : Option Value → tm_H → Prop) : tm_A d 143 48 ls (.int v :: .ref a :: st) (G, I, J, R) K ↔ ((G.2.2 a).1 = 1 ∧ tm_in v (G.2.2 a).2) ∧ tm_A d 143 49 ls (.int (I a (tm_ix v)) :: st) (G, I, J, R) K := tm_iald o143_48
theorem o143_49 : tm_op 143 49 = some (.goto 14, (0, 0, 0, 0)) := rfl
theorem r143_49 (d : Nat) (ls : tm_Lo) (st : List Value) (h : tm_H) (K : Option Value → tm_H → Prop) : tm_A d 143 49 ls st h K ↔ tm_A d 143 63 ls st h K := tm_s o143_49 rfl rfl rfl
theorem o143_52 : tm_op 143 52 = some (.aload_n 0, (0, 0, 0, 0)) := rfl
theorem r143_52 (d : Nat) (v : Nat) (l1 l2 l3 l4 : Option Value) (st : List Value) (h : tm_H) (K : Option Value → tm_H → Prop) : tm_A d 143 52 [some (.ref v), l1, l2, l3, l4] st h K ↔ tm_A d 143 53 [some (.ref v), l1, l2, l3, l4] (.ref v :: st) h K := tm_s o143_52 rfl rfl rfl
theorem o143_53 : tm_op 143 53 = some (.getfield 41, (2, 10, 19, 0)) := rfl
theorem r143_53 (d : Nat) (a : Nat) (ls : tm_Lo) (st : List Value) (G : tm_G) (I : Nat → Nat → Int32) (J : Nat → Nat → Int64) (R : Nat → Nat → Option Nat) (K : Option Value → tm_H → Prop) : tm_A d 143 53 ls (.ref a :: st) (G, I, J, R) K ↔ G.2.2 a = (0, 10) ∧ tm_A d 143 56 ls (tm_rf (R a 19) :: st) (G, I, J, R) K := tm_getR o143_53
theorem o143_56 : tm_op 143 56 = some (.iconst 5, (0, 0, 0, 0)) := rfl
theorem r143_56 (d : Nat) (ls : tm_Lo) (st : List Value) (h : tm_H) (K : Option Value → tm_H → Prop) : tm_A d 143 56 ls st h K ↔ tm_A d 143 57 ls (.int (5 : Int32) :: st) h K := tm_ic o143_56 (by decide)
theorem o143_57 : tm_op 143 57 = some (.iload 4, (0, 0, 0, 0)) := rfl
theorem r143_57 (d : Nat) (v : Int32) (l0 l1 l2 l3 : Option Value) (st : List Value) (h : tm_H) (K : Option Value → tm_H → Prop) : tm_A d 143 57 [l0, l1, l2, l3, some (.int v)] st h K ↔ tm_A d 143 59 [l0, l1, l2, l3, some (.int v)] (.int v :: st) h K := tm_s o143_57 rfl rfl rfl
theorem o143_59 : tm_op 143 59 = some (.imul, (0, 0, 0, 0)) := rfl
theorem r143_59 (d : Nat) (u v : Int32) (ls : tm_Lo) (st : List Value) (h : tm_H) (K : Option Value → tm_H → Prop) : tm_A d 143 59 ls (.int u :: .int v :: st) h K ↔ tm_A d 143 60 ls (.int (v * u) :: st) h K := tm_s o143_59 rfl rfl rfl
theorem o143_60 : tm_op 143 60 = some (.iload_n 2, (0, 0, 0, 0)) := rfl
theorem r143_60 (d : Nat) (v : Int32) (l0 l1 l3 l4 : Option Value) (st : List Value) (h : tm_H) (K : Option Value → tm_H → Prop) : tm_A d 143 60 [l0, l1, some (.int v), l3, l4] st h K ↔ tm_A d 143 61 [l0, l1, some (.int v), l3, l4] (.int v :: st) h K := tm_s o143_60 rfl rfl rfl
theorem o143_61 : tm_op 143 61 = some (.iadd, (0, 0, 0, 0)) := rfl
theorem r143_61 (d : Nat) (u v : Int32) (ls : tm_Lo) (st : List Value) (h : tm_H) (K : Option Value → tm_H → Prop) : tm_A d 143 61 ls (.int u :: .int v :: st) h K ↔ tm_A d 143 62 ls (.int (v + u) :: st) h K := tm_s o143_61 rfl rfl rfl
theorem o143_62 : tm_op 143 62 = some (.iaload, (0, 0, 0, 0)) := rfl
theorem r143_62 (d : Nat) (v : Int32) (a : Nat) (ls : tm_Lo) (st : List Value) (G : tm_G) (I : Nat → Nat → Int32) (J : Nat → Nat → Int64) (R : Nat → Nat → Option Nat) (K : Option Value → tm_H → Prop) : tm_A d 143 62 ls (.int v :: .ref a :: st) (G, I, J, R) K ↔ ((G.2.2 a).1 = 1 ∧ tm_in v (G.2.2 a).2) ∧ tm_A d 143 63 ls (.int (I a (tm_ix v)) :: st) (G, I, J, R) K := tm_iald o143_62
theorem o143_63 : tm_op 143 63 = some (.ireturn, (0, 0, 0, 0)) := rfl
theorem r143_63 (d : Nat) (v : Int32) (ls : tm_Lo) (h : tm_H) (K : Option Value → tm_H → Prop) : tm_A d 143 63 ls [.int v] h K ↔ K (some (.int v)) h := tm_reti o143_63 rfl
theorem o144_0 : tm_op 144 0 = some (.aload_n 0, (0, 0, 0, 0)) := rfl
theorem r144_0 (d : Nat) (v : Nat) (l1 l2 l3 : Option Value) (st : List Value) (h : tm_H) (K : Option Value → tm_H → Prop) : tm_A d 144 0 [some (.ref v), l1, l2, l3] st h K ↔ tm_A d 144 1 [some (.ref v), l1, l2, l3] (.ref v :: st) h K := tm_s o144_0 rfl rfl rfl
theorem o144_1 : tm_op 144 1 = some (.iload_n 1, (0, 0, 0, 0)) := rfl
theorem r144_1 (d : Nat) (v : Int32) (l0 l2 l3 : Option Value) (st : List Value) (h : tm_H) (K : Option Value → tm_H → Prop) : tm_A d 144 1 [l0, some (.int v), l2, l3] st h K ↔ tm_A d 144 2 [l0, some (.int v), l2, l3] (.int v :: st) h K := tm_s o144_1 rfl rfl rfl
theorem o144_2 : tm_op 144 2 = some (.iload_n 2, (0, 0, 0, 0)) := rfl
theorem r144_2 (d : Nat) (v : Int32) (l0 l1 l3 : Option Value) (st : List Value) (h : tm_H) (K : Option Value → tm_H → Prop) : tm_A d 144 2 [l0, l1, some (.int v), l3] st h K ↔ tm_A d 144 3 [l0, l1, some (.int v), l3] (.int v :: st) h K := tm_s o144_2 rfl rfl rfl
theorem o144_3 : tm_op 144 3 = some (.invokevirtual 166, (2, 138, 3, 10)) := rfl
theorem r144_3 (d : Nat) (v1 : Int32) (v2 : Int32) (a : Nat) (ls : tm_Lo) (st : List Value) (h : tm_H) (K : Option Value → tm_H → Prop) : tm_A (d + 1) 144 3 ls (.int v2 :: .int v1 :: .ref a :: st) h K ↔ (h.1.2.2 a = (0, 10) ∧ tm_cs st) ∧ tm_R d 138 [.ref a, .int v1, .int v2] h (fun r h' => tm_A (d + 1) 144 6 ls (r.toList ++ st) h' K) := tm_callV (as := [.int v1, .int v2]) o144_3 rfl rfl rfl rfl
theorem o144_6 : tm_op 144 6 = some (.ifCond .ne 5, (0, 0, 0, 0)) := rfl
theorem r144_6 (d : Nat) (x : Int32) (ls : tm_Lo) (st : List Value) (h : tm_H) (K : Option Value → tm_H → Prop) : tm_A d 144 6 ls (.int x :: st) h K ↔ if ¬ x = 0 then tm_A d 144 11 ls st h K else tm_A d 144 9 ls st h K := tm_b o144_6 rfl rfl rfl rfl
theorem o144_9 : tm_op 144 9 = some (.iconst (-1), (0, 0, 0, 0)) := rfl
theorem r144_9 (d : Nat) (ls : tm_Lo) (st : List Value) (h : tm_H) (K : Option Value → tm_H → Prop) : tm_A d 144 9 ls st h K ↔ tm_A d 144 10 ls (.int (-1 : Int32) :: st) h K := tm_ic o144_9 (by decide)
theorem o144_10 : tm_op 144 10 = some (.ireturn, (0, 0, 0, 0)) := rfl
theorem r144_10 (d : Nat) (v : Int32) (ls : tm_Lo) (h : tm_H) (K : Option Value → tm_H → Prop) : tm_A d 144 10 ls [.int v] h K ↔ K (some (.int v)) h := tm_reti o144_10 rfl
theorem o144_11 : tm_op 144 11 = some (.aload_n 0, (0, 0, 0, 0)) := rfl
theorem r144_11 (d : Nat) (v : Nat) (l1 l2 l3 : Option Value) (st : List Value) (h : tm_H) (K : Option Value → tm_H → Prop) : tm_A d 144 11 [some (.ref v), l1, l2, l3] st h K ↔ tm_A d 144 12 [some (.ref v), l1, l2, l3] (.ref v :: st) h K := tm_s o144_11 rfl rfl rfl
theorem o144_12 : tm_op 144 12 = some (.iload_n 1, (0, 0, 0, 0)) := rfl
theorem r144_12 (d : Nat) (v : Int32) (l0 l2 l3 : Option Value) (st : List Value) (h : tm_H) (K : Option Value → tm_H → Prop) : tm_A d 144 12 [l0, some (.int v), l2, l3] st h K ↔ tm_A d 144 13 [l0, some (.int v), l2, l3] (.int v :: st) h K := tm_s o144_12 rfl rfl rfl
theorem o144_13 : tm_op 144 13 = some (.iconst 2, (0, 0, 0, 0)) := rfl
theorem r144_13 (d : Nat) (ls : tm_Lo) (st : List Value) (h : tm_H) (K : Option Value → tm_H → Prop) : tm_A d 144 13 ls st h K ↔ tm_A d 144 14 ls (.int (2 : Int32) :: st) h K := tm_ic o144_13 (by decide)
theorem o144_14 : tm_op 144 14 = some (.iload_n 2, (0, 0, 0, 0)) := rfl
theorem r144_14 (d : Nat) (v : Int32) (l0 l1 l3 : Option Value) (st : List Value) (h : tm_H) (K : Option Value → tm_H → Prop) : tm_A d 144 14 [l0, l1, some (.int v), l3] st h K ↔ tm_A d 144 15 [l0, l1, some (.int v), l3] (.int v :: st) h K := tm_s o144_14 rfl rfl rfl
theorem o144_15 : tm_op 144 15 = some (.invokevirtual 162, (2, 137, 4, 10)) := rfl
theorem r144_15 (d : Nat) (v1 : Int32) (v2 : Int32) (v3 : Int32) (a : Nat) (ls : tm_Lo) (st : List Value) (h : tm_H) (K : Option Value → tm_H → Prop) : tm_A (d + 1) 144 15 ls (.int v3 :: .int v2 :: .int v1 :: .ref a :: st) h K ↔ (h.1.2.2 a = (0, 10) ∧ tm_cs st) ∧ tm_R d 137 [.ref a, .int v1, .int v2, .int v3] h (fun r h' => tm_A (d + 1) 144 18 ls (r.toList ++ st) h' K) := tm_callV (as := [.int v1, .int v2, .int v3]) o144_15 rfl rfl rfl rfl
theorem o144_18 : tm_op 144 18 = some (.istore_n 3, (0, 0, 0, 0)) := rfl
theorem r144_18 (d : Nat) (v : Int32) (l0 l1 l2 l3 : Option Value) (st : List Value) (h : tm_H) (K : Option Value → tm_H → Prop) : tm_A d 144 18 [l0, l1, l2, l3] (.int v :: st) h K ↔ tm_A d 144 19 [l0, l1, l2, some (.int v)] st h K := tm_s o144_18 rfl rfl rfl
theorem o144_19 : tm_op 144 19 = some (.iload_n 3, (0, 0, 0, 0)) := rfl
theorem r144_19 (d : Nat) (v : Int32) (l0 l1 l2 : Option Value) (st : List Value) (h : tm_H) (K : Option Value → tm_H → Prop) : tm_A d 144 19 [l0, l1, l2, some (.int v)] st h K ↔ tm_A d 144 20 [l0, l1, l2, some (.int v)] (.int v :: st) h K := tm_s o144_19 rfl rfl rfl
theorem o144_20 : tm_op 144 20 = some (.iconst (-1), (0, 0, 0, 0)) := rfl
theorem r144_20 (d : Nat) (ls : tm_Lo) (st : List Value) (h : tm_H) (K : Option Value → tm_H → Prop) : tm_A d 144 20 ls st h K ↔ tm_A d 144 21 ls (.int (-1 : Int32) :: st) h K := tm_ic o144_20 (by decide)
theorem o144_21 : tm_op 144 21 = some (.if_icmp .ne 7, (0, 0, 0, 0)) := rfl
theorem r144_21 (d : Nat) (y x : Int32) (ls : tm_Lo) (st : List Value) (h : tm_H) (K : Option Value → tm_H → Prop) : tm_A d 144 21 ls (.int y :: .int x :: st) h K ↔ if ¬ x = y then tm_A d 144 28 ls st h K else tm_A d 144 24 ls st h K := tm_b o144_21 rfl rfl rfl rfl
theorem o144_24 : tm_op 144 24 = some (.iconst (-1), (0, 0, 0, 0)) := rfl
theorem r144_24 (d : Nat) (ls : tm_Lo) (st : List Value) (h : tm_H) (K : Option Value → tm_H → Prop) : tm_A d 144 24 ls st h K ↔ tm_A d 144 25 ls (.int (-1 : Int32) :: st) h K := tm_ic o144_24 (by decide)
theorem o144_25 : tm_op 144 25 = some (.goto 9, (0, 0, 0, 0)) := rfl
theorem r144_25 (d : Nat) (ls : tm_Lo) (st : List Value) (h : tm_H) (K : Option Value → tm_H → Prop) : tm_A d 144 25 ls st h K ↔ tm_A d 144 34 ls st h K := tm_s o144_25 rfl rfl rfl
theorem o144_28 : tm_op 144 28 = some (.aload_n 0, (0, 0, 0, 0)) := rfl
theorem r144_28 (d : Nat) (v : Nat) (l1 l2 l3 : Option Value) (st : List Value) (h : tm_H) (K : Option Value → tm_H → Prop) : tm_A d 144 28 [some (.ref v), l1, l2, l3] st h K ↔ tm_A d 144 29 [some (.ref v), l1, l2, l3] (.ref v :: st) h K := tm_s o144_28 rfl rfl rfl
theorem o144_29 : tm_op 144 29 = some (.getfield 44, (2, 10, 20, 0)) := rfl
theorem r144_29 (d : Nat) (a : Nat) (ls : tm_Lo) (st : List Value) (G : tm_G) (I : Nat → Nat → Int32) (J : Nat → Nat → Int64) (R : Nat → Nat → Option Nat) (K : Option Value → tm_H → Prop) : tm_A d 144 29 ls (.ref a :: st) (G, I, J, R) K ↔ G.2.2 a = (0, 10) ∧ tm_A d 144 32 ls (tm_rf (R a 20) :: st) (G, I, J, R) K := tm_getR o144_29
theorem o144_32 : tm_op 144 32 = some (.iload_n 3, (0, 0, 0, 0)) := rfl
theorem r144_32 (d : Nat) (v : Int32) (l0 l1 l2 : Option Value) (st : List Value) (h : tm_H) (K : Option Value → tm_H → Prop) : tm_A d 144 32 [l0, l1, l2, some (.int v)] st h K ↔ tm_A d 144 33 [l0, l1, l2, some (.int v)] (.int v :: st) h K := tm_s o144_32 rfl rfl rfl
theorem o144_33 : tm_op 144 33 = some (.iaload, (0, 0, 0, 0)) := rfl
theorem r144_33 (d : Nat) (v : Int32) (a : Nat) (ls : tm_Lo) (st : List Value) (G : tm_G) (I : Nat → Nat → Int32) (J : Nat → Nat → Int64) (R : Nat → Nat → Option Nat) (K : Option Value → tm_H → Prop) : tm_A d 144 33 ls (.int v :: .ref a :: st) (G, I, J, R) K ↔ ((G.2.2 a).1 = 1 ∧ tm_in v (G.2.2 a).2) ∧ tm_A d 144 34 ls (.int (I a (tm_ix v)) :: st) (G, I, J, R) K := tm_iald o144_33
theorem o144_34 : tm_op 144 34 = some (.ireturn, (0, 0, 0, 0)) := rfl
theorem r144_34 (d : Nat) (v : Int32) (ls : tm_Lo) (h : tm_H) (K : Option Value → tm_H → Prop) : tm_A d 144 34 ls [.int v] h K ↔ K (some (.int v)) h := tm_reti o144_34 rfl
theorem o145_0 : tm_op 145 0 = some (.aload_n 0, (0, 0, 0, 0)) := rfl
theorem r145_0 (d : Nat) (v : Nat) (l1 l2 l3 l4 l5 : Option Value) (st : List Value) (h : tm_H) (K : Option Value → tm_H → Prop) : tm_A d 145 0 [some (.ref v), l1, l2, l3, l4, l5] st h K ↔ tm_A d 145 1 [some (.ref v), l1, l2, l3, l4, l5] (.ref v :: st) h K := tm_s o145_0 rfl rfl rfl
theorem o145_1 : tm_op 145 1 = some (.iload_n 1, (0, 0, 0, 0)) := rfl
theorem r145_1 (d : Nat) (v : Int32) (l0 l2 l3 l4 l5 : Option Value) (st : List Value) (h : tm_H) (K : Option Value → tm_H → Prop) : tm_A d 145 1 [l0, some (.int v), l2, l3, l4, l5] st h K ↔ tm_A d 145 2 [l0, some (.int v), l2, l3, l4, l5] (.int v :: st) h K := tm_s o145_1 rfl rfl rfl
theorem o145_2 : tm_op 145 2 = some (.iload 4, (0, 0, 0, 0)) := rfl
theorem r145_2 (d : Nat) (v : Int32) (l0 l1 l2 l3 l5 : Option Value) (st : List Value) (h : tm_H) (K : Option Value → tm_H → Prop) : tm_A d 145 2 [l0, l1, l2, l3, some (.int v), l5] st h K ↔ tm_A d 145 4 [l0, l1, l2, l3, some (.int v), l5] (.int v :: st) h K := tm_s o145_2 rfl rfl rfl
theorem o145_4 : tm_op 145 4 = some (.invokevirtual 166, (2, 138, 3, 10)) := rfl
theorem r145_4 (d : Nat) (v1 : Int32) (v2 : Int32) (a : Nat) (ls : tm_Lo) (st : List Value) (h : tm_H) (K : Option Value → tm_H → Prop) : tm_A (d + 1) 145 4 ls (.int v2 :: .int v1 :: .ref a :: st) h K ↔ (h.1.2.2 a = (0, 10) ∧ tm_cs st) ∧ tm_R d 138 [.ref a, .int v1, .int v2] h (fun r h' => tm_A (d + 1) 145 7 ls (r.toList ++ st) h' K) := tm_callV (as := [.int v1, .int v2]) o145_4 rfl rfl rfl rfl
theorem o145_7 : tm_op 145 7 = some (.ifCond .ne 5, (0, 0, 0, 0)) := rfl
theorem r145_7 (d : Nat) (x : Int32) (ls : tm_Lo) (st : List Value) (h : tm_H) (K : Option Value → tm_H → Prop) : tm_A d 145 7 ls (.int x :: st) h K ↔ if ¬ x = 0 then tm_A d 145 12 ls st h K else tm_A d 145 10 ls st h K := tm_b o145_7 rfl rfl rfl rfl
theorem o145_10 : tm_op 145 10 = some (.iconst (-1), (0, 0, 0, 0)) := rfl
theorem r145_10 (d : Nat) (ls : tm_Lo) (st : List Value) (h : tm_H) (K : Option Value → tm_H → Prop) : tm_A d 145 10 ls st h K ↔ tm_A d 145 11 ls (.int (-1 : Int32) :: st) h K := tm_ic o145_10 (by decide)
theorem o145_11 : tm_op 145 11 = some (.ireturn, (0, 0, 0, 0)) := rfl
theorem r145_11 (d : Nat) (v : Int32) (ls : tm_Lo) (h : tm_H) (K : Option Value → tm_H → Prop) : tm_A d 145 11 ls [.int v] h K ↔ K (some (.int v)) h := tm_reti o145_11 rfl
theorem o145_12 : tm_op 145 12 = some (.aload_n 0, (0, 0, 0, 0)) := rfl
theorem r145_12 (d : Nat) (v : Nat) (l1 l2 l3 l4 l5 : Option Value) (st : List Value) (h : tm_H) (K : Option Value → tm_H → Prop) : tm_A d 145 12 [some (.ref v), l1, l2, l3, l4, l5] st h K ↔ tm_A d 145 13 [some (.ref v), l1, l2, l3, l4, l5] (.ref v :: st) h K := tm_s o145_12 rfl rfl rfl
theorem o145_13 : tm_op 145 13 = some (.iload_n 1, (0, 0, 0, 0)) := rfl
theorem r145_13 (d : Nat) (v : Int32) (l0 l2 l3 l4 l5 : Option Value) (st : List Value) (h : tm_H) (K : Option Value → tm_H → Prop) : tm_A d 145 13 [l0, some (.int v), l2, l3, l4, l5] st h K ↔ tm_A d 145 14 [l0, some (.int v), l2, l3, l4, l5] (.int v :: st) h K := tm_s o145_13 rfl rfl rfl
theorem o145_14 : tm_op 145 14 = some (.iconst 3, (0, 0, 0, 0)) := rfl
theorem r145_14 (d : Nat) (ls : tm_Lo) (st : List Value) (h : tm_H) (K : Option Value → tm_H → Prop) : tm_A d 145 14 ls st h K ↔ tm_A d 145 15 ls (.int (3 : Int32) :: st) h K := tm_ic o145_14 (by decide)
theorem o145_15 : tm_op 145 15 = some (.iload 4, (0, 0, 0, 0)) := rfl
theorem r145_15 (d : Nat) (v : Int32) (l0 l1 l2 l3 l5 : Option Value) (st : List Value) (h : tm_H) (K : Option Value → tm_H → Prop) : tm_A d 145 15 [l0, l1, l2, l3, some (.int v), l5] st h K ↔ tm_A d 145 17 [l0, l1, l2, l3, some (.int v), l5] (.int v :: st) h K := tm_s o145_15 rfl rfl rfl
theorem o145_17 : tm_op 145 17 = some (.invokevirtual 162, (2, 137, 4, 10)) := rfl
theorem r145_17 (d : Nat) (v1 : Int32) (v2 : Int32) (v3 : Int32) (a : Nat) (ls : tm_Lo) (st : List Value) (h : tm_H) (K : Option Value → tm_H → Prop) : tm_A (d + 1) 145 17 ls (.int v3 :: .int v2 :: .int v1 :: .ref a :: st) h K ↔ (h.1.2.2 a = (0, 10) ∧ tm_cs st) ∧ tm_R d 137 [.ref a, .int v1, .int v2, .int v3] h (fun r h' => tm_A (d + 1) 145 20 ls (r.toList ++ st) h' K) := tm_callV (as := [.int v1, .int v2, .int v3]) o145_17 rfl rfl rfl rfl
theorem o145_20 : tm_op 145 20 = some (.istore 5, (0, 0, 0, 0)) := rfl
theorem r145_20 (d : Nat) (v : Int32) (l0 l1 l2 l3 l4 l5 : Option Value) (st : List Value) (h : tm_H) (K : Option Value → tm_H → Prop) : tm_A d 145 20 [l0, l1, l2, l3, l4, l5] (.int v :: st) h K ↔ tm_A d 145 22 [l0, l1, l2, l3, l4, some (.int v)] st h K := tm_s o145_20 rfl rfl rfl
theorem o145_22 : tm_op 145 22 = some (.iload 5, (0, 0, 0, 0)) := rfl
theorem r145_22 (d : Nat) (v : Int32) (l0 l1 l2 l3 l4 : Option Value) (st : List Value) (h : tm_H) (K : Option Value → tm_H → Prop) : tm_A d 145 22 [l0, l1, l2, l3, l4, some (.int v)] st h K ↔ tm_A d 145 24 [l0, l1, l2, l3, l4, some (.int v)] (.int v :: st) h K := tm_s o145_22 rfl rfl rfl
theorem o145_24 : tm_op 145 24 = some (.iconst (-1), (0, 0, 0, 0)) := rfl
theorem r145_24 (d : Nat) (ls : tm_Lo) (st : List Value) (h : tm_H) (K : Option Value → tm_H → Prop) : tm_A d 145 24 ls st h K ↔ tm_A d 145 25 ls (.int (-1 : Int32) :: st) h K := tm_ic o145_24 (by decide)
theorem o145_25 : tm_op 145 25 = some (.if_icmp .eq 41, (0, 0, 0, 0)) := rfl
theorem r145_25 (d : Nat) (y x : Int32) (ls : tm_Lo) (st : List Value) (h : tm_H) (K : Option Value → tm_H → Prop) : tm_A d 145 25 ls (.int y :: .int x :: st) h K ↔ if x = y then tm_A d 145 66 ls st h K else tm_A d 145 28 ls st h K := tm_b o145_25 rfl rfl rfl rfl
theorem o145_28 : tm_op 145 28 = some (.iload_n 2, (0, 0, 0, 0)) := rfl
theorem r145_28 (d : Nat) (v : Int32) (l0 l1 l3 l4 l5 : Option Value) (st : List Value) (h : tm_H) (K : Option Value → tm_H → Prop) : tm_A d 145 28 [l0, l1, some (.int v), l3, l4, l5] st h K ↔ tm_A d 145 29 [l0, l1, some (.int v), l3, l4, l5] (.int v :: st) h K := tm_s o145_28 rfl rfl rfl
theorem o145_29 : tm_op 145 29 = some (.iconst 0, (0, 0, 0, 0)) := rfl
theorem r145_29 (d : Nat) (ls : tm_Lo) (st : List Value) (h : tm_H) (K : Option Value → tm_H → Prop) : tm_A d 145 29 ls st h K ↔ tm_A d 145 30 ls (.int (0 : Int32) :: st) h K := tm_ic o145_29 (by decide)
theorem o145_30 : tm_op 145 30 = some (.aload_n 0, (0, 0, 0, 0)) := rfl
theorem r145_30 (d : Nat) (v : Nat) (l1 l2 l3 l4 l5 : Option Value) (st : List Value) (h : tm_H) (K : Option Value → tm_H → Prop) : tm_A d 145 30 [some (.ref v), l1, l2, l3, l4, l5] st h K ↔ tm_A d 145 31 [some (.ref v), l1, l2, l3, l4, l5] (.ref v :: st) h K := tm_s o145_30 rfl rfl rfl
theorem o145_31 : tm_op 145 31 = some (.getfield 47, (2, 10, 21, 0)) := rfl
theorem r145_31 (d : Nat) (a : Nat) (ls : tm_Lo) (st : List Value) (G : tm_G) (I : Nat → Nat → Int32) (J : Nat → Nat → Int64) (R : Nat → Nat → Option Nat) (K : Option Value → tm_H → Prop) : tm_A d 145 31 ls (.ref a :: st) (G, I, J, R) K ↔ G.2.2 a = (0, 10) ∧ tm_A d 145 34 ls (tm_rf (R a 21) :: st) (G, I, J, R) K := tm_getR o145_31
theorem o145_34 : tm_op 145 34 = some (.iload 5, (0, 0, 0, 0)) := rfl
theorem r145_34 (d : Nat) (v : Int32) (l0 l1 l2 l3 l4 : Option Value) (st : List Value) (h : tm_H) (K : Option Value → tm_H → Prop) : tm_A d 145 34 [l0, l1, l2, l3, l4, some (.int v)] st h K ↔ tm_A d 145 36 [l0, l1, l2, l3, l4, some (.int v)] (.int v :: st) h K := tm_s o145_34 rfl rfl rfl
theorem o145_36 : tm_op 145 36 = some (.iaload, (0, 0, 0, 0)) := rfl
theorem r145_36 (d : Nat) (v : Int32) (a : Nat) (ls : tm_Lo) (st : List Value) (G : tm_G) (I : Nat → Nat → Int32) (J : Nat → Nat → Int64) (R : Nat → Nat → Option Nat) (K : Option Value → tm_H → Prop) : tm_A d 145 36 ls (.int v :: .ref a :: st) (G, I, J, R) K ↔ ((G.2.2 a).1 = 1 ∧ tm_in v (G.2.2 a).2) ∧ tm_A d 145 37 ls (.int (I a (tm_ix v)) :: st) (G, I, J, R) K := tm_iald o145_36
theorem o145_37 : tm_op 145 37 = some (.iconst 1, (0, 0, 0, 0)) := rfl
theorem r145_37 (d : Nat) (ls : tm_Lo) (st : List Value) (h : tm_H) (K : Option Value → tm_H → Prop) : tm_A d 145 37 ls st h K ↔ tm_A d 145 38 ls (.int (1 : Int32) :: st) h K := tm_ic o145_37 (by decide)
theorem o145_38 : tm_op 145 38 = some (.isub, (0, 0, 0, 0)) := rfl
theorem r145_38 (d : Nat) (u v : Int32) (ls : tm_Lo) (st : List Value) (h : tm_H) (K : Option Value → tm_H → Prop) : tm_A d 145 38 ls (.int u :: .int v :: st) h K ↔ tm_A d 145 39 ls (.int (v - u) :: st) h K := tm_s o145_38 rfl rfl rfl
theorem o145_39 : tm_op 145 39 = some (.invokestatic 83, (1, 117, 3, 0)) := rfl
theorem r145_39 (d : Nat) (v0 : Int32) (v1 : Int32) (v2 : Int32) (ls : tm_Lo) (st : List Value) (h : tm_H) (K : Option Value → tm_H → Prop) : tm_A (d + 1) 145 39 ls (.int v2 :: .int v1 :: .int v0 :: st) h K ↔ tm_cs st ∧ tm_R d 117 [.int v0, .int v1, .int v2] h (fun r h' => tm_A (d + 1) 145 42 ls (r.toList ++ st) h' K) := tm_callS (as := [.int v0, .int v1, .int v2]) o145_39 rfl rfl rfl rfl
theorem o145_42 : tm_op 145 42 = some (.ifCond .eq 24, (0, 0, 0, 0)) := rfl
theorem r145_42 (d : Nat) (x : Int32) (ls : tm_Lo) (st : List Value) (h : tm_H) (K : Option Value → tm_H → Prop) : tm_A d 145 42 ls (.int x :: st) h K ↔ if x = 0 then tm_A d 145 66 ls st h K else tm_A d 145 45 ls st h K := tm_b o145_42 rfl rfl rfl rfl
theorem o145_45 : tm_op 145 45 = some (.iload_n 3, (0, 0, 0, 0)) := rfl
theorem r145_45 (d : Nat) (v : Int32) (l0 l1 l2 l4 l5 : Option Value) (st : List Value) (h : tm_H) (K : Option Value → tm_H → Prop) : tm_A d 145 45 [l0, l1, l2, some (.int v), l4, l5] st h K ↔ tm_A d 145 46 [l0, l1, l2, some (.int v), l4, l5] (.int v :: st) h K := tm_s o145_45 rfl rfl rfl
theorem o145_46 : tm_op 145 46 = some (.iconst 0, (0, 0, 0, 0)) := rfl
theorem r145_46 (d : Nat) (ls : tm_Lo) (st : List Value) (h : tm_H) (K : Option Value → tm_H → Prop) : tm_A d 145 46 ls st h K ↔ tm_A d 145 47 ls (.int (0 : Int32) :: st) h K := tm_ic o145_46 (by decide)
theorem o145_47 : tm_op 145 47 = some (.aload_n 0, (0, 0, 0, 0)) := rfl
theorem r145_47 (d : Nat) (v : Nat) (l1 l2 l3 l4 l5 : Option Value) (st : List Value) (h : tm_H) (K : Option Value → tm_H → Prop) : tm_A d 145 47 [some (.ref v), l1, l2, l3, l4, l5] st h K ↔ tm_A d 145 48 [some (.ref v), l1, l2, l3, l4, l5] (.ref v :: st) h K := tm_s o145_47 rfl rfl rfl
theorem o145_48 : tm_op 145 48 = some (.getfield 53, (2, 10, 23, 0)) := rfl
theorem r145_48 (d : Nat) (a : Nat) (ls : tm_Lo) (st : List Value) (G : tm_G) (I : Nat → Nat → Int32) (J : Nat → Nat → Int64) (R : Nat → Nat → Option Nat) (K : Option Value → tm_H → Prop) : tm_A d 145 48 ls (.ref a :: st) (G, I, J, R) K ↔ G.2.2 a = (0, 10) ∧ tm_A d 145 51 ls (tm_rf (R a 23) :: st) (G, I, J, R) K := tm_getR o145_48
theorem o145_51 : tm_op 145 51 = some (.iconst 3, (0, 0, 0, 0)) := rfl
theorem r145_51 (d : Nat) (ls : tm_Lo) (st : List Value) (h : tm_H) (K : Option Value → tm_H → Prop) : tm_A d 145 51 ls st h K ↔ tm_A d 145 52 ls (.int (3 : Int32) :: st) h K := tm_ic o145_51 (by decide)
theorem o145_52 : tm_op 145 52 = some (.iload 5, (0, 0, 0, 0)) := rfl
theorem r145_52 (d : Nat) (v : Int32) (l0 l1 l2 l3 l4 : Option Value) (st : List Value) (h : tm_H) (K : Option Value → tm_H → Prop) : tm_A d 145 52 [l0, l1, l2, l3, l4, some (.int v)] st h K ↔ tm_A d 145 54 [l0, l1, l2, l3, l4, some (.int v)] (.int v :: st) h K := tm_s o145_52 rfl rfl rfl
theorem o145_54 : tm_op 145 54 = some (.imul, (0, 0, 0, 0)) := rfl
theorem r145_54 (d : Nat) (u v : Int32) (ls : tm_Lo) (st : List Value) (h : tm_H) (K : Option Value → tm_H → Prop) : tm_A d 145 54 ls (.int u :: .int v :: st) h K ↔ tm_A d 145 55 ls (.int (v * u) :: st) h K := tm_s o145_54 rfl rfl rfl
theorem o145_55 : tm_op 145 55 = some (.iload_n 2, (0, 0, 0, 0)) := rfl
theorem r145_55 (d : Nat) (v : Int32) (l0 l1 l3 l4 l5 : Option Value) (st : List Value) (h : tm_H) (K : Option Value → tm_H → Prop) : tm_A d 145 55 [l0, l1, some (.int v), l3, l4, l5] st h K ↔ tm_A d 145 56 [l0, l1, some (.int v), l3, l4, l5] (.int v :: st) h K := tm_s o145_55 rfl rfl rfl
theorem o145_56 : tm_op 145 56 = some (.iadd, (0, 0, 0, 0)) := rfl
theorem r145_56 (d : Nat) (u v : Int32) (ls : tm_Lo) (st : List Value) (h : tm_H) (K : Option Value → tm_H → Prop) : tm_A d 145 56 ls (.int u :: .int v :: st) h K ↔ tm_A d 145 57 ls (.int (v + u) :: st) h K := tm_s o145_56 rfl rfl rfl
theorem o145_57 : tm_op 145 57 = some (.iaload, (0, 0, 0, 0)) := rfl
theorem r145_57 (d : Nat) (v : Int32) (a : Nat) (ls : tm_Lo) (st : List Value) (G : tm_G) (I : Nat → Nat → Int32) (J : Nat → Nat → Int64) (R : Nat → Nat → Option Nat) (K : Option Value → tm_H → Prop) : tm_A d 145 57 ls (.int v :: .ref a :: st) (G, I, J, R) K ↔ ((G.2.2 a).1 = 1 ∧ tm_in v (G.2.2 a).2) ∧ tm_A d 145 58 ls (.int (I a (tm_ix v)) :: st) (G, I, J, R) K := tm_iald o145_57
theorem o145_58 : tm_op 145 58 = some (.iconst 1, (0, 0, 0, 0)) := rfl
theorem r145_58 (d : Nat) (ls : tm_Lo) (st : List Value) (h : tm_H) (K : Option Value → tm_H → Prop) : tm_A d 145 58 ls st h K ↔ tm_A d 145 59 ls (.int (1 : Int32) :: st) h K := tm_ic o145_58 (by decide)
theorem o145_59 : tm_op 145 59 = some (.isub, (0, 0, 0, 0)) := rfl
theorem r145_59 (d : Nat) (u v : Int32) (ls : tm_Lo) (st : List Value) (h : tm_H) (K : Option Value → tm_H → Prop) : tm_A d 145 59 ls (.int u :: .int v :: st) h K ↔ tm_A d 145 60 ls (.int (v - u) :: st) h K := tm_s o145_59 rfl rfl rfl
theorem o145_60 : tm_op 145 60 = some (.invokestatic 83, (1, 117, 3, 0)) := rfl
theorem r145_60 (d : Nat) (v0 : Int32) (v1 : Int32) (v2 : Int32) (ls : tm_Lo) (st : List Value) (h : tm_H) (K : Option Value → tm_H → Prop) : tm_A (d + 1) 145 60 ls (.int v2 :: .int v1 :: .int v0 :: st) h K ↔ tm_cs st ∧ tm_R d 117 [.int v0, .int v1, .int v2] h (fun r h' => tm_A (d + 1) 145 63 ls (r.toList ++ st) h' K) := tm_callS (as := [.int v0, .int v1, .int v2]) o145_60 rfl rfl rfl rfl
theorem o145_63 : tm_op 145 63 = some (.ifCond .ne 5, (0, 0, 0, 0)) := rfl
theorem r145_63 (d : Nat) (x : Int32) (ls : tm_Lo) (st : List Value) (h : tm_H) (K : Option Value → tm_H → Prop) : tm_A d 145 63 ls (.int x :: st) h K ↔ if ¬ x = 0 then tm_A d 145 68 ls st h K else tm_A d 145 66 ls st h K := tm_b o145_63 rfl rfl rfl rfl
theorem o145_66 : tm_op 145 66 = some (.iconst (-1), (0, 0, 0, 0)) := rfl
theorem r145_66 (d : Nat) (ls : tm_Lo) (st : List Value) (h : tm_H) (K : Option Value → tm_H → Prop) : tm_A d 145 66 ls st h K ↔ tm_A d 145 67 ls (.int (-1 : Int32) :: st) h K := tm_ic o145_66 (by decide)
theorem o145_67 : tm_op 145 67 = some (.ireturn, (0, 0, 0, 0)) := rfl
theorem r145_67 (d : Nat) (v : Int32) (ls : tm_Lo) (h : tm_H) (K : Option Value → tm_H → Prop) : tm_A d 145 67 ls [.int v] h K ↔ K (some (.int v)) h := tm_reti o145_67 rfl
theorem o145_68 : tm_op 145 68 = some (.aload_n 0, (0, 0, 0, 0)) := rfl
theorem r145_68 (d : Nat) (v : Nat) (l1 l2 l3 l4 l5 : Option Value) (st : List Value) (h : tm_H) (K : Option Value → tm_H → Prop) : tm_A d 145 68 [some (.ref v), l1, l2, l3, l4, l5] st h K ↔ tm_A d 145 69 [some (.ref v), l1, l2, l3, l4, l5] (.ref v :: st) h K := tm_s o145_68 rfl rfl rfl
theorem o145_69 : tm_op 145 69 = some (.getfield 50, (2, 10, 22, 0)) := rfl
theorem r145_69 (d : Nat) (a : Nat) (ls : tm_Lo) (st : List Value) (G : tm_G) (I : Nat → Nat → Int32) (J : Nat → Nat → Int64) (R : Nat → Nat → Option Nat) (K : Option Value → tm_H → Prop) : tm_A d 145 69 ls (.ref a :: st) (G, I, J, R) K ↔ G.2.2 a = (0, 10) ∧ tm_A d 145 72 ls (tm_rf (R a 22) :: st) (G, I, J, R) K := tm_getR o145_69
theorem o145_72 : tm_op 145 72 = some (.iconst 3, (0, 0, 0, 0)) := rfl
theorem r145_72 (d : Nat) (ls : tm_Lo) (st : List Value) (h : tm_H) (K : Option Value → tm_H → Prop) : tm_A d 145 72 ls st h K ↔ tm_A d 145 73 ls (.int (3 : Int32) :: st) h K := tm_ic o145_72 (by decide)
theorem o145_73 : tm_op 145 73 = some (.iload 5, (0, 0, 0, 0)) := rfl
theorem r145_73 (d : Nat) (v : Int32) (l0 l1 l2 l3 l4 : Option Value) (st : List Value) (h : tm_H) (K : Option Value → tm_H → Prop) : tm_A d 145 73 [l0, l1, l2, l3, l4, some (.int v)] st h K ↔ tm_A d 145 75 [l0, l1, l2, l3, l4, some (.int v)] (.int v :: st) h K := tm_s o145_73 rfl rfl rfl
theorem o145_75 : tm_op 145 75 = some (.imul, (0, 0, 0, 0)) := rfl
theorem r145_75 (d : Nat) (u v : Int32) (ls : tm_Lo) (st : List Value) (h : tm_H) (K : Option Value → tm_H → Prop) : tm_A d 145 75 ls (.int u :: .int v :: st) h K ↔ tm_A d 145 76 ls (.int (v * u) :: st) h K := tm_s o145_75 rfl rfl rfl
theorem o145_76 : tm_op 145 76 = some (.iload_n 2, (0, 0, 0, 0)) := rfl
theorem r145_76 (d : Nat) (v : Int32) (l0 l1 l3 l4 l5 : Option Value) (st : List Value) (h : tm_H) (K : Option Value → tm_H → Prop) : tm_A d 145 76 [l0, l1, some (.int v), l3, l4, l5] st h K ↔ tm_A d 145 77 [l0, l1, some (.int v), l3, l4, l5] (.int v :: st) h K := tm_s o145_76 rfl rfl rfl
theorem o145_77 : tm_op 145 77 = some (.iadd, (0, 0, 0, 0)) := rfl
theorem r145_77 (d : Nat) (u v : Int32) (ls : tm_Lo) (st : List Value) (h : tm_H) (K : Option Value → tm_H → Prop) : tm_A d 145 77 ls (.int u :: .int v :: st) h K ↔ tm_A d 145 78 ls (.int (v + u) :: st) h K := tm_s o145_77 rfl rfl rfl
theorem o145_78 : tm_op 145 78 = some (.bipush 6, (0, 0, 0, 0)) := rfl
theorem r145_78 (d : Nat) (ls : tm_Lo) (st : List Value) (h : tm_H) (K : Option Value → tm_H → Prop) : tm_A d 145 78 ls st h K ↔ tm_A d 145 80 ls (.int (6 : Int32) :: st) h K := tm_bp o145_78 (by decide)
theorem o145_80 : tm_op 145 80 = some (.imul, (0, 0, 0, 0)) := rfl
theorem r145_80 (d : Nat) (u v : Int32) (ls : tm_Lo) (st : List Value) (h : tm_H) (K : Option Value → tm_H → Prop) : tm_A d 145 80 ls (.int u :: .int v :: st) h K ↔ tm_A d 145 81 ls (.int (v * u) :: st) h K := tm_s o145_80 rfl rfl rfl
theorem o145_81 : tm_op 145 81 = some (.iload_n 3, (0, 0, 0, 0)) := rfl
theorem r145_81 (d : Nat) (v : Int32) (l0 l1 l2 l4 l5 : Option Value) (st : List Value) (h : tm_H) (K : Option Value → tm_H → Prop) : tm_A d 145 81 [l0, l1, l2, some (.int v), l4, l5] st h K ↔ tm_A d 145 82 [l0, l1, l2, some (.int v), l4, l5] (.int v :: st) h K := tm_s o145_81 rfl rfl rfl
theorem o145_82 : tm_op 145 82 = some (.iadd, (0, 0, 0, 0)) := rfl
theorem r145_82 (d : Nat) (u v : Int32) (ls : tm_Lo) (st : List Value) (h : tm_H) (K : Option Value → tm_H → Prop) : tm_A d 145 82 ls (.int u :: .int v :: st) h K ↔ tm_A d 145 83 ls (.int (v + u) :: st) h K := tm_s o145_82 rfl rfl rfl
theorem o145_83 : tm_op 145 83 = some (.iaload, (0, 0, 0, 0)) := rfl
theorem r145_83 (d : Nat) (v : Int32) (a : Nat) (ls : tm_Lo) (st : List Value) (G : tm_G) (I : Nat → Nat → Int32) (J : Nat → Nat → Int64) (R : Nat → Nat → Option Nat) (K : Option Value → tm_H → Prop) : tm_A d 145 83 ls (.int v :: .ref a :: st) (G, I, J, R) K ↔ ((G.2.2 a).1 = 1 ∧ tm_in v (G.2.2 a).2) ∧ tm_A d 145 84 ls (.int (I a (tm_ix v)) :: st) (G, I, J, R) K := tm_iald o145_83
theorem o145_84 : tm_op 145 84 = some (.ireturn, (0, 0, 0, 0)) := rfl
theorem r145_84 (d : Nat) (v : Int32) (ls : tm_Lo) (h : tm_H) (K : Option Value → tm_H → Prop) : tm_A d 145 84 ls [.int v] h K ↔ K (some (.int v)) h := tm_reti o145_84 rfl
