theorem o85_0 : tm_op 85 0 = some (.aload_n 0, (0, 0, 0, 0)) := rfl
theorem r85_0 (d : Nat) (v : Nat) (st : List Value) (h : tm_H) (K : Option Value → tm_H → Prop) : tm_A d 85 0 [some (.ref v)] st h K ↔ tm_A d 85 1 [some (.ref v)] (.ref v :: st) h K := tm_s o85_0 rfl rfl rfl
theorem o85_1 : tm_op 85 1 = some (.invokespecial 1, (4, 0, 0, 0)) := rfl
theorem r85_1 (d : Nat) (a : Nat) (ls : tm_Lo) (st : List Value) (h : tm_H) (K : Option Value → tm_H → Prop) : tm_A (d + 1) 85 1 ls (.ref a :: st) h K ↔ tm_cs st ∧ tm_A (d + 1) 85 4 ls st h K := tm_obj o85_1 rfl rfl
theorem o85_4 : tm_op 85 4 = some (.aload_n 0, (0, 0, 0, 0)) := rfl
theorem r85_4 (d : Nat) (v : Nat) (st : List Value) (h : tm_H) (K : Option Value → tm_H → Prop) : tm_A d 85 4 [some (.ref v)] st h K ↔ tm_A d 85 5 [some (.ref v)] (.ref v :: st) h K := tm_s o85_4 rfl rfl rfl
theorem o85_5 : tm_op 85 5 = some (.new 7, (0, 7, 4, 0)) := rfl
theorem r85_5 (d : Nat) (ls : tm_Lo) (st : List Value) (G : tm_G) (I : Nat → Nat → Int32) (J : Nat → Nat → Int64) (R : Nat → Nat → Option Nat) (K : Option Value → tm_H → Prop) : tm_A d 85 5 ls st (G, I, J, R) K ↔ tm_A d 85 8 ls (.ref G.1 :: st) (tm_nw (0, 7) 4 (G, I, J, R)) K := tm_s o85_5 rfl rfl rfl
theorem o85_8 : tm_op 85 8 = some (.dup, (0, 0, 0, 0)) := rfl
theorem r85_8 (d : Nat) (v : Nat) (ls : tm_Lo) (st : List Value) (h : tm_H) (K : Option Value → tm_H → Prop) : tm_A d 85 8 ls (.ref v :: st) h K ↔ tm_A d 85 9 ls (.ref v :: .ref v :: st) h K := tm_s o85_8 rfl rfl rfl
theorem r85_8i (d : Nat) (v : Int32) (ls : tm_Lo) (st : List Value) (h : tm_H) (K : Option Value → tm_H → Prop) : tm_A d 85 8 ls (.int v :: st) h K ↔ tm_A d 85 9 ls (.int v :: .int v :: st) h K := tm_s o85_8 rfl rfl rfl
theorem o85_9 : tm_op 85 9 = some (.invokespecial 9, (3, 68, 1, 0)) := rfl
theorem r85_9 (d : Nat) (a : Nat) (ls : tm_Lo) (st : List Value) (h : tm_H) (K : Option Value → tm_H → Prop) : tm_A (d + 1) 85 9 ls (.ref a :: st) h K ↔ tm_cs st ∧ tm_R d 68 [.ref a] h (fun r h' => tm_A (d + 1) 85 12 ls (r.toList ++ st) h' K) := tm_callI (as := []) o85_9 rfl rfl rfl rfl
theorem o85_12 : tm_op 85 12 = some (.putfield 10, (2, 9, 0, 0)) := rfl
theorem r85_12 (d : Nat) (v : Nat) (a : Nat) (ls : tm_Lo) (st : List Value) (G : tm_G) (I : Nat → Nat → Int32) (J : Nat → Nat → Int64) (R : Nat → Nat → Option Nat) (K : Option Value → tm_H → Prop) : tm_A d 85 12 ls (.ref v :: .ref a :: st) (G, I, J, R) K ↔ G.2.2 a = (0, 9) ∧ tm_A d 85 15 ls st (G, I, J, up2 R a 0 (some v)) K := tm_putR o85_12
theorem o85_15 : tm_op 85 15 = some (.aload_n 0, (0, 0, 0, 0)) := rfl
theorem r85_15 (d : Nat) (v : Nat) (st : List Value) (h : tm_H) (K : Option Value → tm_H → Prop) : tm_A d 85 15 [some (.ref v)] st h K ↔ tm_A d 85 16 [some (.ref v)] (.ref v :: st) h K := tm_s o85_15 rfl rfl rfl
theorem o85_16 : tm_op 85 16 = some (.new 16, (0, 5, 5, 0)) := rfl
theorem r85_16 (d : Nat) (ls : tm_Lo) (st : List Value) (G : tm_G) (I : Nat → Nat → Int32) (J : Nat → Nat → Int64) (R : Nat → Nat → Option Nat) (K : Option Value → tm_H → Prop) : tm_A d 85 16 ls st (G, I, J, R) K ↔ tm_A d 85 19 ls (.ref G.1 :: st) (tm_nw (0, 5) 5 (G, I, J, R)) K := tm_s o85_16 rfl rfl rfl
theorem o85_19 : tm_op 85 19 = some (.dup, (0, 0, 0, 0)) := rfl
theorem r85_19 (d : Nat) (v : Nat) (ls : tm_Lo) (st : List Value) (h : tm_H) (K : Option Value → tm_H → Prop) : tm_A d 85 19 ls (.ref v :: st) h K ↔ tm_A d 85 20 ls (.ref v :: .ref v :: st) h K := tm_s o85_19 rfl rfl rfl
theorem r85_19i (d : Nat) (v : Int32) (ls : tm_Lo) (st : List Value) (h : tm_H) (K : Option Value → tm_H → Prop) : tm_A d 85 19 ls (.int v :: st) h K ↔ tm_A d 85 20 ls (.int v :: .int v :: st) h K := tm_s o85_19 rfl rfl rfl
theorem o85_20 : tm_op 85 20 = some (.invokespecial 18, (3, 48, 1, 0)) := rfl
theorem r85_20 (d : Nat) (a : Nat) (ls : tm_Lo) (st : List Value) (h : tm_H) (K : Option Value → tm_H → Prop) : tm_A (d + 1) 85 20 ls (.ref a :: st) h K ↔ tm_cs st ∧ tm_R d 48 [.ref a] h (fun r h' => tm_A (d + 1) 85 23 ls (r.toList ++ st) h' K) := tm_callI (as := []) o85_20 rfl rfl rfl rfl
theorem o85_23 : tm_op 85 23 = some (.putfield 19, (2, 9, 1, 0)) := rfl
theorem r85_23 (d : Nat) (v : Nat) (a : Nat) (ls : tm_Lo) (st : List Value) (G : tm_G) (I : Nat → Nat → Int32) (J : Nat → Nat → Int64) (R : Nat → Nat → Option Nat) (K : Option Value → tm_H → Prop) : tm_A d 85 23 ls (.ref v :: .ref a :: st) (G, I, J, R) K ↔ G.2.2 a = (0, 9) ∧ tm_A d 85 26 ls st (G, I, J, up2 R a 1 (some v)) K := tm_putR o85_23
theorem o85_26 : tm_op 85 26 = some (.aload_n 0, (0, 0, 0, 0)) := rfl
theorem r85_26 (d : Nat) (v : Nat) (st : List Value) (h : tm_H) (K : Option Value → tm_H → Prop) : tm_A d 85 26 [some (.ref v)] st h K ↔ tm_A d 85 27 [some (.ref v)] (.ref v :: st) h K := tm_s o85_26 rfl rfl rfl
theorem o85_27 : tm_op 85 27 = some (.new 23, (0, 4, 2, 0)) := rfl
theorem r85_27 (d : Nat) (ls : tm_Lo) (st : List Value) (G : tm_G) (I : Nat → Nat → Int32) (J : Nat → Nat → Int64) (R : Nat → Nat → Option Nat) (K : Option Value → tm_H → Prop) : tm_A d 85 27 ls st (G, I, J, R) K ↔ tm_A d 85 30 ls (.ref G.1 :: st) (tm_nw (0, 4) 2 (G, I, J, R)) K := tm_s o85_27 rfl rfl rfl
theorem o85_30 : tm_op 85 30 = some (.dup, (0, 0, 0, 0)) := rfl
theorem r85_30 (d : Nat) (v : Nat) (ls : tm_Lo) (st : List Value) (h : tm_H) (K : Option Value → tm_H → Prop) : tm_A d 85 30 ls (.ref v :: st) h K ↔ tm_A d 85 31 ls (.ref v :: .ref v :: st) h K := tm_s o85_30 rfl rfl rfl
theorem r85_30i (d : Nat) (v : Int32) (ls : tm_Lo) (st : List Value) (h : tm_H) (K : Option Value → tm_H → Prop) : tm_A d 85 30 ls (.int v :: st) h K ↔ tm_A d 85 31 ls (.int v :: .int v :: st) h K := tm_s o85_30 rfl rfl rfl
theorem o85_31 : tm_op 85 31 = some (.invokespecial 25, (3, 39, 1, 0)) := rfl
theorem r85_31 (d : Nat) (a : Nat) (ls : tm_Lo) (st : List Value) (h : tm_H) (K : Option Value → tm_H → Prop) : tm_A (d + 1) 85 31 ls (.ref a :: st) h K ↔ tm_cs st ∧ tm_R d 39 [.ref a] h (fun r h' => tm_A (d + 1) 85 34 ls (r.toList ++ st) h' K) := tm_callI (as := []) o85_31 rfl rfl rfl rfl
theorem o85_34 : tm_op 85 34 = some (.putfield 26, (2, 9, 2, 0)) := rfl
theorem r85_34 (d : Nat) (v : Nat) (a : Nat) (ls : tm_Lo) (st : List Value) (G : tm_G) (I : Nat → Nat → Int32) (J : Nat → Nat → Int64) (R : Nat → Nat → Option Nat) (K : Option Value → tm_H → Prop) : tm_A d 85 34 ls (.ref v :: .ref a :: st) (G, I, J, R) K ↔ G.2.2 a = (0, 9) ∧ tm_A d 85 37 ls st (G, I, J, up2 R a 2 (some v)) K := tm_putR o85_34
theorem o85_37 : tm_op 85 37 = some (.aload_n 0, (0, 0, 0, 0)) := rfl
theorem r85_37 (d : Nat) (v : Nat) (st : List Value) (h : tm_H) (K : Option Value → tm_H → Prop) : tm_A d 85 37 [some (.ref v)] st h K ↔ tm_A d 85 38 [some (.ref v)] (.ref v :: st) h K := tm_s o85_37 rfl rfl rfl
theorem o85_38 : tm_op 85 38 = some (.new 30, (0, 3, 1, 0)) := rfl
theorem r85_38 (d : Nat) (ls : tm_Lo) (st : List Value) (G : tm_G) (I : Nat → Nat → Int32) (J : Nat → Nat → Int64) (R : Nat → Nat → Option Nat) (K : Option Value → tm_H → Prop) : tm_A d 85 38 ls st (G, I, J, R) K ↔ tm_A d 85 41 ls (.ref G.1 :: st) (tm_nw (0, 3) 1 (G, I, J, R)) K := tm_s o85_38 rfl rfl rfl
theorem o85_41 : tm_op 85 41 = some (.dup, (0, 0, 0, 0)) := rfl
theorem r85_41 (d : Nat) (v : Nat) (ls : tm_Lo) (st : List Value) (h : tm_H) (K : Option Value → tm_H → Prop) : tm_A d 85 41 ls (.ref v :: st) h K ↔ tm_A d 85 42 ls (.ref v :: .ref v :: st) h K := tm_s o85_41 rfl rfl rfl
theorem r85_41i (d : Nat) (v : Int32) (ls : tm_Lo) (st : List Value) (h : tm_H) (K : Option Value → tm_H → Prop) : tm_A d 85 41 ls (.int v :: st) h K ↔ tm_A d 85 42 ls (.int v :: .int v :: st) h K := tm_s o85_41 rfl rfl rfl
theorem o85_42 : tm_op 85 42 = some (.invokespecial 32, (3, 34, 1, 0)) := rfl
theorem r85_42 (d : Nat) (a : Nat) (ls : tm_Lo) (st : List Value) (h : tm_H) (K : Option Value → tm_H → Prop) : tm_A (d + 1) 85 42 ls (.ref a :: st) h K ↔ tm_cs st ∧ tm_R d 34 [.ref a] h (fun r h' => tm_A (d + 1) 85 45 ls (r.toList ++ st) h' K) := tm_callI (as := []) o85_42 rfl rfl rfl rfl
theorem o85_45 : tm_op 85 45 = some (.putfield 33, (2, 9, 3, 0)) := rfl
theorem r85_45 (d : Nat) (v : Nat) (a : Nat) (ls : tm_Lo) (st : List Value) (G : tm_G) (I : Nat → Nat → Int32) (J : Nat → Nat → Int64) (R : Nat → Nat → Option Nat) (K : Option Value → tm_H → Prop) : tm_A d 85 45 ls (.ref v :: .ref a :: st) (G, I, J, R) K ↔ G.2.2 a = (0, 9) ∧ tm_A d 85 48 ls st (G, I, J, up2 R a 3 (some v)) K := tm_putR o85_45
theorem o85_48 : tm_op 85 48 = some (.aload_n 0, (0, 0, 0, 0)) := rfl
theorem r85_48 (d : Nat) (v : Nat) (st : List Value) (h : tm_H) (K : Option Value → tm_H → Prop) : tm_A d 85 48 [some (.ref v)] st h K ↔ tm_A d 85 49 [some (.ref v)] (.ref v :: st) h K := tm_s o85_48 rfl rfl rfl
theorem o85_49 : tm_op 85 49 = some (.new 37, (0, 6, 2, 0)) := rfl
theorem r85_49 (d : Nat) (ls : tm_Lo) (st : List Value) (G : tm_G) (I : Nat → Nat → Int32) (J : Nat → Nat → Int64) (R : Nat → Nat → Option Nat) (K : Option Value → tm_H → Prop) : tm_A d 85 49 ls st (G, I, J, R) K ↔ tm_A d 85 52 ls (.ref G.1 :: st) (tm_nw (0, 6) 2 (G, I, J, R)) K := tm_s o85_49 rfl rfl rfl
theorem o85_52 : tm_op 85 52 = some (.dup, (0, 0, 0, 0)) := rfl
theorem r85_52 (d : Nat) (v : Nat) (ls : tm_Lo) (st : List Value) (h : tm_H) (K : Option Value → tm_H → Prop) : tm_A d 85 52 ls (.ref v :: st) h K ↔ tm_A d 85 53 ls (.ref v :: .ref v :: st) h K := tm_s o85_52 rfl rfl rfl
theorem r85_52i (d : Nat) (v : Int32) (ls : tm_Lo) (st : List Value) (h : tm_H) (K : Option Value → tm_H → Prop) : tm_A d 85 52 ls (.int v :: st) h K ↔ tm_A d 85 53 ls (.int v :: .int v :: st) h K := tm_s o85_52 rfl rfl rfl
theorem o85_53 : tm_op 85 53 = some (.invokespecial 39, (3, 59, 1, 0)) := rfl
theorem r85_53 (d : Nat) (a : Nat) (ls : tm_Lo) (st : List Value) (h : tm_H) (K : Option Value → tm_H → Prop) : tm_A (d + 1) 85 53 ls (.ref a :: st) h K ↔ tm_cs st ∧ tm_R d 59 [.ref a] h (fun r h' => tm_A (d + 1) 85 56 ls (r.toList ++ st) h' K) := tm_callI (as := []) o85_53 rfl rfl rfl rfl
theorem o85_56 : tm_op 85 56 = some (.putfield 40, (2, 9, 4, 0)) := rfl
theorem r85_56 (d : Nat) (v : Nat) (a : Nat) (ls : tm_Lo) (st : List Value) (G : tm_G) (I : Nat → Nat → Int32) (J : Nat → Nat → Int64) (R : Nat → Nat → Option Nat) (K : Option Value → tm_H → Prop) : tm_A d 85 56 ls (.ref v :: .ref a :: st) (G, I, J, R) K ↔ G.2.2 a = (0, 9) ∧ tm_A d 85 59 ls st (G, I, J, up2 R a 4 (some v)) K := tm_putR o85_56
theorem o85_59 : tm_op 85 59 = some (.aload_n 0, (0, 0, 0, 0)) := rfl
theorem r85_59 (d : Nat) (v : Nat) (st : List Value) (h : tm_H) (K : Option Value → tm_H → Prop) : tm_A d 85 59 [some (.ref v)] st h K ↔ tm_A d 85 60 [some (.ref v)] (.ref v :: st) h K := tm_s o85_59 rfl rfl rfl
theorem o85_60 : tm_op 85 60 = some (.new 44, (0, 2, 6, 0)) := rfl
theorem r85_60 (d : Nat) (ls : tm_Lo) (st : List Value) (G : tm_G) (I : Nat → Nat → Int32) (J : Nat → Nat → Int64) (R : Nat → Nat → Option Nat) (K : Option Value → tm_H → Prop) : tm_A d 85 60 ls st (G, I, J, R) K ↔ tm_A d 85 63 ls (.ref G.1 :: st) (tm_nw (0, 2) 6 (G, I, J, R)) K := tm_s o85_60 rfl rfl rfl
theorem o85_63 : tm_op 85 63 = some (.dup, (0, 0, 0, 0)) := rfl
theorem r85_63 (d : Nat) (v : Nat) (ls : tm_Lo) (st : List Value) (h : tm_H) (K : Option Value → tm_H → Prop) : tm_A d 85 63 ls (.ref v :: st) h K ↔ tm_A d 85 64 ls (.ref v :: .ref v :: st) h K := tm_s o85_63 rfl rfl rfl
theorem r85_63i (d : Nat) (v : Int32) (ls : tm_Lo) (st : List Value) (h : tm_H) (K : Option Value → tm_H → Prop) : tm_A d 85 63 ls (.int v :: st) h K ↔ tm_A d 85 64 ls (.int v :: .int v :: st) h K := tm_s o85_63 rfl rfl rfl
theorem o85_64 : tm_op 85 64 = some (.invokespecial 46, (3, 22, 1, 0)) := rfl
theorem r85_64 (d : Nat) (a : Nat) (ls : tm_Lo) (st : List Value) (h : tm_H) (K : Option Value → tm_H → Prop) : tm_A (d + 1) 85 64 ls (.ref a :: st) h K ↔ tm_cs st ∧ tm_R d 22 [.ref a] h (fun r h' => tm_A (d + 1) 85 67 ls (r.toList ++ st) h' K) := tm_callI (as := []) o85_64 rfl rfl rfl rfl
theorem o85_67 : tm_op 85 67 = some (.putfield 47, (2, 9, 5, 0)) := rfl
theorem r85_67 (d : Nat) (v : Nat) (a : Nat) (ls : tm_Lo) (st : List Value) (G : tm_G) (I : Nat → Nat → Int32) (J : Nat → Nat → Int64) (R : Nat → Nat → Option Nat) (K : Option Value → tm_H → Prop) : tm_A d 85 67 ls (.ref v :: .ref a :: st) (G, I, J, R) K ↔ G.2.2 a = (0, 9) ∧ tm_A d 85 70 ls st (G, I, J, up2 R a 5 (some v)) K := tm_putR o85_67
theorem o85_70 : tm_op 85 70 = some (.aload_n 0, (0, 0, 0, 0)) := rfl
theorem r85_70 (d : Nat) (v : Nat) (st : List Value) (h : tm_H) (K : Option Value → tm_H → Prop) : tm_A d 85 70 [some (.ref v)] st h K ↔ tm_A d 85 71 [some (.ref v)] (.ref v :: st) h K := tm_s o85_70 rfl rfl rfl
theorem o85_71 : tm_op 85 71 = some (.new 51, (0, 1, 5, 0)) := rfl
theorem r85_71 (d : Nat) (ls : tm_Lo) (st : List Value) (G : tm_G) (I : Nat → Nat → Int32) (J : Nat → Nat → Int64) (R : Nat → Nat → Option Nat) (K : Option Value → tm_H → Prop) : tm_A d 85 71 ls st (G, I, J, R) K ↔ tm_A d 85 74 ls (.ref G.1 :: st) (tm_nw (0, 1) 5 (G, I, J, R)) K := tm_s o85_71 rfl rfl rfl
theorem o85_74 : tm_op 85 74 = some (.dup, (0, 0, 0, 0)) := rfl
theorem r85_74 (d : Nat) (v : Nat) (ls : tm_Lo) (st : List Value) (h : tm_H) (K : Option Value → tm_H → Prop) : tm_A d 85 74 ls (.ref v :: st) h K ↔ tm_A d 85 75 ls (.ref v :: .ref v :: st) h K := tm_s o85_74 rfl rfl rfl
theorem r85_74i (d : Nat) (v : Int32) (ls : tm_Lo) (st : List Value) (h : tm_H) (K : Option Value → tm_H → Prop) : tm_A d 85 74 ls (.int v :: st) h K ↔ tm_A d 85 75 ls (.int v :: .int v :: st) h K := tm_s o85_74 rfl rfl rfl
theorem o85_75 : tm_op 85 75 = some (.invokespecial 53, (3, 13, 1, 0)) := rfl
theorem r85_75 (d : Nat) (a : Nat) (ls : tm_Lo) (st : List Value) (h : tm_H) (K : Option Value → tm_H → Prop) : tm_A (d + 1) 85 75 ls (.ref a :: st) h K ↔ tm_cs st ∧ tm_R d 13 [.ref a] h (fun r h' => tm_A (d + 1) 85 78 ls (r.toList ++ st) h' K) := tm_callI (as := []) o85_75 rfl rfl rfl rfl
theorem o85_78 : tm_op 85 78 = some (.putfield 54, (2, 9, 6, 0)) := rfl
theorem r85_78 (d : Nat) (v : Nat) (a : Nat) (ls : tm_Lo) (st : List Value) (G : tm_G) (I : Nat → Nat → Int32) (J : Nat → Nat → Int64) (R : Nat → Nat → Option Nat) (K : Option Value → tm_H → Prop) : tm_A d 85 78 ls (.ref v :: .ref a :: st) (G, I, J, R) K ↔ G.2.2 a = (0, 9) ∧ tm_A d 85 81 ls st (G, I, J, up2 R a 6 (some v)) K := tm_putR o85_78
theorem o85_81 : tm_op 85 81 = some (.aload_n 0, (0, 0, 0, 0)) := rfl
theorem r85_81 (d : Nat) (v : Nat) (st : List Value) (h : tm_H) (K : Option Value → tm_H → Prop) : tm_A d 85 81 [some (.ref v)] st h K ↔ tm_A d 85 82 [some (.ref v)] (.ref v :: st) h K := tm_s o85_81 rfl rfl rfl
theorem o85_82 : tm_op 85 82 = some (.iconst 0, (0, 0, 0, 0)) := rfl
theorem r85_82 (d : Nat) (ls : tm_Lo) (st : List Value) (h : tm_H) (K : Option Value → tm_H → Prop) : tm_A d 85 82 ls st h K ↔ tm_A d 85 83 ls (.int (0 : Int32) :: st) h K := tm_ic o85_82 (by decide)
theorem o85_83 : tm_op 85 83 = some (.putfield 58, (0, 9, 7, 0)) := rfl
theorem r85_83 (d : Nat) (v : Int32) (a : Nat) (ls : tm_Lo) (st : List Value) (G : tm_G) (I : Nat → Nat → Int32) (J : Nat → Nat → Int64) (R : Nat → Nat → Option Nat) (K : Option Value → tm_H → Prop) : tm_A d 85 83 ls (.int v :: .ref a :: st) (G, I, J, R) K ↔ G.2.2 a = (0, 9) ∧ tm_A d 85 86 ls st (G, up2 I a 7 v, J, R) K := tm_putI o85_83
theorem o85_86 : tm_op 85 86 = some (.aload_n 0, (0, 0, 0, 0)) := rfl
theorem r85_86 (d : Nat) (v : Nat) (st : List Value) (h : tm_H) (K : Option Value → tm_H → Prop) : tm_A d 85 86 [some (.ref v)] st h K ↔ tm_A d 85 87 [some (.ref v)] (.ref v :: st) h K := tm_s o85_86 rfl rfl rfl
theorem o85_87 : tm_op 85 87 = some (.bipush 10, (0, 0, 0, 0)) := rfl
theorem r85_87 (d : Nat) (ls : tm_Lo) (st : List Value) (h : tm_H) (K : Option Value → tm_H → Prop) : tm_A d 85 87 ls st h K ↔ tm_A d 85 89 ls (.int (10 : Int32) :: st) h K := tm_bp o85_87 (by decide)
theorem o85_89 : tm_op 85 89 = some (.putfield 62, (0, 9, 8, 0)) := rfl
theorem r85_89 (d : Nat) (v : Int32) (a : Nat) (ls : tm_Lo) (st : List Value) (G : tm_G) (I : Nat → Nat → Int32) (J : Nat → Nat → Int64) (R : Nat → Nat → Option Nat) (K : Option Value → tm_H → Prop) : tm_A d 85 89 ls (.int v :: .ref a :: st) (G, I, J, R) K ↔ G.2.2 a = (0, 9) ∧ tm_A d 85 92 ls st (G, up2 I a 8 v, J, R) K := tm_putI o85_89
theorem o85_92 : tm_op 85 92 = some (.aload_n 0, (0, 0, 0, 0)) := rfl
theorem r85_92 (d : Nat) (v : Nat) (st : List Value) (h : tm_H) (K : Option Value → tm_H → Prop) : tm_A d 85 92 [some (.ref v)] st h K ↔ tm_A d 85 93 [some (.ref v)] (.ref v :: st) h K := tm_s o85_92 rfl rfl rfl
theorem o85_93 : tm_op 85 93 = some (.iconst 3, (0, 0, 0, 0)) := rfl
theorem r85_93 (d : Nat) (ls : tm_Lo) (st : List Value) (h : tm_H) (K : Option Value → tm_H → Prop) : tm_A d 85 93 ls st h K ↔ tm_A d 85 94 ls (.int (3 : Int32) :: st) h K := tm_ic o85_93 (by decide)
theorem o85_94 : tm_op 85 94 = some (.putfield 65, (0, 9, 9, 0)) := rfl
theorem r85_94 (d : Nat) (v : Int32) (a : Nat) (ls : tm_Lo) (st : List Value) (G : tm_G) (I : Nat → Nat → Int32) (J : Nat → Nat → Int64) (R : Nat → Nat → Option Nat) (K : Option Value → tm_H → Prop) : tm_A d 85 94 ls (.int v :: .ref a :: st) (G, I, J, R) K ↔ G.2.2 a = (0, 9) ∧ tm_A d 85 97 ls st (G, up2 I a 9 v, J, R) K := tm_putI o85_94
theorem o85_97 : tm_op 85 97 = some (.aload_n 0, (0, 0, 0, 0)) := rfl
theorem r85_97 (d : Nat) (v : Nat) (st : List Value) (h : tm_H) (K : Option Value → tm_H → Prop) : tm_A d 85 97 [some (.ref v)] st h K ↔ tm_A d 85 98 [some (.ref v)] (.ref v :: st) h K := tm_s o85_97 rfl rfl rfl
theorem o85_98 : tm_op 85 98 = some (.iconst (-1), (0, 0, 0, 0)) := rfl
theorem r85_98 (d : Nat) (ls : tm_Lo) (st : List Value) (h : tm_H) (K : Option Value → tm_H → Prop) : tm_A d 85 98 ls st h K ↔ tm_A d 85 99 ls (.int (-1 : Int32) :: st) h K := tm_ic o85_98 (by decide)
theorem o85_99 : tm_op 85 99 = some (.putfield 68, (0, 9, 10, 0)) := rfl
theorem r85_99 (d : Nat) (v : Int32) (a : Nat) (ls : tm_Lo) (st : List Value) (G : tm_G) (I : Nat → Nat → Int32) (J : Nat → Nat → Int64) (R : Nat → Nat → Option Nat) (K : Option Value → tm_H → Prop) : tm_A d 85 99 ls (.int v :: .ref a :: st) (G, I, J, R) K ↔ G.2.2 a = (0, 9) ∧ tm_A d 85 102 ls st (G, up2 I a 10 v, J, R) K := tm_putI o85_99
theorem o85_102 : tm_op 85 102 = some (.aload_n 0, (0, 0, 0, 0)) := rfl
theorem r85_102 (d : Nat) (v : Nat) (st : List Value) (h : tm_H) (K : Option Value → tm_H → Prop) : tm_A d 85 102 [some (.ref v)] st h K ↔ tm_A d 85 103 [some (.ref v)] (.ref v :: st) h K := tm_s o85_102 rfl rfl rfl
theorem o85_103 : tm_op 85 103 = some (.iconst 0, (0, 0, 0, 0)) := rfl
theorem r85_103 (d : Nat) (ls : tm_Lo) (st : List Value) (h : tm_H) (K : Option Value → tm_H → Prop) : tm_A d 85 103 ls st h K ↔ tm_A d 85 104 ls (.int (0 : Int32) :: st) h K := tm_ic o85_103 (by decide)
theorem o85_104 : tm_op 85 104 = some (.putfield 71, (3, 9, 11, 0)) := rfl
theorem r85_104 (d : Nat) (v : Int32) (a : Nat) (ls : tm_Lo) (st : List Value) (G : tm_G) (I : Nat → Nat → Int32) (J : Nat → Nat → Int64) (R : Nat → Nat → Option Nat) (K : Option Value → tm_H → Prop) : tm_A d 85 104 ls (.int v :: .ref a :: st) (G, I, J, R) K ↔ (G.2.2 a = (0, 9) ∧ (v = 0 ∨ v = 1)) ∧ tm_A d 85 107 ls st (G, up2 I a 11 v, J, R) K := tm_putZ o85_104
theorem o85_107 : tm_op 85 107 = some (.aload_n 0, (0, 0, 0, 0)) := rfl
theorem r85_107 (d : Nat) (v : Nat) (st : List Value) (h : tm_H) (K : Option Value → tm_H → Prop) : tm_A d 85 107 [some (.ref v)] st h K ↔ tm_A d 85 108 [some (.ref v)] (.ref v :: st) h K := tm_s o85_107 rfl rfl rfl
theorem o85_108 : tm_op 85 108 = some (.iconst 0, (0, 0, 0, 0)) := rfl
theorem r85_108 (d : Nat) (ls : tm_Lo) (st : List Value) (h : tm_H) (K : Option Value → tm_H → Prop) : tm_A d 85 108 ls st h K ↔ tm_A d 85 109 ls (.int (0 : Int32) :: st) h K := tm_ic o85_108 (by decide)
theorem o85_109 : tm_op 85 109 = some (.putfield 75, (3, 9, 12, 0)) := rfl
theorem r85_109 (d : Nat) (v : Int32) (a : Nat) (ls : tm_Lo) (st : List Value) (G : tm_G) (I : Nat → Nat → Int32) (J : Nat → Nat → Int64) (R : Nat → Nat → Option Nat) (K : Option Value → tm_H → Prop) : tm_A d 85 109 ls (.int v :: .ref a :: st) (G, I, J, R) K ↔ (G.2.2 a = (0, 9) ∧ (v = 0 ∨ v = 1)) ∧ tm_A d 85 112 ls st (G, up2 I a 12 v, J, R) K := tm_putZ o85_109
theorem o85_112 : tm_op 85 112 = some (.return_, (0, 0, 0, 0)) := rfl
theorem r85_112 (d : Nat) (ls : tm_Lo) (h : tm_H) (K : Option Value → tm_H → Prop) : tm_A d 85 112 ls [] h K ↔ K none h := tm_retv o85_112 rfl
theorem o86_0 : tm_op 86 0 = some (.iload_n 1, (0, 0, 0, 0)) := rfl
theorem r86_0 (d : Nat) (v : Int32) (l0 : Option Value) (st : List Value) (h : tm_H) (K : Option Value → tm_H → Prop) : tm_A d 86 0 [l0, some (.int v)] st h K ↔ tm_A d 86 1 [l0, some (.int v)] (.int v :: st) h K := tm_s o86_0 rfl rfl rfl
theorem o86_1 : tm_op 86 1 = some (.ifCond .lt 22, (0, 0, 0, 0)) := rfl
theorem r86_1 (d : Nat) (x : Int32) (ls : tm_Lo) (st : List Value) (h : tm_H) (K : Option Value → tm_H → Prop) : tm_A d 86 1 ls (.int x :: st) h K ↔ if x < 0 then tm_A d 86 23 ls st h K else tm_A d 86 4 ls st h K := tm_b o86_1 rfl rfl rfl rfl
theorem o86_4 : tm_op 86 4 = some (.iload_n 1, (0, 0, 0, 0)) := rfl
theorem r86_4 (d : Nat) (v : Int32) (l0 : Option Value) (st : List Value) (h : tm_H) (K : Option Value → tm_H → Prop) : tm_A d 86 4 [l0, some (.int v)] st h K ↔ tm_A d 86 5 [l0, some (.int v)] (.int v :: st) h K := tm_s o86_4 rfl rfl rfl
theorem o86_5 : tm_op 86 5 = some (.sipush 1000, (0, 0, 0, 0)) := rfl
theorem r86_5 (d : Nat) (ls : tm_Lo) (st : List Value) (h : tm_H) (K : Option Value → tm_H → Prop) : tm_A d 86 5 ls st h K ↔ tm_A d 86 8 ls (.int (1000 : Int32) :: st) h K := tm_sp o86_5 (by decide)
theorem o86_8 : tm_op 86 8 = some (.if_icmp .gt 15, (0, 0, 0, 0)) := rfl
theorem r86_8 (d : Nat) (y x : Int32) (ls : tm_Lo) (st : List Value) (h : tm_H) (K : Option Value → tm_H → Prop) : tm_A d 86 8 ls (.int y :: .int x :: st) h K ↔ if y < x then tm_A d 86 23 ls st h K else tm_A d 86 11 ls st h K := tm_b o86_8 rfl rfl rfl rfl
theorem o86_11 : tm_op 86 11 = some (.aload_n 0, (0, 0, 0, 0)) := rfl
theorem r86_11 (d : Nat) (v : Nat) (l1 : Option Value) (st : List Value) (h : tm_H) (K : Option Value → tm_H → Prop) : tm_A d 86 11 [some (.ref v), l1] st h K ↔ tm_A d 86 12 [some (.ref v), l1] (.ref v :: st) h K := tm_s o86_11 rfl rfl rfl
theorem o86_12 : tm_op 86 12 = some (.getfield 58, (0, 9, 7, 0)) := rfl
theorem r86_12 (d : Nat) (a : Nat) (ls : tm_Lo) (st : List Value) (G : tm_G) (I : Nat → Nat → Int32) (J : Nat → Nat → Int64) (R : Nat → Nat → Option Nat) (K : Option Value → tm_H → Prop) : tm_A d 86 12 ls (.ref a :: st) (G, I, J, R) K ↔ G.2.2 a = (0, 9) ∧ tm_A d 86 15 ls (.int (I a 7) :: st) (G, I, J, R) K := tm_getI o86_12
theorem o86_15 : tm_op 86 15 = some (.iload_n 1, (0, 0, 0, 0)) := rfl
theorem r86_15 (d : Nat) (v : Int32) (l0 : Option Value) (st : List Value) (h : tm_H) (K : Option Value → tm_H → Prop) : tm_A d 86 15 [l0, some (.int v)] st h K ↔ tm_A d 86 16 [l0, some (.int v)] (.int v :: st) h K := tm_s o86_15 rfl rfl rfl
theorem o86_16 : tm_op 86 16 = some (.iadd, (0, 0, 0, 0)) := rfl
theorem r86_16 (d : Nat) (u v : Int32) (ls : tm_Lo) (st : List Value) (h : tm_H) (K : Option Value → tm_H → Prop) : tm_A d 86 16 ls (.int u :: .int v :: st) h K ↔ tm_A d 86 17 ls (.int (v + u) :: st) h K := tm_s o86_16 rfl rfl rfl
theorem o86_17 : tm_op 86 17 = some (.sipush 1000, (0, 0, 0, 0)) := rfl
theorem r86_17 (d : Nat) (ls : tm_Lo) (st : List Value) (h : tm_H) (K : Option Value → tm_H → Prop) : tm_A d 86 17 ls st h K ↔ tm_A d 86 20 ls (.int (1000 : Int32) :: st) h K := tm_sp o86_17 (by decide)
theorem o86_20 : tm_op 86 20 = some (.if_icmp .le 5, (0, 0, 0, 0)) := rfl
theorem r86_20 (d : Nat) (y x : Int32) (ls : tm_Lo) (st : List Value) (h : tm_H) (K : Option Value → tm_H → Prop) : tm_A d 86 20 ls (.int y :: .int x :: st) h K ↔ if x ≤ y then tm_A d 86 25 ls st h K else tm_A d 86 23 ls st h K := tm_b o86_20 rfl rfl rfl rfl
theorem o86_23 : tm_op 86 23 = some (.iconst (-1), (0, 0, 0, 0)) := rfl
theorem r86_23 (d : Nat) (ls : tm_Lo) (st : List Value) (h : tm_H) (K : Option Value → tm_H → Prop) : tm_A d 86 23 ls st h K ↔ tm_A d 86 24 ls (.int (-1 : Int32) :: st) h K := tm_ic o86_23 (by decide)
theorem o86_24 : tm_op 86 24 = some (.ireturn, (0, 0, 0, 0)) := rfl
theorem r86_24 (d : Nat) (v : Int32) (ls : tm_Lo) (h : tm_H) (K : Option Value → tm_H → Prop) : tm_A d 86 24 ls [.int v] h K ↔ K (some (.int v)) h := tm_reti o86_24 rfl
theorem o86_25 : tm_op 86 25 = some (.aload_n 0, (0, 0, 0, 0)) := rfl
theorem r86_25 (d : Nat) (v : Nat) (l1 : Option Value) (st : List Value) (h : tm_H) (K : Option Value → tm_H → Prop) : tm_A d 86 25 [some (.ref v), l1] st h K ↔ tm_A d 86 26 [some (.ref v), l1] (.ref v :: st) h K := tm_s o86_25 rfl rfl rfl
theorem o86_26 : tm_op 86 26 = some (.dup, (0, 0, 0, 0)) := rfl
theorem r86_26 (d : Nat) (v : Nat) (ls : tm_Lo) (st : List Value) (h : tm_H) (K : Option Value → tm_H → Prop) : tm_A d 86 26 ls (.ref v :: st) h K ↔ tm_A d 86 27 ls (.ref v :: .ref v :: st) h K := tm_s o86_26 rfl rfl rfl
theorem r86_26i (d : Nat) (v : Int32) (ls : tm_Lo) (st : List Value) (h : tm_H) (K : Option Value → tm_H → Prop) : tm_A d 86 26 ls (.int v :: st) h K ↔ tm_A d 86 27 ls (.int v :: .int v :: st) h K := tm_s o86_26 rfl rfl rfl
theorem o86_27 : tm_op 86 27 = some (.getfield 58, (0, 9, 7, 0)) := rfl
theorem r86_27 (d : Nat) (a : Nat) (ls : tm_Lo) (st : List Value) (G : tm_G) (I : Nat → Nat → Int32) (J : Nat → Nat → Int64) (R : Nat → Nat → Option Nat) (K : Option Value → tm_H → Prop) : tm_A d 86 27 ls (.ref a :: st) (G, I, J, R) K ↔ G.2.2 a = (0, 9) ∧ tm_A d 86 30 ls (.int (I a 7) :: st) (G, I, J, R) K := tm_getI o86_27
theorem o86_30 : tm_op 86 30 = some (.iload_n 1, (0, 0, 0, 0)) := rfl
theorem r86_30 (d : Nat) (v : Int32) (l0 : Option Value) (st : List Value) (h : tm_H) (K : Option Value → tm_H → Prop) : tm_A d 86 30 [l0, some (.int v)] st h K ↔ tm_A d 86 31 [l0, some (.int v)] (.int v :: st) h K := tm_s o86_30 rfl rfl rfl
theorem o86_31 : tm_op 86 31 = some (.iadd, (0, 0, 0, 0)) := rfl
theorem r86_31 (d : Nat) (u v : Int32) (ls : tm_Lo) (st : List Value) (h : tm_H) (K : Option Value → tm_H → Prop) : tm_A d 86 31 ls (.int u :: .int v :: st) h K ↔ tm_A d 86 32 ls (.int (v + u) :: st) h K := tm_s o86_31 rfl rfl rfl
theorem o86_32 : tm_op 86 32 = some (.putfield 58, (0, 9, 7, 0)) := rfl
theorem r86_32 (d : Nat) (v : Int32) (a : Nat) (ls : tm_Lo) (st : List Value) (G : tm_G) (I : Nat → Nat → Int32) (J : Nat → Nat → Int64) (R : Nat → Nat → Option Nat) (K : Option Value → tm_H → Prop) : tm_A d 86 32 ls (.int v :: .ref a :: st) (G, I, J, R) K ↔ G.2.2 a = (0, 9) ∧ tm_A d 86 35 ls st (G, up2 I a 7 v, J, R) K := tm_putI o86_32
theorem o86_35 : tm_op 86 35 = some (.aload_n 0, (0, 0, 0, 0)) := rfl
theorem r86_35 (d : Nat) (v : Nat) (l1 : Option Value) (st : List Value) (h : tm_H) (K : Option Value → tm_H → Prop) : tm_A d 86 35 [some (.ref v), l1] st h K ↔ tm_A d 86 36 [some (.ref v), l1] (.ref v :: st) h K := tm_s o86_35 rfl rfl rfl
theorem o86_36 : tm_op 86 36 = some (.getfield 58, (0, 9, 7, 0)) := rfl
theorem r86_36 (d : Nat) (a : Nat) (ls : tm_Lo) (st : List Value) (G : tm_G) (I : Nat → Nat → Int32) (J : Nat → Nat → Int64) (R : Nat → Nat → Option Nat) (K : Option Value → tm_H → Prop) : tm_A d 86 36 ls (.ref a :: st) (G, I, J, R) K ↔ G.2.2 a = (0, 9) ∧ tm_A d 86 39 ls (.int (I a 7) :: st) (G, I, J, R) K := tm_getI o86_36
theorem o86_39 : tm_op 86 39 = some (.ireturn, (0, 0, 0, 0)) := rfl
theorem r86_39 (d : Nat) (v : Int32) (ls : tm_Lo) (h : tm_H) (K : Option Value → tm_H → Prop) : tm_A d 86 39 ls [.int v] h K ↔ K (some (.int v)) h := tm_reti o86_39 rfl
theorem o87_0 : tm_op 87 0 = some (.iload_n 1, (0, 0, 0, 0)) := rfl
theorem r87_0 (d : Nat) (v : Int32) (l0 l2 l3 l4 l5 l6 : Option Value) (st : List Value) (h : tm_H) (K : Option Value → tm_H → Prop) : tm_A d 87 0 [l0, some (.int v), l2, l3, l4, l5, l6] st h K ↔ tm_A d 87 1 [l0, some (.int v), l2, l3, l4, l5, l6] (.int v :: st) h K := tm_s o87_0 rfl rfl rfl
theorem o87_1 : tm_op 87 1 = some (.invokestatic 78, (1, 70, 1, 0)) := rfl
theorem r87_1 (d : Nat) (v0 : Int32) (ls : tm_Lo) (st : List Value) (h : tm_H) (K : Option Value → tm_H → Prop) : tm_A (d + 1) 87 1 ls (.int v0 :: st) h K ↔ tm_cs st ∧ tm_R d 70 [.int v0] h (fun r h' => tm_A (d + 1) 87 4 ls (r.toList ++ st) h' K) := tm_callS (as := [.int v0]) o87_1 rfl rfl rfl rfl
theorem o87_4 : tm_op 87 4 = some (.iload_n 2, (0, 0, 0, 0)) := rfl
theorem r87_4 (d : Nat) (v : Int32) (l0 l1 l3 l4 l5 l6 : Option Value) (st : List Value) (h : tm_H) (K : Option Value → tm_H → Prop) : tm_A d 87 4 [l0, l1, some (.int v), l3, l4, l5, l6] st h K ↔ tm_A d 87 5 [l0, l1, some (.int v), l3, l4, l5, l6] (.int v :: st) h K := tm_s o87_4 rfl rfl rfl
theorem o87_5 : tm_op 87 5 = some (.invokestatic 78, (1, 70, 1, 0)) := rfl
theorem r87_5 (d : Nat) (v0 : Int32) (ls : tm_Lo) (st : List Value) (h : tm_H) (K : Option Value → tm_H → Prop) : tm_A (d + 1) 87 5 ls (.int v0 :: st) h K ↔ tm_cs st ∧ tm_R d 70 [.int v0] h (fun r h' => tm_A (d + 1) 87 8 ls (r.toList ++ st) h' K) := tm_callS (as := [.int v0]) o87_5 rfl rfl rfl rfl
theorem o87_8 : tm_op 87 8 = some (.iadd, (0, 0, 0, 0)) := rfl
theorem r87_8 (d : Nat) (u v : Int32) (ls : tm_Lo) (st : List Value) (h : tm_H) (K : Option Value → tm_H → Prop) : tm_A d 87 8 ls (.int u :: .int v :: st) h K ↔ tm_A d 87 9 ls (.int (v + u) :: st) h K := tm_s o87_8 rfl rfl rfl
theorem o87_9 : tm_op 87 9 = some (.iload_n 3, (0, 0, 0, 0)) := rfl
theorem r87_9 (d : Nat) (v : Int32) (l0 l1 l2 l4 l5 l6 : Option Value) (st : List Value) (h : tm_H) (K : Option Value → tm_H → Prop) : tm_A d 87 9 [l0, l1, l2, some (.int v), l4, l5, l6] st h K ↔ tm_A d 87 10 [l0, l1, l2, some (.int v), l4, l5, l6] (.int v :: st) h K := tm_s o87_9 rfl rfl rfl
theorem o87_10 : tm_op 87 10 = some (.invokestatic 78, (1, 70, 1, 0)) := rfl
theorem r87_10 (d : Nat) (v0 : Int32) (ls : tm_Lo) (st : List Value) (h : tm_H) (K : Option Value → tm_H → Prop) : tm_A (d + 1) 87 10 ls (.int v0 :: st) h K ↔ tm_cs st ∧ tm_R d 70 [.int v0] h (fun r h' => tm_A (d + 1) 87 13 ls (r.toList ++ st) h' K) := tm_callS (as := [.int v0]) o87_10 rfl rfl rfl rfl
theorem o87_13 : tm_op 87 13 = some (.iadd, (0, 0, 0, 0)) := rfl
theorem r87_13 (d : Nat) (u v : Int32) (ls : tm_Lo) (st : List Value) (h : tm_H) (K : Option Value → tm_H → Prop) : tm_A d 87 13 ls (.int u :: .int v :: st) h K ↔ tm_A d 87 14 ls (.int (v + u) :: st) h K := tm_s o87_13 rfl rfl rfl
theorem o87_14 : tm_op 87 14 = some (.iload 4, (0, 0, 0, 0)) := rfl
theorem r87_14 (d : Nat) (v : Int32) (l0 l1 l2 l3 l5 l6 : Option Value) (st : List Value) (h : tm_H) (K : Option Value → tm_H → Prop) : tm_A d 87 14 [l0, l1, l2, l3, some (.int v), l5, l6] st h K ↔ tm_A d 87 16 [l0, l1, l2, l3, some (.int v), l5, l6] (.int v :: st) h K := tm_s o87_14 rfl rfl rfl
theorem o87_16 : tm_op 87 16 = some (.invokestatic 78, (1, 70, 1, 0)) := rfl
theorem r87_16 (d : Nat) (v0 : Int32) (ls : tm_Lo) (st : List Value) (h : tm_H) (K : Option Value → tm_H → Prop) : tm_A (d + 1) 87 16 ls (.int v0 :: st) h K ↔ tm_cs st ∧ tm_R d 70 [.int v0] h (fun r h' => tm_A (d + 1) 87 19 ls (r.toList ++ st) h' K) := tm_callS (as := [.int v0]) o87_16 rfl rfl rfl rfl
theorem o87_19 : tm_op 87 19 = some (.iadd, (0, 0, 0, 0)) := rfl
theorem r87_19 (d : Nat) (u v : Int32) (ls : tm_Lo) (st : List Value) (h : tm_H) (K : Option Value → tm_H → Prop) : tm_A d 87 19 ls (.int u :: .int v :: st) h K ↔ tm_A d 87 20 ls (.int (v + u) :: st) h K := tm_s o87_19 rfl rfl rfl
theorem o87_20 : tm_op 87 20 = some (.iload 5, (0, 0, 0, 0)) := rfl
theorem r87_20 (d : Nat) (v : Int32) (l0 l1 l2 l3 l4 l6 : Option Value) (st : List Value) (h : tm_H) (K : Option Value → tm_H → Prop) : tm_A d 87 20 [l0, l1, l2, l3, l4, some (.int v), l6] st h K ↔ tm_A d 87 22 [l0, l1, l2, l3, l4, some (.int v), l6] (.int v :: st) h K := tm_s o87_20 rfl rfl rfl
theorem o87_22 : tm_op 87 22 = some (.invokestatic 78, (1, 70, 1, 0)) := rfl
theorem r87_22 (d : Nat) (v0 : Int32) (ls : tm_Lo) (st : List Value) (h : tm_H) (K : Option Value → tm_H → Prop) : tm_A (d + 1) 87 22 ls (.int v0 :: st) h K ↔ tm_cs st ∧ tm_R d 70 [.int v0] h (fun r h' => tm_A (d + 1) 87 25 ls (r.toList ++ st) h' K) := tm_callS (as := [.int v0]) o87_22 rfl rfl rfl rfl
theorem o87_25 : tm_op 87 25 = some (.iadd, (0, 0, 0, 0)) := rfl
theorem r87_25 (d : Nat) (u v : Int32) (ls : tm_Lo) (st : List Value) (h : tm_H) (K : Option Value → tm_H → Prop) : tm_A d 87 25 ls (.int u :: .int v :: st) h K ↔ tm_A d 87 26 ls (.int (v + u) :: st) h K := tm_s o87_25 rfl rfl rfl
theorem o87_26 : tm_op 87 26 = some (.istore 6, (0, 0, 0, 0)) := rfl
theorem r87_26 (d : Nat) (v : Int32) (l0 l1 l2 l3 l4 l5 l6 : Option Value) (st : List Value) (h : tm_H) (K : Option Value → tm_H → Prop) : tm_A d 87 26 [l0, l1, l2, l3, l4, l5, l6] (.int v :: st) h K ↔ tm_A d 87 28 [l0, l1, l2, l3, l4, l5, some (.int v)] st h K := tm_s o87_26 rfl rfl rfl
theorem o87_28 : tm_op 87 28 = some (.aload_n 0, (0, 0, 0, 0)) := rfl
theorem r87_28 (d : Nat) (v : Nat) (l1 l2 l3 l4 l5 l6 : Option Value) (st : List Value) (h : tm_H) (K : Option Value → tm_H → Prop) : tm_A d 87 28 [some (.ref v), l1, l2, l3, l4, l5, l6] st h K ↔ tm_A d 87 29 [some (.ref v), l1, l2, l3, l4, l5, l6] (.ref v :: st) h K := tm_s o87_28 rfl rfl rfl
theorem o87_29 : tm_op 87 29 = some (.getfield 10, (2, 9, 0, 0)) := rfl
theorem r87_29 (d : Nat) (a : Nat) (ls : tm_Lo) (st : List Value) (G : tm_G) (I : Nat → Nat → Int32) (J : Nat → Nat → Int64) (R : Nat → Nat → Option Nat) (K : Option Value → tm_H → Prop) : tm_A d 87 29 ls (.ref a :: st) (G, I, J, R) K ↔ G.2.2 a = (0, 9) ∧ tm_A d 87 32 ls (tm_rf (R a 0) :: st) (G, I, J, R) K := tm_getR o87_29
theorem o87_32 : tm_op 87 32 = some (.invokevirtual 82, (2, 71, 1, 7)) := rfl
theorem r87_32 (d : Nat) (a : Nat) (ls : tm_Lo) (st : List Value) (h : tm_H) (K : Option Value → tm_H → Prop) : tm_A (d + 1) 87 32 ls (.ref a :: st) h K ↔ (h.1.2.2 a = (0, 7) ∧ tm_cs st) ∧ tm_R d 71 [.ref a] h (fun r h' => tm_A (d + 1) 87 35 ls (r.toList ++ st) h' K) := tm_callV (as := []) o87_32 rfl rfl rfl rfl
theorem o87_35 : tm_op 87 35 = some (.iload 6, (0, 0, 0, 0)) := rfl
theorem r87_35 (d : Nat) (v : Int32) (l0 l1 l2 l3 l4 l5 : Option Value) (st : List Value) (h : tm_H) (K : Option Value → tm_H → Prop) : tm_A d 87 35 [l0, l1, l2, l3, l4, l5, some (.int v)] st h K ↔ tm_A d 87 37 [l0, l1, l2, l3, l4, l5, some (.int v)] (.int v :: st) h K := tm_s o87_35 rfl rfl rfl
theorem o87_37 : tm_op 87 37 = some (.iadd, (0, 0, 0, 0)) := rfl
theorem r87_37 (d : Nat) (u v : Int32) (ls : tm_Lo) (st : List Value) (h : tm_H) (K : Option Value → tm_H → Prop) : tm_A d 87 37 ls (.int u :: .int v :: st) h K ↔ tm_A d 87 38 ls (.int (v + u) :: st) h K := tm_s o87_37 rfl rfl rfl
theorem o87_38 : tm_op 87 38 = some (.bipush 100, (0, 0, 0, 0)) := rfl
theorem r87_38 (d : Nat) (ls : tm_Lo) (st : List Value) (h : tm_H) (K : Option Value → tm_H → Prop) : tm_A d 87 38 ls st h K ↔ tm_A d 87 40 ls (.int (100 : Int32) :: st) h K := tm_bp o87_38 (by decide)
theorem o87_40 : tm_op 87 40 = some (.if_icmp .le 5, (0, 0, 0, 0)) := rfl
theorem r87_40 (d : Nat) (y x : Int32) (ls : tm_Lo) (st : List Value) (h : tm_H) (K : Option Value → tm_H → Prop) : tm_A d 87 40 ls (.int y :: .int x :: st) h K ↔ if x ≤ y then tm_A d 87 45 ls st h K else tm_A d 87 43 ls st h K := tm_b o87_40 rfl rfl rfl rfl
theorem o87_43 : tm_op 87 43 = some (.iconst (-1), (0, 0, 0, 0)) := rfl
theorem r87_43 (d : Nat) (ls : tm_Lo) (st : List Value) (h : tm_H) (K : Option Value → tm_H → Prop) : tm_A d 87 43 ls st h K ↔ tm_A d 87 44 ls (.int (-1 : Int32) :: st) h K := tm_ic o87_43 (by decide)
theorem o87_44 : tm_op 87 44 = some (.ireturn, (0, 0, 0, 0)) := rfl
theorem r87_44 (d : Nat) (v : Int32) (ls : tm_Lo) (h : tm_H) (K : Option Value → tm_H → Prop) : tm_A d 87 44 ls [.int v] h K ↔ K (some (.int v)) h := tm_reti o87_44 rfl
theorem o87_45 : tm_op 87 45 = some (.aload_n 0, (0, 0, 0, 0)) := rfl
theorem r87_45 (d : Nat) (v : Nat) (l1 l2 l3 l4 l5 l6 : Option Value) (st : List Value) (h : tm_H) (K : Option Value → tm_H → Prop) : tm_A d 87 45 [some (.ref v), l1, l2, l3, l4, l5, l6] st h K ↔ tm_A d 87 46 [some (.ref v), l1, l2, l3, l4, l5, l6] (.ref v :: st) h K := tm_s o87_45 rfl rfl rfl
theorem o87_46 : tm_op 87 46 = some (.getfield 10, (2, 9, 0, 0)) := rfl
theorem r87_46 (d : Nat) (a : Nat) (ls : tm_Lo) (st : List Value) (G : tm_G) (I : Nat → Nat → Int32) (J : Nat → Nat → Int64) (R : Nat → Nat → Option Nat) (K : Option Value → tm_H → Prop) : tm_A d 87 46 ls (.ref a :: st) (G, I, J, R) K ↔ G.2.2 a = (0, 9) ∧ tm_A d 87 49 ls (tm_rf (R a 0) :: st) (G, I, J, R) K := tm_getR o87_46
theorem o87_49 : tm_op 87 49 = some (.iload_n 1, (0, 0, 0, 0)) := rfl
theorem r87_49 (d : Nat) (v : Int32) (l0 l2 l3 l4 l5 l6 : Option Value) (st : List Value) (h : tm_H) (K : Option Value → tm_H → Prop) : tm_A d 87 49 [l0, some (.int v), l2, l3, l4, l5, l6] st h K ↔ tm_A d 87 50 [l0, some (.int v), l2, l3, l4, l5, l6] (.int v :: st) h K := tm_s o87_49 rfl rfl rfl
theorem o87_50 : tm_op 87 50 = some (.invokevirtual 86, (2, 72, 2, 7)) := rfl
theorem r87_50 (d : Nat) (v1 : Int32) (a : Nat) (ls : tm_Lo) (st : List Value) (h : tm_H) (K : Option Value → tm_H → Prop) : tm_A (d + 1) 87 50 ls (.int v1 :: .ref a :: st) h K ↔ (h.1.2.2 a = (0, 7) ∧ tm_cs st) ∧ tm_R d 72 [.ref a, .int v1] h (fun r h' => tm_A (d + 1) 87 53 ls (r.toList ++ st) h' K) := tm_callV (as := [.int v1]) o87_50 rfl rfl rfl rfl
theorem o87_53 : tm_op 87 53 = some (.aload_n 0, (0, 0, 0, 0)) := rfl
theorem r87_53 (d : Nat) (v : Nat) (l1 l2 l3 l4 l5 l6 : Option Value) (st : List Value) (h : tm_H) (K : Option Value → tm_H → Prop) : tm_A d 87 53 [some (.ref v), l1, l2, l3, l4, l5, l6] st h K ↔ tm_A d 87 54 [some (.ref v), l1, l2, l3, l4, l5, l6] (.ref v :: st) h K := tm_s o87_53 rfl rfl rfl
theorem o87_54 : tm_op 87 54 = some (.getfield 10, (2, 9, 0, 0)) := rfl
theorem r87_54 (d : Nat) (a : Nat) (ls : tm_Lo) (st : List Value) (G : tm_G) (I : Nat → Nat → Int32) (J : Nat → Nat → Int64) (R : Nat → Nat → Option Nat) (K : Option Value → tm_H → Prop) : tm_A d 87 54 ls (.ref a :: st) (G, I, J, R) K ↔ G.2.2 a = (0, 9) ∧ tm_A d 87 57 ls (tm_rf (R a 0) :: st) (G, I, J, R) K := tm_getR o87_54
theorem o87_57 : tm_op 87 57 = some (.iload_n 2, (0, 0, 0, 0)) := rfl
theorem r87_57 (d : Nat) (v : Int32) (l0 l1 l3 l4 l5 l6 : Option Value) (st : List Value) (h : tm_H) (K : Option Value → tm_H → Prop) : tm_A d 87 57 [l0, l1, some (.int v), l3, l4, l5, l6] st h K ↔ tm_A d 87 58 [l0, l1, some (.int v), l3, l4, l5, l6] (.int v :: st) h K := tm_s o87_57 rfl rfl rfl
theorem o87_58 : tm_op 87 58 = some (.invokevirtual 86, (2, 72, 2, 7)) := rfl
theorem r87_58 (d : Nat) (v1 : Int32) (a : Nat) (ls : tm_Lo) (st : List Value) (h : tm_H) (K : Option Value → tm_H → Prop) : tm_A (d + 1) 87 58 ls (.int v1 :: .ref a :: st) h K ↔ (h.1.2.2 a = (0, 7) ∧ tm_cs st) ∧ tm_R d 72 [.ref a, .int v1] h (fun r h' => tm_A (d + 1) 87 61 ls (r.toList ++ st) h' K) := tm_callV (as := [.int v1]) o87_58 rfl rfl rfl rfl
theorem o87_61 : tm_op 87 61 = some (.aload_n 0, (0, 0, 0, 0)) := rfl
theorem r87_61 (d : Nat) (v : Nat) (l1 l2 l3 l4 l5 l6 : Option Value) (st : List Value) (h : tm_H) (K : Option Value → tm_H → Prop) : tm_A d 87 61 [some (.ref v), l1, l2, l3, l4, l5, l6] st h K ↔ tm_A d 87 62 [some (.ref v), l1, l2, l3, l4, l5, l6] (.ref v :: st) h K := tm_s o87_61 rfl rfl rfl
theorem o87_62 : tm_op 87 62 = some (.getfield 10, (2, 9, 0, 0)) := rfl
theorem r87_62 (d : Nat) (a : Nat) (ls : tm_Lo) (st : List Value) (G : tm_G) (I : Nat → Nat → Int32) (J : Nat → Nat → Int64) (R : Nat → Nat → Option Nat) (K : Option Value → tm_H → Prop) : tm_A d 87 62 ls (.ref a :: st) (G, I, J, R) K ↔ G.2.2 a = (0, 9) ∧ tm_A d 87 65 ls (tm_rf (R a 0) :: st) (G, I, J, R) K := tm_getR o87_62
theorem o87_65 : tm_op 87 65 = some (.iload_n 3, (0, 0, 0, 0)) := rfl
theorem r87_65 (d : Nat) (v : Int32) (l0 l1 l2 l4 l5 l6 : Option Value) (st : List Value) (h : tm_H) (K : Option Value → tm_H → Prop) : tm_A d 87 65 [l0, l1, l2, some (.int v), l4, l5, l6] st h K ↔ tm_A d 87 66 [l0, l1, l2, some (.int v), l4, l5, l6] (.int v :: st) h K := tm_s o87_65 rfl rfl rfl
theorem o87_66 : tm_op 87 66 = some (.invokevirtual 86, (2, 72, 2, 7)) := rfl
theorem r87_66 (d : Nat) (v1 : Int32) (a : Nat) (ls : tm_Lo) (st : List Value) (h : tm_H) (K : Option Value → tm_H → Prop) : tm_A (d + 1) 87 66 ls (.int v1 :: .ref a :: st) h K ↔ (h.1.2.2 a = (0, 7) ∧ tm_cs st) ∧ tm_R d 72 [.ref a, .int v1] h (fun r h' => tm_A (d + 1) 87 69 ls (r.toList ++ st) h' K) := tm_callV (as := [.int v1]) o87_66 rfl rfl rfl rfl
theorem o87_69 : tm_op 87 69 = some (.aload_n 0, (0, 0, 0, 0)) := rfl
theorem r87_69 (d : Nat) (v : Nat) (l1 l2 l3 l4 l5 l6 : Option Value) (st : List Value) (h : tm_H) (K : Option Value → tm_H → Prop) : tm_A d 87 69 [some (.ref v), l1, l2, l3, l4, l5, l6] st h K ↔ tm_A d 87 70 [some (.ref v), l1, l2, l3, l4, l5, l6] (.ref v :: st) h K := tm_s o87_69 rfl rfl rfl
theorem o87_70 : tm_op 87 70 = some (.getfield 10, (2, 9, 0, 0)) := rfl
theorem r87_70 (d : Nat) (a : Nat) (ls : tm_Lo) (st : List Value) (G : tm_G) (I : Nat → Nat → Int32) (J : Nat → Nat → Int64) (R : Nat → Nat → Option Nat) (K : Option Value → tm_H → Prop) : tm_A d 87 70 ls (.ref a :: st) (G, I, J, R) K ↔ G.2.2 a = (0, 9) ∧ tm_A d 87 73 ls (tm_rf (R a 0) :: st) (G, I, J, R) K := tm_getR o87_70
theorem o87_73 : tm_op 87 73 = some (.iload 4, (0, 0, 0, 0)) := rfl
theorem r87_73 (d : Nat) (v : Int32) (l0 l1 l2 l3 l5 l6 : Option Value) (st : List Value) (h : tm_H) (K : Option Value → tm_H → Prop) : tm_A d 87 73 [l0, l1, l2, l3, some (.int v), l5, l6] st h K ↔ tm_A d 87 75 [l0, l1, l2, l3, some (.int v), l5, l6] (.int v :: st) h K := tm_s o87_73 rfl rfl rfl
theorem o87_75 : tm_op 87 75 = some (.invokevirtual 86, (2, 72, 2, 7)) := rfl
theorem r87_75 (d : Nat) (v1 : Int32) (a : Nat) (ls : tm_Lo) (st : List Value) (h : tm_H) (K : Option Value → tm_H → Prop) : tm_A (d + 1) 87 75 ls (.int v1 :: .ref a :: st) h K ↔ (h.1.2.2 a = (0, 7) ∧ tm_cs st) ∧ tm_R d 72 [.ref a, .int v1] h (fun r h' => tm_A (d + 1) 87 78 ls (r.toList ++ st) h' K) := tm_callV (as := [.int v1]) o87_75 rfl rfl rfl rfl
theorem o87_78 : tm_op 87 78 = some (.aload_n 0, (0, 0, 0, 0)) := rfl
theorem r87_78 (d : Nat) (v : Nat) (l1 l2 l3 l4 l5 l6 : Option Value) (st : List Value) (h : tm_H) (K : Option Value → tm_H → Prop) : tm_A d 87 78 [some (.ref v), l1, l2, l3, l4, l5, l6] st h K ↔ tm_A d 87 79 [some (.ref v), l1, l2, l3, l4, l5, l6] (.ref v :: st) h K := tm_s o87_78 rfl rfl rfl
theorem o87_79 : tm_op 87 79 = some (.getfield 10, (2, 9, 0, 0)) := rfl
theorem r87_79 (d : Nat) (a : Nat) (ls : tm_Lo) (st : List Value) (G : tm_G) (I : Nat → Nat → Int32) (J : Nat → Nat → Int64) (R : Nat → Nat → Option Nat) (K : Option Value → tm_H → Prop) : tm_A d 87 79 ls (.ref a :: st) (G, I, J, R) K ↔ G.2.2 a = (0, 9) ∧ tm_A d 87 82 ls (tm_rf (R a 0) :: st) (G, I, J, R) K := tm_getR o87_79
theorem o87_82 : tm_op 87 82 = some (.iload 5, (0, 0, 0, 0)) := rfl
theorem r87_82 (d : Nat) (v : Int32) (l0 l1 l2 l3 l4 l6 : Option Value) (st : List Value) (h : tm_H) (K : Option Value → tm_H → Prop) : tm_A d 87 82 [l0, l1, l2, l3, l4, some (.int v), l6] st h K ↔ tm_A d 87 84 [l0, l1, l2, l3, l4, some (.int v), l6] (.int v :: st) h K := tm_s o87_82 rfl rfl rfl
theorem o87_84 : tm_op 87 84 = some (.invokevirtual 86, (2, 72, 2, 7)) := rfl
theorem r87_84 (d : Nat) (v1 : Int32) (a : Nat) (ls : tm_Lo) (st : List Value) (h : tm_H) (K : Option Value → tm_H → Prop) : tm_A (d + 1) 87 84 ls (.int v1 :: .ref a :: st) h K ↔ (h.1.2.2 a = (0, 7) ∧ tm_cs st) ∧ tm_R d 72 [.ref a, .int v1] h (fun r h' => tm_A (d + 1) 87 87 ls (r.toList ++ st) h' K) := tm_callV (as := [.int v1]) o87_84 rfl rfl rfl rfl
theorem o87_87 : tm_op 87 87 = some (.aload_n 0, (0, 0, 0, 0)) := rfl
theorem r87_87 (d : Nat) (v : Nat) (l1 l2 l3 l4 l5 l6 : Option Value) (st : List Value) (h : tm_H) (K : Option Value → tm_H → Prop) : tm_A d 87 87 [some (.ref v), l1, l2, l3, l4, l5, l6] st h K ↔ tm_A d 87 88 [some (.ref v), l1, l2, l3, l4, l5, l6] (.ref v :: st) h K := tm_s o87_87 rfl rfl rfl
theorem o87_88 : tm_op 87 88 = some (.getfield 10, (2, 9, 0, 0)) := rfl
theorem r87_88 (d : Nat) (a : Nat) (ls : tm_Lo) (st : List Value) (G : tm_G) (I : Nat → Nat → Int32) (J : Nat → Nat → Int64) (R : Nat → Nat → Option Nat) (K : Option Value → tm_H → Prop) : tm_A d 87 88 ls (.ref a :: st) (G, I, J, R) K ↔ G.2.2 a = (0, 9) ∧ tm_A d 87 91 ls (tm_rf (R a 0) :: st) (G, I, J, R) K := tm_getR o87_88
theorem o87_91 : tm_op 87 91 = some (.invokevirtual 82, (2, 71, 1, 7)) := rfl
theorem r87_91 (d : Nat) (a : Nat) (ls : tm_Lo) (st : List Value) (h : tm_H) (K : Option Value → tm_H → Prop) : tm_A (d + 1) 87 91 ls (.ref a :: st) h K ↔ (h.1.2.2 a = (0, 7) ∧ tm_cs st) ∧ tm_R d 71 [.ref a] h (fun r h' => tm_A (d + 1) 87 94 ls (r.toList ++ st) h' K) := tm_callV (as := []) o87_91 rfl rfl rfl rfl
theorem o87_94 : tm_op 87 94 = some (.ireturn, (0, 0, 0, 0)) := rfl
theorem r87_94 (d : Nat) (v : Int32) (ls : tm_Lo) (h : tm_H) (K : Option Value → tm_H → Prop) : tm_A d 87 94 ls [.int v] h K ↔ K (some (.int v)) h := tm_reti o87_94 rfl
theorem o88_0 : tm_op 88 0 = some (.aload_n 0, (0, 0, 0, 0)) := rfl
theorem r88_0 (d : Nat) (v : Nat) (l1 : Option Value) (st : List Value) (h : tm_H) (K : Option Value → tm_H → Prop) : tm_A d 88 0 [some (.ref v), l1] st h K ↔ tm_A d 88 1 [some (.ref v), l1] (.ref v :: st) h K := tm_s o88_0 rfl rfl rfl
theorem o88_1 : tm_op 88 1 = some (.getfield 10, (2, 9, 0, 0)) := rfl
theorem r88_1 (d : Nat) (a : Nat) (ls : tm_Lo) (st : List Value) (G : tm_G) (I : Nat → Nat → Int32) (J : Nat → Nat → Int64) (R : Nat → Nat → Option Nat) (K : Option Value → tm_H → Prop) : tm_A d 88 1 ls (.ref a :: st) (G, I, J, R) K ↔ G.2.2 a = (0, 9) ∧ tm_A d 88 4 ls (tm_rf (R a 0) :: st) (G, I, J, R) K := tm_getR o88_1
theorem o88_4 : tm_op 88 4 = some (.iload_n 1, (0, 0, 0, 0)) := rfl
theorem r88_4 (d : Nat) (v : Int32) (l0 : Option Value) (st : List Value) (h : tm_H) (K : Option Value → tm_H → Prop) : tm_A d 88 4 [l0, some (.int v)] st h K ↔ tm_A d 88 5 [l0, some (.int v)] (.int v :: st) h K := tm_s o88_4 rfl rfl rfl
theorem o88_5 : tm_op 88 5 = some (.invokevirtual 90, (2, 73, 2, 7)) := rfl
theorem r88_5 (d : Nat) (v1 : Int32) (a : Nat) (ls : tm_Lo) (st : List Value) (h : tm_H) (K : Option Value → tm_H → Prop) : tm_A (d + 1) 88 5 ls (.int v1 :: .ref a :: st) h K ↔ (h.1.2.2 a = (0, 7) ∧ tm_cs st) ∧ tm_R d 73 [.ref a, .int v1] h (fun r h' => tm_A (d + 1) 88 8 ls (r.toList ++ st) h' K) := tm_callV (as := [.int v1]) o88_5 rfl rfl rfl rfl
theorem o88_8 : tm_op 88 8 = some (.ireturn, (0, 0, 0, 0)) := rfl
theorem r88_8 (d : Nat) (v : Int32) (ls : tm_Lo) (h : tm_H) (K : Option Value → tm_H → Prop) : tm_A d 88 8 ls [.int v] h K ↔ (v = 0 ∨ v = 1) ∧ K (some (.int v)) h := tm_retz o88_8 rfl
theorem o89_0 : tm_op 89 0 = some (.aload_n 0, (0, 0, 0, 0)) := rfl
theorem r89_0 (d : Nat) (v : Nat) (st : List Value) (h : tm_H) (K : Option Value → tm_H → Prop) : tm_A d 89 0 [some (.ref v)] st h K ↔ tm_A d 89 1 [some (.ref v)] (.ref v :: st) h K := tm_s o89_0 rfl rfl rfl
theorem o89_1 : tm_op 89 1 = some (.getfield 10, (2, 9, 0, 0)) := rfl
theorem r89_1 (d : Nat) (a : Nat) (ls : tm_Lo) (st : List Value) (G : tm_G) (I : Nat → Nat → Int32) (J : Nat → Nat → Int64) (R : Nat → Nat → Option Nat) (K : Option Value → tm_H → Prop) : tm_A d 89 1 ls (.ref a :: st) (G, I, J, R) K ↔ G.2.2 a = (0, 9) ∧ tm_A d 89 4 ls (tm_rf (R a 0) :: st) (G, I, J, R) K := tm_getR o89_1
theorem o89_4 : tm_op 89 4 = some (.invokevirtual 94, (2, 74, 1, 7)) := rfl
theorem r89_4 (d : Nat) (a : Nat) (ls : tm_Lo) (st : List Value) (h : tm_H) (K : Option Value → tm_H → Prop) : tm_A (d + 1) 89 4 ls (.ref a :: st) h K ↔ (h.1.2.2 a = (0, 7) ∧ tm_cs st) ∧ tm_R d 74 [.ref a] h (fun r h' => tm_A (d + 1) 89 7 ls (r.toList ++ st) h' K) := tm_callV (as := []) o89_4 rfl rfl rfl rfl
theorem o89_7 : tm_op 89 7 = some (.ireturn, (0, 0, 0, 0)) := rfl
theorem r89_7 (d : Nat) (v : Int32) (ls : tm_Lo) (h : tm_H) (K : Option Value → tm_H → Prop) : tm_A d 89 7 ls [.int v] h K ↔ K (some (.int v)) h := tm_reti o89_7 rfl
theorem o90_0 : tm_op 90 0 = some (.aload_n 0, (0, 0, 0, 0)) := rfl
theorem r90_0 (d : Nat) (v : Nat) (l1 : Option Value) (st : List Value) (h : tm_H) (K : Option Value → tm_H → Prop) : tm_A d 90 0 [some (.ref v), l1] st h K ↔ tm_A d 90 1 [some (.ref v), l1] (.ref v :: st) h K := tm_s o90_0 rfl rfl rfl
theorem o90_1 : tm_op 90 1 = some (.getfield 19, (2, 9, 1, 0)) := rfl
theorem r90_1 (d : Nat) (a : Nat) (ls : tm_Lo) (st : List Value) (G : tm_G) (I : Nat → Nat → Int32) (J : Nat → Nat → Int64) (R : Nat → Nat → Option Nat) (K : Option Value → tm_H → Prop) : tm_A d 90 1 ls (.ref a :: st) (G, I, J, R) K ↔ G.2.2 a = (0, 9) ∧ tm_A d 90 4 ls (tm_rf (R a 1) :: st) (G, I, J, R) K := tm_getR o90_1
theorem o90_4 : tm_op 90 4 = some (.invokevirtual 97, (2, 49, 1, 5)) := rfl
theorem r90_4 (d : Nat) (a : Nat) (ls : tm_Lo) (st : List Value) (h : tm_H) (K : Option Value → tm_H → Prop) : tm_A (d + 1) 90 4 ls (.ref a :: st) h K ↔ (h.1.2.2 a = (0, 5) ∧ tm_cs st) ∧ tm_R d 49 [.ref a] h (fun r h' => tm_A (d + 1) 90 7 ls (r.toList ++ st) h' K) := tm_callV (as := []) o90_4 rfl rfl rfl rfl
theorem o90_7 : tm_op 90 7 = some (.bipush 10, (0, 0, 0, 0)) := rfl
theorem r90_7 (d : Nat) (ls : tm_Lo) (st : List Value) (h : tm_H) (K : Option Value → tm_H → Prop) : tm_A d 90 7 ls st h K ↔ tm_A d 90 9 ls (.int (10 : Int32) :: st) h K := tm_bp o90_7 (by decide)
theorem o90_9 : tm_op 90 9 = some (.if_icmp .ge 14, (0, 0, 0, 0)) := rfl
theorem r90_9 (d : Nat) (y x : Int32) (ls : tm_Lo) (st : List Value) (h : tm_H) (K : Option Value → tm_H → Prop) : tm_A d 90 9 ls (.int y :: .int x :: st) h K ↔ if y ≤ x then tm_A d 90 23 ls st h K else tm_A d 90 12 ls st h K := tm_b o90_9 rfl rfl rfl rfl
theorem o90_12 : tm_op 90 12 = some (.aload_n 0, (0, 0, 0, 0)) := rfl
theorem r90_12 (d : Nat) (v : Nat) (l1 : Option Value) (st : List Value) (h : tm_H) (K : Option Value → tm_H → Prop) : tm_A d 90 12 [some (.ref v), l1] st h K ↔ tm_A d 90 13 [some (.ref v), l1] (.ref v :: st) h K := tm_s o90_12 rfl rfl rfl
theorem o90_13 : tm_op 90 13 = some (.getfield 10, (2, 9, 0, 0)) := rfl
theorem r90_13 (d : Nat) (a : Nat) (ls : tm_Lo) (st : List Value) (G : tm_G) (I : Nat → Nat → Int32) (J : Nat → Nat → Int64) (R : Nat → Nat → Option Nat) (K : Option Value → tm_H → Prop) : tm_A d 90 13 ls (.ref a :: st) (G, I, J, R) K ↔ G.2.2 a = (0, 9) ∧ tm_A d 90 16 ls (tm_rf (R a 0) :: st) (G, I, J, R) K := tm_getR o90_13
theorem o90_16 : tm_op 90 16 = some (.invokevirtual 94, (2, 74, 1, 7)) := rfl
theorem r90_16 (d : Nat) (a : Nat) (ls : tm_Lo) (st : List Value) (h : tm_H) (K : Option Value → tm_H → Prop) : tm_A (d + 1) 90 16 ls (.ref a :: st) h K ↔ (h.1.2.2 a = (0, 7) ∧ tm_cs st) ∧ tm_R d 74 [.ref a] h (fun r h' => tm_A (d + 1) 90 19 ls (r.toList ++ st) h' K) := tm_callV (as := []) o90_16 rfl rfl rfl rfl
theorem o90_19 : tm_op 90 19 = some (.iconst (-1), (0, 0, 0, 0)) := rfl
theorem r90_19 (d : Nat) (ls : tm_Lo) (st : List Value) (h : tm_H) (K : Option Value → tm_H → Prop) : tm_A d 90 19 ls st h K ↔ tm_A d 90 20 ls (.int (-1 : Int32) :: st) h K := tm_ic o90_19 (by decide)
theorem o90_20 : tm_op 90 20 = some (.if_icmp .eq 5, (0, 0, 0, 0)) := rfl
theorem r90_20 (d : Nat) (y x : Int32) (ls : tm_Lo) (st : List Value) (h : tm_H) (K : Option Value → tm_H → Prop) : tm_A d 90 20 ls (.int y :: .int x :: st) h K ↔ if x = y then tm_A d 90 25 ls st h K else tm_A d 90 23 ls st h K := tm_b o90_20 rfl rfl rfl rfl
theorem o90_23 : tm_op 90 23 = some (.iconst (-1), (0, 0, 0, 0)) := rfl
theorem r90_23 (d : Nat) (ls : tm_Lo) (st : List Value) (h : tm_H) (K : Option Value → tm_H → Prop) : tm_A d 90 23 ls st h K ↔ tm_A d 90 24 ls (.int (-1 : Int32) :: st) h K := tm_ic o90_23 (by decide)
theorem o90_24 : tm_op 90 24 = some (.ireturn, (0, 0, 0, 0)) := rfl
theorem r90_24 (d : Nat) (v : Int32) (ls : tm_Lo) (h : tm_H) (K : Option Value → tm_H → Prop) : tm_A d 90 24 ls [.int v] h K ↔ K (some (.int v)) h := tm_reti o90_24 rfl
theorem o90_25 : tm_op 90 25 = some (.aload_n 0, (0, 0, 0, 0)) := rfl
theorem r90_25 (d : Nat) (v : Nat) (l1 : Option Value) (st : List Value) (h : tm_H) (K : Option Value → tm_H → Prop) : tm_A d 90 25 [some (.ref v), l1] st h K ↔ tm_A d 90 26 [some (.ref v), l1] (.ref v :: st) h K := tm_s o90_25 rfl rfl rfl
theorem o90_26 : tm_op 90 26 = some (.getfield 19, (2, 9, 1, 0)) := rfl
theorem r90_26 (d : Nat) (a : Nat) (ls : tm_Lo) (st : List Value) (G : tm_G) (I : Nat → Nat → Int32) (J : Nat → Nat → Int64) (R : Nat → Nat → Option Nat) (K : Option Value → tm_H → Prop) : tm_A d 90 26 ls (.ref a :: st) (G, I, J, R) K ↔ G.2.2 a = (0, 9) ∧ tm_A d 90 29 ls (tm_rf (R a 1) :: st) (G, I, J, R) K := tm_getR o90_26
theorem o90_29 : tm_op 90 29 = some (.aload_n 0, (0, 0, 0, 0)) := rfl
theorem r90_29 (d : Nat) (v : Nat) (l1 : Option Value) (st : List Value) (h : tm_H) (K : Option Value → tm_H → Prop) : tm_A d 90 29 [some (.ref v), l1] st h K ↔ tm_A d 90 30 [some (.ref v), l1] (.ref v :: st) h K := tm_s o90_29 rfl rfl rfl
theorem o90_30 : tm_op 90 30 = some (.getfield 58, (0, 9, 7, 0)) := rfl
theorem r90_30 (d : Nat) (a : Nat) (ls : tm_Lo) (st : List Value) (G : tm_G) (I : Nat → Nat → Int32) (J : Nat → Nat → Int64) (R : Nat → Nat → Option Nat) (K : Option Value → tm_H → Prop) : tm_A d 90 30 ls (.ref a :: st) (G, I, J, R) K ↔ G.2.2 a = (0, 9) ∧ tm_A d 90 33 ls (.int (I a 7) :: st) (G, I, J, R) K := tm_getI o90_30
theorem o90_33 : tm_op 90 33 = some (.aload_n 0, (0, 0, 0, 0)) := rfl
theorem r90_33 (d : Nat) (v : Nat) (l1 : Option Value) (st : List Value) (h : tm_H) (K : Option Value → tm_H → Prop) : tm_A d 90 33 [some (.ref v), l1] st h K ↔ tm_A d 90 34 [some (.ref v), l1] (.ref v :: st) h K := tm_s o90_33 rfl rfl rfl
theorem o90_34 : tm_op 90 34 = some (.getfield 10, (2, 9, 0, 0)) := rfl
theorem r90_34 (d : Nat) (a : Nat) (ls : tm_Lo) (st : List Value) (G : tm_G) (I : Nat → Nat → Int32) (J : Nat → Nat → Int64) (R : Nat → Nat → Option Nat) (K : Option Value → tm_H → Prop) : tm_A d 90 34 ls (.ref a :: st) (G, I, J, R) K ↔ G.2.2 a = (0, 9) ∧ tm_A d 90 37 ls (tm_rf (R a 0) :: st) (G, I, J, R) K := tm_getR o90_34
theorem o90_37 : tm_op 90 37 = some (.getfield 100, (2, 7, 3, 1)) := rfl
theorem r90_37 (d : Nat) (a : Nat) (ls : tm_Lo) (st : List Value) (G : tm_G) (I : Nat → Nat → Int32) (J : Nat → Nat → Int64) (R : Nat → Nat → Option Nat) (K : Option Value → tm_H → Prop) : tm_A d 90 37 ls (.ref a :: st) (G, I, J, R) K ↔ G.2.2 a = (0, 7) ∧ tm_A d 90 40 ls (tm_rf (R a 3) :: st) (G, I, J, R) K := tm_getR o90_37
theorem o90_40 : tm_op 90 40 = some (.invokevirtual 104, (2, 53, 3, 5)) := rfl
theorem r90_40 (d : Nat) (v1 : Int32) (v2 : Nat) (a : Nat) (ls : tm_Lo) (st : List Value) (h : tm_H) (K : Option Value → tm_H → Prop) : tm_A (d + 1) 90 40 ls (.ref v2 :: .int v1 :: .ref a :: st) h K ↔ (h.1.2.2 a = (0, 5) ∧ tm_cs st) ∧ tm_R d 53 [.ref a, .int v1, .ref v2] h (fun r h' => tm_A (d + 1) 90 43 ls (r.toList ++ st) h' K) := tm_callV (as := [.int v1, .ref v2]) o90_40 rfl rfl rfl rfl
theorem o90_43 : tm_op 90 43 = some (.istore_n 1, (0, 0, 0, 0)) := rfl
theorem r90_43 (d : Nat) (v : Int32) (l0 l1 : Option Value) (st : List Value) (h : tm_H) (K : Option Value → tm_H → Prop) : tm_A d 90 43 [l0, l1] (.int v :: st) h K ↔ tm_A d 90 44 [l0, some (.int v)] st h K := tm_s o90_43 rfl rfl rfl
theorem o90_44 : tm_op 90 44 = some (.aload_n 0, (0, 0, 0, 0)) := rfl
theorem r90_44 (d : Nat) (v : Nat) (l1 : Option Value) (st : List Value) (h : tm_H) (K : Option Value → tm_H → Prop) : tm_A d 90 44 [some (.ref v), l1] st h K ↔ tm_A d 90 45 [some (.ref v), l1] (.ref v :: st) h K := tm_s o90_44 rfl rfl rfl
theorem o90_45 : tm_op 90 45 = some (.getfield 10, (2, 9, 0, 0)) := rfl
theorem r90_45 (d : Nat) (a : Nat) (ls : tm_Lo) (st : List Value) (G : tm_G) (I : Nat → Nat → Int32) (J : Nat → Nat → Int64) (R : Nat → Nat → Option Nat) (K : Option Value → tm_H → Prop) : tm_A d 90 45 ls (.ref a :: st) (G, I, J, R) K ↔ G.2.2 a = (0, 9) ∧ tm_A d 90 48 ls (tm_rf (R a 0) :: st) (G, I, J, R) K := tm_getR o90_45
theorem o90_48 : tm_op 90 48 = some (.iconst 0, (0, 0, 0, 0)) := rfl
theorem r90_48 (d : Nat) (ls : tm_Lo) (st : List Value) (h : tm_H) (K : Option Value → tm_H → Prop) : tm_A d 90 48 ls st h K ↔ tm_A d 90 49 ls (.int (0 : Int32) :: st) h K := tm_ic o90_48 (by decide)
theorem o90_49 : tm_op 90 49 = some (.invokevirtual 90, (2, 73, 2, 7)) := rfl
theorem r90_49 (d : Nat) (v1 : Int32) (a : Nat) (ls : tm_Lo) (st : List Value) (h : tm_H) (K : Option Value → tm_H → Prop) : tm_A (d + 1) 90 49 ls (.int v1 :: .ref a :: st) h K ↔ (h.1.2.2 a = (0, 7) ∧ tm_cs st) ∧ tm_R d 73 [.ref a, .int v1] h (fun r h' => tm_A (d + 1) 90 52 ls (r.toList ++ st) h' K) := tm_callV (as := [.int v1]) o90_49 rfl rfl rfl rfl
theorem o90_52 : tm_op 90 52 = some (.pop, (0, 0, 0, 0)) := rfl
theorem r90_52 (d : Nat) (v : Int32) (ls : tm_Lo) (st : List Value) (h : tm_H) (K : Option Value → tm_H → Prop) : tm_A d 90 52 ls (.int v :: st) h K ↔ tm_A d 90 53 ls st h K := tm_s o90_52 rfl rfl rfl
theorem o90_53 : tm_op 90 53 = some (.aload_n 0, (0, 0, 0, 0)) := rfl
theorem r90_53 (d : Nat) (v : Nat) (l1 : Option Value) (st : List Value) (h : tm_H) (K : Option Value → tm_H → Prop) : tm_A d 90 53 [some (.ref v), l1] st h K ↔ tm_A d 90 54 [some (.ref v), l1] (.ref v :: st) h K := tm_s o90_53 rfl rfl rfl
theorem o90_54 : tm_op 90 54 = some (.iconst (-1), (0, 0, 0, 0)) := rfl
theorem r90_54 (d : Nat) (ls : tm_Lo) (st : List Value) (h : tm_H) (K : Option Value → tm_H → Prop) : tm_A d 90 54 ls st h K ↔ tm_A d 90 55 ls (.int (-1 : Int32) :: st) h K := tm_ic o90_54 (by decide)
theorem o90_55 : tm_op 90 55 = some (.putfield 68, (0, 9, 10, 0)) := rfl
theorem r90_55 (d : Nat) (v : Int32) (a : Nat) (ls : tm_Lo) (st : List Value) (G : tm_G) (I : Nat → Nat → Int32) (J : Nat → Nat → Int64) (R : Nat → Nat → Option Nat) (K : Option Value → tm_H → Prop) : tm_A d 90 55 ls (.int v :: .ref a :: st) (G, I, J, R) K ↔ G.2.2 a = (0, 9) ∧ tm_A d 90 58 ls st (G, up2 I a 10 v, J, R) K := tm_putI o90_55
theorem o90_58 : tm_op 90 58 = some (.iload_n 1, (0, 0, 0, 0)) := rfl
theorem r90_58 (d : Nat) (v : Int32) (l0 : Option Value) (st : List Value) (h : tm_H) (K : Option Value → tm_H → Prop) : tm_A d 90 58 [l0, some (.int v)] st h K ↔ tm_A d 90 59 [l0, some (.int v)] (.int v :: st) h K := tm_s o90_58 rfl rfl rfl
theorem o90_59 : tm_op 90 59 = some (.ireturn, (0, 0, 0, 0)) := rfl
theorem r90_59 (d : Nat) (v : Int32) (ls : tm_Lo) (h : tm_H) (K : Option Value → tm_H → Prop) : tm_A d 90 59 ls [.int v] h K ↔ K (some (.int v)) h := tm_reti o90_59 rfl
theorem o91_0 : tm_op 91 0 = some (.aload_n 0, (0, 0, 0, 0)) := rfl
theorem r91_0 (d : Nat) (v : Nat) (l1 : Option Value) (st : List Value) (h : tm_H) (K : Option Value → tm_H → Prop) : tm_A d 91 0 [some (.ref v), l1] st h K ↔ tm_A d 91 1 [some (.ref v), l1] (.ref v :: st) h K := tm_s o91_0 rfl rfl rfl
theorem o91_1 : tm_op 91 1 = some (.getfield 19, (2, 9, 1, 0)) := rfl
theorem r91_1 (d : Nat) (a : Nat) (ls : tm_Lo) (st : List Value) (G : tm_G) (I : Nat → Nat → Int32) (J : Nat → Nat → Int64) (R : Nat → Nat → Option Nat) (K : Option Value → tm_H → Prop) : tm_A d 91 1 ls (.ref a :: st) (G, I, J, R) K ↔ G.2.2 a = (0, 9) ∧ tm_A d 91 4 ls (tm_rf (R a 1) :: st) (G, I, J, R) K := tm_getR o91_1
theorem o91_4 : tm_op 91 4 = some (.iload_n 1, (0, 0, 0, 0)) := rfl
theorem r91_4 (d : Nat) (v : Int32) (l0 : Option Value) (st : List Value) (h : tm_H) (K : Option Value → tm_H → Prop) : tm_A d 91 4 [l0, some (.int v)] st h K ↔ tm_A d 91 5 [l0, some (.int v)] (.int v :: st) h K := tm_s o91_4 rfl rfl rfl
theorem o91_5 : tm_op 91 5 = some (.invokevirtual 108, (2, 52, 2, 5)) := rfl
theorem r91_5 (d : Nat) (v1 : Int32) (a : Nat) (ls : tm_Lo) (st : List Value) (h : tm_H) (K : Option Value → tm_H → Prop) : tm_A (d + 1) 91 5 ls (.int v1 :: .ref a :: st) h K ↔ (h.1.2.2 a = (0, 5) ∧ tm_cs st) ∧ tm_R d 52 [.ref a, .int v1] h (fun r h' => tm_A (d + 1) 91 8 ls (r.toList ++ st) h' K) := tm_callV (as := [.int v1]) o91_5 rfl rfl rfl rfl
theorem o91_8 : tm_op 91 8 = some (.ifCond .eq 14, (0, 0, 0, 0)) := rfl
theorem r91_8 (d : Nat) (x : Int32) (ls : tm_Lo) (st : List Value) (h : tm_H) (K : Option Value → tm_H → Prop) : tm_A d 91 8 ls (.int x :: st) h K ↔ if x = 0 then tm_A d 91 22 ls st h K else tm_A d 91 11 ls st h K := tm_b o91_8 rfl rfl rfl rfl
theorem o91_11 : tm_op 91 11 = some (.aload_n 0, (0, 0, 0, 0)) := rfl
theorem r91_11 (d : Nat) (v : Nat) (l1 : Option Value) (st : List Value) (h : tm_H) (K : Option Value → tm_H → Prop) : tm_A d 91 11 [some (.ref v), l1] st h K ↔ tm_A d 91 12 [some (.ref v), l1] (.ref v :: st) h K := tm_s o91_11 rfl rfl rfl
theorem o91_12 : tm_op 91 12 = some (.getfield 10, (2, 9, 0, 0)) := rfl
theorem r91_12 (d : Nat) (a : Nat) (ls : tm_Lo) (st : List Value) (G : tm_G) (I : Nat → Nat → Int32) (J : Nat → Nat → Int64) (R : Nat → Nat → Option Nat) (K : Option Value → tm_H → Prop) : tm_A d 91 12 ls (.ref a :: st) (G, I, J, R) K ↔ G.2.2 a = (0, 9) ∧ tm_A d 91 15 ls (tm_rf (R a 0) :: st) (G, I, J, R) K := tm_getR o91_12
theorem o91_15 : tm_op 91 15 = some (.invokevirtual 94, (2, 74, 1, 7)) := rfl
theorem r91_15 (d : Nat) (a : Nat) (ls : tm_Lo) (st : List Value) (h : tm_H) (K : Option Value → tm_H → Prop) : tm_A (d + 1) 91 15 ls (.ref a :: st) h K ↔ (h.1.2.2 a = (0, 7) ∧ tm_cs st) ∧ tm_R d 74 [.ref a] h (fun r h' => tm_A (d + 1) 91 18 ls (r.toList ++ st) h' K) := tm_callV (as := []) o91_15 rfl rfl rfl rfl
theorem o91_18 : tm_op 91 18 = some (.iconst (-1), (0, 0, 0, 0)) := rfl
theorem r91_18 (d : Nat) (ls : tm_Lo) (st : List Value) (h : tm_H) (K : Option Value → tm_H → Prop) : tm_A d 91 18 ls st h K ↔ tm_A d 91 19 ls (.int (-1 : Int32) :: st) h K := tm_ic o91_18 (by decide)
theorem o91_19 : tm_op 91 19 = some (.if_icmp .eq 5, (0, 0, 0, 0)) := rfl
theorem r91_19 (d : Nat) (y x : Int32) (ls : tm_Lo) (st : List Value) (h : tm_H) (K : Option Value → tm_H → Prop) : tm_A d 91 19 ls (.int y :: .int x :: st) h K ↔ if x = y then tm_A d 91 24 ls st h K else tm_A d 91 22 ls st h K := tm_b o91_19 rfl rfl rfl rfl
theorem o91_22 : tm_op 91 22 = some (.iconst 0, (0, 0, 0, 0)) := rfl
theorem r91_22 (d : Nat) (ls : tm_Lo) (st : List Value) (h : tm_H) (K : Option Value → tm_H → Prop) : tm_A d 91 22 ls st h K ↔ tm_A d 91 23 ls (.int (0 : Int32) :: st) h K := tm_ic o91_22 (by decide)
theorem o91_23 : tm_op 91 23 = some (.ireturn, (0, 0, 0, 0)) := rfl
theorem r91_23 (d : Nat) (v : Int32) (ls : tm_Lo) (h : tm_H) (K : Option Value → tm_H → Prop) : tm_A d 91 23 ls [.int v] h K ↔ (v = 0 ∨ v = 1) ∧ K (some (.int v)) h := tm_retz o91_23 rfl
theorem o91_24 : tm_op 91 24 = some (.aload_n 0, (0, 0, 0, 0)) := rfl
theorem r91_24 (d : Nat) (v : Nat) (l1 : Option Value) (st : List Value) (h : tm_H) (K : Option Value → tm_H → Prop) : tm_A d 91 24 [some (.ref v), l1] st h K ↔ tm_A d 91 25 [some (.ref v), l1] (.ref v :: st) h K := tm_s o91_24 rfl rfl rfl
theorem o91_25 : tm_op 91 25 = some (.getfield 19, (2, 9, 1, 0)) := rfl
theorem r91_25 (d : Nat) (a : Nat) (ls : tm_Lo) (st : List Value) (G : tm_G) (I : Nat → Nat → Int32) (J : Nat → Nat → Int64) (R : Nat → Nat → Option Nat) (K : Option Value → tm_H → Prop) : tm_A d 91 25 ls (.ref a :: st) (G, I, J, R) K ↔ G.2.2 a = (0, 9) ∧ tm_A d 91 28 ls (tm_rf (R a 1) :: st) (G, I, J, R) K := tm_getR o91_25
theorem o91_28 : tm_op 91 28 = some (.iload_n 1, (0, 0, 0, 0)) := rfl
theorem r91_28 (d : Nat) (v : Int32) (l0 : Option Value) (st : List Value) (h : tm_H) (K : Option Value → tm_H → Prop) : tm_A d 91 28 [l0, some (.int v)] st h K ↔ tm_A d 91 29 [l0, some (.int v)] (.int v :: st) h K := tm_s o91_28 rfl rfl rfl
theorem o91_29 : tm_op 91 29 = some (.aload_n 0, (0, 0, 0, 0)) := rfl
theorem r91_29 (d : Nat) (v : Nat) (l1 : Option Value) (st : List Value) (h : tm_H) (K : Option Value → tm_H → Prop) : tm_A d 91 29 [some (.ref v), l1] st h K ↔ tm_A d 91 30 [some (.ref v), l1] (.ref v :: st) h K := tm_s o91_29 rfl rfl rfl
theorem o91_30 : tm_op 91 30 = some (.getfield 58, (0, 9, 7, 0)) := rfl
theorem r91_30 (d : Nat) (a : Nat) (ls : tm_Lo) (st : List Value) (G : tm_G) (I : Nat → Nat → Int32) (J : Nat → Nat → Int64) (R : Nat → Nat → Option Nat) (K : Option Value → tm_H → Prop) : tm_A d 91 30 ls (.ref a :: st) (G, I, J, R) K ↔ G.2.2 a = (0, 9) ∧ tm_A d 91 33 ls (.int (I a 7) :: st) (G, I, J, R) K := tm_getI o91_30
theorem o91_33 : tm_op 91 33 = some (.aload_n 0, (0, 0, 0, 0)) := rfl
theorem r91_33 (d : Nat) (v : Nat) (l1 : Option Value) (st : List Value) (h : tm_H) (K : Option Value → tm_H → Prop) : tm_A d 91 33 [some (.ref v), l1] st h K ↔ tm_A d 91 34 [some (.ref v), l1] (.ref v :: st) h K := tm_s o91_33 rfl rfl rfl
theorem o91_34 : tm_op 91 34 = some (.getfield 10, (2, 9, 0, 0)) := rfl
theorem r91_34 (d : Nat) (a : Nat) (ls : tm_Lo) (st : List Value) (G : tm_G) (I : Nat → Nat → Int32) (J : Nat → Nat → Int64) (R : Nat → Nat → Option Nat) (K : Option Value → tm_H → Prop) : tm_A d 91 34 ls (.ref a :: st) (G, I, J, R) K ↔ G.2.2 a = (0, 9) ∧ tm_A d 91 37 ls (tm_rf (R a 0) :: st) (G, I, J, R) K := tm_getR o91_34
theorem o91_37 : tm_op 91 37 = some (.getfield 100, (2, 7, 3, 1)) := rfl
theorem r91_37 (d : Nat) (a : Nat) (ls : tm_Lo) (st : List Value) (G : tm_G) (I : Nat → Nat → Int32) (J : Nat → Nat → Int64) (R : Nat → Nat → Option Nat) (K : Option Value → tm_H → Prop) : tm_A d 91 37 ls (.ref a :: st) (G, I, J, R) K ↔ G.2.2 a = (0, 7) ∧ tm_A d 91 40 ls (tm_rf (R a 3) :: st) (G, I, J, R) K := tm_getR o91_37
theorem o91_40 : tm_op 91 40 = some (.invokevirtual 111, (2, 54, 4, 5)) := rfl
theorem r91_40 (d : Nat) (v1 : Int32) (v2 : Int32) (v3 : Nat) (a : Nat) (ls : tm_Lo) (st : List Value) (h : tm_H) (K : Option Value → tm_H → Prop) : tm_A (d + 1) 91 40 ls (.ref v3 :: .int v2 :: .int v1 :: .ref a :: st) h K ↔ (h.1.2.2 a = (0, 5) ∧ tm_cs st) ∧ tm_R d 54 [.ref a, .int v1, .int v2, .ref v3] h (fun r h' => tm_A (d + 1) 91 43 ls (r.toList ++ st) h' K) := tm_callV (as := [.int v1, .int v2, .ref v3]) o91_40 rfl rfl rfl rfl
theorem o91_43 : tm_op 91 43 = some (.aload_n 0, (0, 0, 0, 0)) := rfl
theorem r91_43 (d : Nat) (v : Nat) (l1 : Option Value) (st : List Value) (h : tm_H) (K : Option Value → tm_H → Prop) : tm_A d 91 43 [some (.ref v), l1] st h K ↔ tm_A d 91 44 [some (.ref v), l1] (.ref v :: st) h K := tm_s o91_43 rfl rfl rfl
theorem o91_44 : tm_op 91 44 = some (.getfield 10, (2, 9, 0, 0)) := rfl
theorem r91_44 (d : Nat) (a : Nat) (ls : tm_Lo) (st : List Value) (G : tm_G) (I : Nat → Nat → Int32) (J : Nat → Nat → Int64) (R : Nat → Nat → Option Nat) (K : Option Value → tm_H → Prop) : tm_A d 91 44 ls (.ref a :: st) (G, I, J, R) K ↔ G.2.2 a = (0, 9) ∧ tm_A d 91 47 ls (tm_rf (R a 0) :: st) (G, I, J, R) K := tm_getR o91_44
theorem o91_47 : tm_op 91 47 = some (.iconst 0, (0, 0, 0, 0)) := rfl
theorem r91_47 (d : Nat) (ls : tm_Lo) (st : List Value) (h : tm_H) (K : Option Value → tm_H → Prop) : tm_A d 91 47 ls st h K ↔ tm_A d 91 48 ls (.int (0 : Int32) :: st) h K := tm_ic o91_47 (by decide)
theorem o91_48 : tm_op 91 48 = some (.invokevirtual 90, (2, 73, 2, 7)) := rfl
theorem r91_48 (d : Nat) (v1 : Int32) (a : Nat) (ls : tm_Lo) (st : List Value) (h : tm_H) (K : Option Value → tm_H → Prop) : tm_A (d + 1) 91 48 ls (.int v1 :: .ref a :: st) h K ↔ (h.1.2.2 a = (0, 7) ∧ tm_cs st) ∧ tm_R d 73 [.ref a, .int v1] h (fun r h' => tm_A (d + 1) 91 51 ls (r.toList ++ st) h' K) := tm_callV (as := [.int v1]) o91_48 rfl rfl rfl rfl
theorem o91_51 : tm_op 91 51 = some (.pop, (0, 0, 0, 0)) := rfl
theorem r91_51 (d : Nat) (v : Int32) (ls : tm_Lo) (st : List Value) (h : tm_H) (K : Option Value → tm_H → Prop) : tm_A d 91 51 ls (.int v :: st) h K ↔ tm_A d 91 52 ls st h K := tm_s o91_51 rfl rfl rfl
theorem o91_52 : tm_op 91 52 = some (.aload_n 0, (0, 0, 0, 0)) := rfl
theorem r91_52 (d : Nat) (v : Nat) (l1 : Option Value) (st : List Value) (h : tm_H) (K : Option Value → tm_H → Prop) : tm_A d 91 52 [some (.ref v), l1] st h K ↔ tm_A d 91 53 [some (.ref v), l1] (.ref v :: st) h K := tm_s o91_52 rfl rfl rfl
theorem o91_53 : tm_op 91 53 = some (.iconst (-1), (0, 0, 0, 0)) := rfl
theorem r91_53 (d : Nat) (ls : tm_Lo) (st : List Value) (h : tm_H) (K : Option Value → tm_H → Prop) : tm_A d 91 53 ls st h K ↔ tm_A d 91 54 ls (.int (-1 : Int32) :: st) h K := tm_ic o91_53 (by decide)
theorem o91_54 : tm_op 91 54 = some (.putfield 68, (0, 9, 10, 0)) := rfl
theorem r91_54 (d : Nat) (v : Int32) (a : Nat) (ls : tm_Lo) (st : List Value) (G : tm_G) (I : Nat → Nat → Int32) (J : Nat → Nat → Int64) (R : Nat → Nat → Option Nat) (K : Option Value → tm_H → Prop) : tm_A d 91 54 ls (.int v :: .ref a :: st) (G, I, J, R) K ↔ G.2.2 a = (0, 9) ∧ tm_A d 91 57 ls st (G, up2 I a 10 v, J, R) K := tm_putI o91_54
theorem o91_57 : tm_op 91 57 = some (.iconst 1, (0, 0, 0, 0)) := rfl
theorem r91_57 (d : Nat) (ls : tm_Lo) (st : List Value) (h : tm_H) (K : Option Value → tm_H → Prop) : tm_A d 91 57 ls st h K ↔ tm_A d 91 58 ls (.int (1 : Int32) :: st) h K := tm_ic o91_57 (by decide)
theorem o91_58 : tm_op 91 58 = some (.ireturn, (0, 0, 0, 0)) := rfl
theorem r91_58 (d : Nat) (v : Int32) (ls : tm_Lo) (h : tm_H) (K : Option Value → tm_H → Prop) : tm_A d 91 58 ls [.int v] h K ↔ (v = 0 ∨ v = 1) ∧ K (some (.int v)) h := tm_retz o91_58 rfl
theorem o92_0 : tm_op 92 0 = some (.aload_n 0, (0, 0, 0, 0)) := rfl
theorem r92_0 (d : Nat) (v : Nat) (l1 l2 : Option Value) (st : List Value) (h : tm_H) (K : Option Value → tm_H → Prop) : tm_A d 92 0 [some (.ref v), l1, l2] st h K ↔ tm_A d 92 1 [some (.ref v), l1, l2] (.ref v :: st) h K := tm_s o92_0 rfl rfl rfl
theorem o92_1 : tm_op 92 1 = some (.getfield 19, (2, 9, 1, 0)) := rfl
theorem r92_1 (d : Nat) (a : Nat) (ls : tm_Lo) (st : List Value) (G : tm_G) (I : Nat → Nat → Int32) (J : Nat → Nat → Int64) (R : Nat → Nat → Option Nat) (K : Option Value → tm_H → Prop) : tm_A d 92 1 ls (.ref a :: st) (G, I, J, R) K ↔ G.2.2 a = (0, 9) ∧ tm_A d 92 4 ls (tm_rf (R a 1) :: st) (G, I, J, R) K := tm_getR o92_1
theorem o92_4 : tm_op 92 4 = some (.iload_n 1, (0, 0, 0, 0)) := rfl
theorem r92_4 (d : Nat) (v : Int32) (l0 l2 : Option Value) (st : List Value) (h : tm_H) (K : Option Value → tm_H → Prop) : tm_A d 92 4 [l0, some (.int v), l2] st h K ↔ tm_A d 92 5 [l0, some (.int v), l2] (.int v :: st) h K := tm_s o92_4 rfl rfl rfl
theorem o92_5 : tm_op 92 5 = some (.invokevirtual 108, (2, 52, 2, 5)) := rfl
theorem r92_5 (d : Nat) (v1 : Int32) (a : Nat) (ls : tm_Lo) (st : List Value) (h : tm_H) (K : Option Value → tm_H → Prop) : tm_A (d + 1) 92 5 ls (.int v1 :: .ref a :: st) h K ↔ (h.1.2.2 a = (0, 5) ∧ tm_cs st) ∧ tm_R d 52 [.ref a, .int v1] h (fun r h' => tm_A (d + 1) 92 8 ls (r.toList ++ st) h' K) := tm_callV (as := [.int v1]) o92_5 rfl rfl rfl rfl
theorem o92_8 : tm_op 92 8 = some (.ifCond .eq 12, (0, 0, 0, 0)) := rfl
theorem r92_8 (d : Nat) (x : Int32) (ls : tm_Lo) (st : List Value) (h : tm_H) (K : Option Value → tm_H → Prop) : tm_A d 92 8 ls (.int x :: st) h K ↔ if x = 0 then tm_A d 92 20 ls st h K else tm_A d 92 11 ls st h K := tm_b o92_8 rfl rfl rfl rfl
theorem o92_11 : tm_op 92 11 = some (.iload_n 2, (0, 0, 0, 0)) := rfl
theorem r92_11 (d : Nat) (v : Int32) (l0 l1 : Option Value) (st : List Value) (h : tm_H) (K : Option Value → tm_H → Prop) : tm_A d 92 11 [l0, l1, some (.int v)] st h K ↔ tm_A d 92 12 [l0, l1, some (.int v)] (.int v :: st) h K := tm_s o92_11 rfl rfl rfl
theorem o92_12 : tm_op 92 12 = some (.ifCond .lt 8, (0, 0, 0, 0)) := rfl
theorem r92_12 (d : Nat) (x : Int32) (ls : tm_Lo) (st : List Value) (h : tm_H) (K : Option Value → tm_H → Prop) : tm_A d 92 12 ls (.int x :: st) h K ↔ if x < 0 then tm_A d 92 20 ls st h K else tm_A d 92 15 ls st h K := tm_b o92_12 rfl rfl rfl rfl
theorem o92_15 : tm_op 92 15 = some (.iload_n 2, (0, 0, 0, 0)) := rfl
theorem r92_15 (d : Nat) (v : Int32) (l0 l1 : Option Value) (st : List Value) (h : tm_H) (K : Option Value → tm_H → Prop) : tm_A d 92 15 [l0, l1, some (.int v)] st h K ↔ tm_A d 92 16 [l0, l1, some (.int v)] (.int v :: st) h K := tm_s o92_15 rfl rfl rfl
theorem o92_16 : tm_op 92 16 = some (.iconst 5, (0, 0, 0, 0)) := rfl
theorem r92_16 (d : Nat) (ls : tm_Lo) (st : List Value) (h : tm_H) (K : Option Value → tm_H → Prop) : tm_A d 92 16 ls st h K ↔ tm_A d 92 17 ls (.int (5 : Int32) :: st) h K := tm_ic o92_16 (by decide)
theorem o92_17 : tm_op 92 17 = some (.if_icmp .lt 5, (0, 0, 0, 0)) := rfl
theorem r92_17 (d : Nat) (y x : Int32) (ls : tm_Lo) (st : List Value) (h : tm_H) (K : Option Value → tm_H → Prop) : tm_A d 92 17 ls (.int y :: .int x :: st) h K ↔ if x < y then tm_A d 92 22 ls st h K else tm_A d 92 20 ls st h K := tm_b o92_17 rfl rfl rfl rfl
theorem o92_20 : tm_op 92 20 = some (.iconst 0, (0, 0, 0, 0)) := rfl
theorem r92_20 (d : Nat) (ls : tm_Lo) (st : List Value) (h : tm_H) (K : Option Value → tm_H → Prop) : tm_A d 92 20 ls st h K ↔ tm_A d 92 21 ls (.int (0 : Int32) :: st) h K := tm_ic o92_20 (by decide)
theorem o92_21 : tm_op 92 21 = some (.ireturn, (0, 0, 0, 0)) := rfl
theorem r92_21 (d : Nat) (v : Int32) (ls : tm_Lo) (h : tm_H) (K : Option Value → tm_H → Prop) : tm_A d 92 21 ls [.int v] h K ↔ (v = 0 ∨ v = 1) ∧ K (some (.int v)) h := tm_retz o92_21 rfl
theorem o92_22 : tm_op 92 22 = some (.aload_n 0, (0, 0, 0, 0)) := rfl
theorem r92_22 (d : Nat) (v : Nat) (l1 l2 : Option Value) (st : List Value) (h : tm_H) (K : Option Value → tm_H → Prop) : tm_A d 92 22 [some (.ref v), l1, l2] st h K ↔ tm_A d 92 23 [some (.ref v), l1, l2] (.ref v :: st) h K := tm_s o92_22 rfl rfl rfl
theorem o92_23 : tm_op 92 23 = some (.getfield 19, (2, 9, 1, 0)) := rfl
theorem r92_23 (d : Nat) (a : Nat) (ls : tm_Lo) (st : List Value) (G : tm_G) (I : Nat → Nat → Int32) (J : Nat → Nat → Int64) (R : Nat → Nat → Option Nat) (K : Option Value → tm_H → Prop) : tm_A d 92 23 ls (.ref a :: st) (G, I, J, R) K ↔ G.2.2 a = (0, 9) ∧ tm_A d 92 26 ls (tm_rf (R a 1) :: st) (G, I, J, R) K := tm_getR o92_23
theorem o92_26 : tm_op 92 26 = some (.iload_n 1, (0, 0, 0, 0)) := rfl
theorem r92_26 (d : Nat) (v : Int32) (l0 l2 : Option Value) (st : List Value) (h : tm_H) (K : Option Value → tm_H → Prop) : tm_A d 92 26 [l0, some (.int v), l2] st h K ↔ tm_A d 92 27 [l0, some (.int v), l2] (.int v :: st) h K := tm_s o92_26 rfl rfl rfl
theorem o92_27 : tm_op 92 27 = some (.aload_n 0, (0, 0, 0, 0)) := rfl
theorem r92_27 (d : Nat) (v : Nat) (l1 l2 : Option Value) (st : List Value) (h : tm_H) (K : Option Value → tm_H → Prop) : tm_A d 92 27 [some (.ref v), l1, l2] st h K ↔ tm_A d 92 28 [some (.ref v), l1, l2] (.ref v :: st) h K := tm_s o92_27 rfl rfl rfl
theorem o92_28 : tm_op 92 28 = some (.getfield 58, (0, 9, 7, 0)) := rfl
theorem r92_28 (d : Nat) (a : Nat) (ls : tm_Lo) (st : List Value) (G : tm_G) (I : Nat → Nat → Int32) (J : Nat → Nat → Int64) (R : Nat → Nat → Option Nat) (K : Option Value → tm_H → Prop) : tm_A d 92 28 ls (.ref a :: st) (G, I, J, R) K ↔ G.2.2 a = (0, 9) ∧ tm_A d 92 31 ls (.int (I a 7) :: st) (G, I, J, R) K := tm_getI o92_28
theorem o92_31 : tm_op 92 31 = some (.iload_n 2, (0, 0, 0, 0)) := rfl
theorem r92_31 (d : Nat) (v : Int32) (l0 l1 : Option Value) (st : List Value) (h : tm_H) (K : Option Value → tm_H → Prop) : tm_A d 92 31 [l0, l1, some (.int v)] st h K ↔ tm_A d 92 32 [l0, l1, some (.int v)] (.int v :: st) h K := tm_s o92_31 rfl rfl rfl
theorem o92_32 : tm_op 92 32 = some (.invokevirtual 115, (2, 55, 4, 5)) := rfl
theorem r92_32 (d : Nat) (v1 : Int32) (v2 : Int32) (v3 : Int32) (a : Nat) (ls : tm_Lo) (st : List Value) (h : tm_H) (K : Option Value → tm_H → Prop) : tm_A (d + 1) 92 32 ls (.int v3 :: .int v2 :: .int v1 :: .ref a :: st) h K ↔ (h.1.2.2 a = (0, 5) ∧ tm_cs st) ∧ tm_R d 55 [.ref a, .int v1, .int v2, .int v3] h (fun r h' => tm_A (d + 1) 92 35 ls (r.toList ++ st) h' K) := tm_callV (as := [.int v1, .int v2, .int v3]) o92_32 rfl rfl rfl rfl
theorem o92_35 : tm_op 92 35 = some (.aload_n 0, (0, 0, 0, 0)) := rfl
theorem r92_35 (d : Nat) (v : Nat) (l1 l2 : Option Value) (st : List Value) (h : tm_H) (K : Option Value → tm_H → Prop) : tm_A d 92 35 [some (.ref v), l1, l2] st h K ↔ tm_A d 92 36 [some (.ref v), l1, l2] (.ref v :: st) h K := tm_s o92_35 rfl rfl rfl
theorem o92_36 : tm_op 92 36 = some (.iconst (-1), (0, 0, 0, 0)) := rfl
theorem r92_36 (d : Nat) (ls : tm_Lo) (st : List Value) (h : tm_H) (K : Option Value → tm_H → Prop) : tm_A d 92 36 ls st h K ↔ tm_A d 92 37 ls (.int (-1 : Int32) :: st) h K := tm_ic o92_36 (by decide)
theorem o92_37 : tm_op 92 37 = some (.putfield 68, (0, 9, 10, 0)) := rfl
theorem r92_37 (d : Nat) (v : Int32) (a : Nat) (ls : tm_Lo) (st : List Value) (G : tm_G) (I : Nat → Nat → Int32) (J : Nat → Nat → Int64) (R : Nat → Nat → Option Nat) (K : Option Value → tm_H → Prop) : tm_A d 92 37 ls (.int v :: .ref a :: st) (G, I, J, R) K ↔ G.2.2 a = (0, 9) ∧ tm_A d 92 40 ls st (G, up2 I a 10 v, J, R) K := tm_putI o92_37
theorem o92_40 : tm_op 92 40 = some (.iconst 1, (0, 0, 0, 0)) := rfl
theorem r92_40 (d : Nat) (ls : tm_Lo) (st : List Value) (h : tm_H) (K : Option Value → tm_H → Prop) : tm_A d 92 40 ls st h K ↔ tm_A d 92 41 ls (.int (1 : Int32) :: st) h K := tm_ic o92_40 (by decide)
theorem o92_41 : tm_op 92 41 = some (.ireturn, (0, 0, 0, 0)) := rfl
theorem r92_41 (d : Nat) (v : Int32) (ls : tm_Lo) (h : tm_H) (K : Option Value → tm_H → Prop) : tm_A d 92 41 ls [.int v] h K ↔ (v = 0 ∨ v = 1) ∧ K (some (.int v)) h := tm_retz o92_41 rfl
theorem o93_0 : tm_op 93 0 = some (.aload_n 0, (0, 0, 0, 0)) := rfl
theorem r93_0 (d : Nat) (v : Nat) (l1 l2 l3 : Option Value) (st : List Value) (h : tm_H) (K : Option Value → tm_H → Prop) : tm_A d 93 0 [some (.ref v), l1, l2, l3] st h K ↔ tm_A d 93 1 [some (.ref v), l1, l2, l3] (.ref v :: st) h K := tm_s o93_0 rfl rfl rfl
theorem o93_1 : tm_op 93 1 = some (.getfield 19, (2, 9, 1, 0)) := rfl
theorem r93_1 (d : Nat) (a : Nat) (ls : tm_Lo) (st : List Value) (G : tm_G) (I : Nat → Nat → Int32) (J : Nat → Nat → Int64) (R : Nat → Nat → Option Nat) (K : Option Value → tm_H → Prop) : tm_A d 93 1 ls (.ref a :: st) (G, I, J, R) K ↔ G.2.2 a = (0, 9) ∧ tm_A d 93 4 ls (tm_rf (R a 1) :: st) (G, I, J, R) K := tm_getR o93_1
theorem o93_4 : tm_op 93 4 = some (.iload_n 1, (0, 0, 0, 0)) := rfl
theorem r93_4 (d : Nat) (v : Int32) (l0 l2 l3 : Option Value) (st : List Value) (h : tm_H) (K : Option Value → tm_H → Prop) : tm_A d 93 4 [l0, some (.int v), l2, l3] st h K ↔ tm_A d 93 5 [l0, some (.int v), l2, l3] (.int v :: st) h K := tm_s o93_4 rfl rfl rfl
theorem o93_5 : tm_op 93 5 = some (.invokevirtual 119, (2, 51, 2, 5)) := rfl
theorem r93_5 (d : Nat) (v1 : Int32) (a : Nat) (ls : tm_Lo) (st : List Value) (h : tm_H) (K : Option Value → tm_H → Prop) : tm_A (d + 1) 93 5 ls (.int v1 :: .ref a :: st) h K ↔ (h.1.2.2 a = (0, 5) ∧ tm_cs st) ∧ tm_R d 51 [.ref a, .int v1] h (fun r h' => tm_A (d + 1) 93 8 ls (r.toList ++ st) h' K) := tm_callV (as := [.int v1]) o93_5 rfl rfl rfl rfl
theorem o93_8 : tm_op 93 8 = some (.ifCond .eq 19, (0, 0, 0, 0)) := rfl
theorem r93_8 (d : Nat) (x : Int32) (ls : tm_Lo) (st : List Value) (h : tm_H) (K : Option Value → tm_H → Prop) : tm_A d 93 8 ls (.int x :: st) h K ↔ if x = 0 then tm_A d 93 27 ls st h K else tm_A d 93 11 ls st h K := tm_b o93_8 rfl rfl rfl rfl
theorem o93_11 : tm_op 93 11 = some (.aload_n 0, (0, 0, 0, 0)) := rfl
theorem r93_11 (d : Nat) (v : Nat) (l1 l2 l3 : Option Value) (st : List Value) (h : tm_H) (K : Option Value → tm_H → Prop) : tm_A d 93 11 [some (.ref v), l1, l2, l3] st h K ↔ tm_A d 93 12 [some (.ref v), l1, l2, l3] (.ref v :: st) h K := tm_s o93_11 rfl rfl rfl
theorem o93_12 : tm_op 93 12 = some (.getfield 19, (2, 9, 1, 0)) := rfl
theorem r93_12 (d : Nat) (a : Nat) (ls : tm_Lo) (st : List Value) (G : tm_G) (I : Nat → Nat → Int32) (J : Nat → Nat → Int64) (R : Nat → Nat → Option Nat) (K : Option Value → tm_H → Prop) : tm_A d 93 12 ls (.ref a :: st) (G, I, J, R) K ↔ G.2.2 a = (0, 9) ∧ tm_A d 93 15 ls (tm_rf (R a 1) :: st) (G, I, J, R) K := tm_getR o93_12
theorem o93_15 : tm_op 93 15 = some (.iload_n 2, (0, 0, 0, 0)) := rfl
theorem r93_15 (d : Nat) (v : Int32) (l0 l1 l3 : Option Value) (st : List Value) (h : tm_H) (K : Option Value → tm_H → Prop) : tm_A d 93 15 [l0, l1, some (.int v), l3] st h K ↔ tm_A d 93 16 [l0, l1, some (.int v), l3] (.int v :: st) h K := tm_s o93_15 rfl rfl rfl
theorem o93_16 : tm_op 93 16 = some (.invokevirtual 119, (2, 51, 2, 5)) := rfl
theorem r93_16 (d : Nat) (v1 : Int32) (a : Nat) (ls : tm_Lo) (st : List Value) (h : tm_H) (K : Option Value → tm_H → Prop) : tm_A (d + 1) 93 16 ls (.int v1 :: .ref a :: st) h K ↔ (h.1.2.2 a = (0, 5) ∧ tm_cs st) ∧ tm_R d 51 [.ref a, .int v1] h (fun r h' => tm_A (d + 1) 93 19 ls (r.toList ++ st) h' K) := tm_callV (as := [.int v1]) o93_16 rfl rfl rfl rfl
theorem o93_19 : tm_op 93 19 = some (.ifCond .eq 8, (0, 0, 0, 0)) := rfl
theorem r93_19 (d : Nat) (x : Int32) (ls : tm_Lo) (st : List Value) (h : tm_H) (K : Option Value → tm_H → Prop) : tm_A d 93 19 ls (.int x :: st) h K ↔ if x = 0 then tm_A d 93 27 ls st h K else tm_A d 93 22 ls st h K := tm_b o93_19 rfl rfl rfl rfl
theorem o93_22 : tm_op 93 22 = some (.iload_n 1, (0, 0, 0, 0)) := rfl
theorem r93_22 (d : Nat) (v : Int32) (l0 l2 l3 : Option Value) (st : List Value) (h : tm_H) (K : Option Value → tm_H → Prop) : tm_A d 93 22 [l0, some (.int v), l2, l3] st h K ↔ tm_A d 93 23 [l0, some (.int v), l2, l3] (.int v :: st) h K := tm_s o93_22 rfl rfl rfl
theorem o93_23 : tm_op 93 23 = some (.iload_n 2, (0, 0, 0, 0)) := rfl
theorem r93_23 (d : Nat) (v : Int32) (l0 l1 l3 : Option Value) (st : List Value) (h : tm_H) (K : Option Value → tm_H → Prop) : tm_A d 93 23 [l0, l1, some (.int v), l3] st h K ↔ tm_A d 93 24 [l0, l1, some (.int v), l3] (.int v :: st) h K := tm_s o93_23 rfl rfl rfl
theorem o93_24 : tm_op 93 24 = some (.if_icmp .ne 5, (0, 0, 0, 0)) := rfl
theorem r93_24 (d : Nat) (y x : Int32) (ls : tm_Lo) (st : List Value) (h : tm_H) (K : Option Value → tm_H → Prop) : tm_A d 93 24 ls (.int y :: .int x :: st) h K ↔ if ¬ x = y then tm_A d 93 29 ls st h K else tm_A d 93 27 ls st h K := tm_b o93_24 rfl rfl rfl rfl
theorem o93_27 : tm_op 93 27 = some (.iconst 0, (0, 0, 0, 0)) := rfl
theorem r93_27 (d : Nat) (ls : tm_Lo) (st : List Value) (h : tm_H) (K : Option Value → tm_H → Prop) : tm_A d 93 27 ls st h K ↔ tm_A d 93 28 ls (.int (0 : Int32) :: st) h K := tm_ic o93_27 (by decide)
theorem o93_28 : tm_op 93 28 = some (.ireturn, (0, 0, 0, 0)) := rfl
theorem r93_28 (d : Nat) (v : Int32) (ls : tm_Lo) (h : tm_H) (K : Option Value → tm_H → Prop) : tm_A d 93 28 ls [.int v] h K ↔ (v = 0 ∨ v = 1) ∧ K (some (.int v)) h := tm_retz o93_28 rfl
theorem o93_29 : tm_op 93 29 = some (.iload_n 3, (0, 0, 0, 0)) := rfl
theorem r93_29 (d : Nat) (v : Int32) (l0 l1 l2 : Option Value) (st : List Value) (h : tm_H) (K : Option Value → tm_H → Prop) : tm_A d 93 29 [l0, l1, l2, some (.int v)] st h K ↔ tm_A d 93 30 [l0, l1, l2, some (.int v)] (.int v :: st) h K := tm_s o93_29 rfl rfl rfl
theorem o93_30 : tm_op 93 30 = some (.ifCond .lt 8, (0, 0, 0, 0)) := rfl
theorem r93_30 (d : Nat) (x : Int32) (ls : tm_Lo) (st : List Value) (h : tm_H) (K : Option Value → tm_H → Prop) : tm_A d 93 30 ls (.int x :: st) h K ↔ if x < 0 then tm_A d 93 38 ls st h K else tm_A d 93 33 ls st h K := tm_b o93_30 rfl rfl rfl rfl
theorem o93_33 : tm_op 93 33 = some (.iload_n 3, (0, 0, 0, 0)) := rfl
theorem r93_33 (d : Nat) (v : Int32) (l0 l1 l2 : Option Value) (st : List Value) (h : tm_H) (K : Option Value → tm_H → Prop) : tm_A d 93 33 [l0, l1, l2, some (.int v)] st h K ↔ tm_A d 93 34 [l0, l1, l2, some (.int v)] (.int v :: st) h K := tm_s o93_33 rfl rfl rfl
theorem o93_34 : tm_op 93 34 = some (.iconst 2, (0, 0, 0, 0)) := rfl
theorem r93_34 (d : Nat) (ls : tm_Lo) (st : List Value) (h : tm_H) (K : Option Value → tm_H → Prop) : tm_A d 93 34 ls st h K ↔ tm_A d 93 35 ls (.int (2 : Int32) :: st) h K := tm_ic o93_34 (by decide)
theorem o93_35 : tm_op 93 35 = some (.if_icmp .le 5, (0, 0, 0, 0)) := rfl
theorem r93_35 (d : Nat) (y x : Int32) (ls : tm_Lo) (st : List Value) (h : tm_H) (K : Option Value → tm_H → Prop) : tm_A d 93 35 ls (.int y :: .int x :: st) h K ↔ if x ≤ y then tm_A d 93 40 ls st h K else tm_A d 93 38 ls st h K := tm_b o93_35 rfl rfl rfl rfl
theorem o93_38 : tm_op 93 38 = some (.iconst 0, (0, 0, 0, 0)) := rfl
theorem r93_38 (d : Nat) (ls : tm_Lo) (st : List Value) (h : tm_H) (K : Option Value → tm_H → Prop) : tm_A d 93 38 ls st h K ↔ tm_A d 93 39 ls (.int (0 : Int32) :: st) h K := tm_ic o93_38 (by decide)
theorem o93_39 : tm_op 93 39 = some (.ireturn, (0, 0, 0, 0)) := rfl
theorem r93_39 (d : Nat) (v : Int32) (ls : tm_Lo) (h : tm_H) (K : Option Value → tm_H → Prop) : tm_A d 93 39 ls [.int v] h K ↔ (v = 0 ∨ v = 1) ∧ K (some (.int v)) h := tm_retz o93_39 rfl
theorem o93_40 : tm_op 93 40 = some (.aload_n 0, (0, 0, 0, 0)) := rfl
theorem r93_40 (d : Nat) (v : Nat) (l1 l2 l3 : Option Value) (st : List Value) (h : tm_H) (K : Option Value → tm_H → Prop) : tm_A d 93 40 [some (.ref v), l1, l2, l3] st h K ↔ tm_A d 93 41 [some (.ref v), l1, l2, l3] (.ref v :: st) h K := tm_s o93_40 rfl rfl rfl
theorem o93_41 : tm_op 93 41 = some (.getfield 33, (2, 9, 3, 0)) := rfl
theorem r93_41 (d : Nat) (a : Nat) (ls : tm_Lo) (st : List Value) (G : tm_G) (I : Nat → Nat → Int32) (J : Nat → Nat → Int64) (R : Nat → Nat → Option Nat) (K : Option Value → tm_H → Prop) : tm_A d 93 41 ls (.ref a :: st) (G, I, J, R) K ↔ G.2.2 a = (0, 9) ∧ tm_A d 93 44 ls (tm_rf (R a 3) :: st) (G, I, J, R) K := tm_getR o93_41
theorem o93_44 : tm_op 93 44 = some (.iload_n 1, (0, 0, 0, 0)) := rfl
theorem r93_44 (d : Nat) (v : Int32) (l0 l2 l3 : Option Value) (st : List Value) (h : tm_H) (K : Option Value → tm_H → Prop) : tm_A d 93 44 [l0, some (.int v), l2, l3] st h K ↔ tm_A d 93 45 [l0, some (.int v), l2, l3] (.int v :: st) h K := tm_s o93_44 rfl rfl rfl
theorem o93_45 : tm_op 93 45 = some (.iload_n 2, (0, 0, 0, 0)) := rfl
theorem r93_45 (d : Nat) (v : Int32) (l0 l1 l3 : Option Value) (st : List Value) (h : tm_H) (K : Option Value → tm_H → Prop) : tm_A d 93 45 [l0, l1, some (.int v), l3] st h K ↔ tm_A d 93 46 [l0, l1, some (.int v), l3] (.int v :: st) h K := tm_s o93_45 rfl rfl rfl
theorem o93_46 : tm_op 93 46 = some (.iload_n 3, (0, 0, 0, 0)) := rfl
theorem r93_46 (d : Nat) (v : Int32) (l0 l1 l2 : Option Value) (st : List Value) (h : tm_H) (K : Option Value → tm_H → Prop) : tm_A d 93 46 [l0, l1, l2, some (.int v)] st h K ↔ tm_A d 93 47 [l0, l1, l2, some (.int v)] (.int v :: st) h K := tm_s o93_46 rfl rfl rfl
theorem o93_47 : tm_op 93 47 = some (.invokevirtual 122, (2, 36, 4, 3)) := rfl
theorem r93_47 (d : Nat) (v1 : Int32) (v2 : Int32) (v3 : Int32) (a : Nat) (ls : tm_Lo) (st : List Value) (h : tm_H) (K : Option Value → tm_H → Prop) : tm_A (d + 1) 93 47 ls (.int v3 :: .int v2 :: .int v1 :: .ref a :: st) h K ↔ (h.1.2.2 a = (0, 3) ∧ tm_cs st) ∧ tm_R d 36 [.ref a, .int v1, .int v2, .int v3] h (fun r h' => tm_A (d + 1) 93 50 ls (r.toList ++ st) h' K) := tm_callV (as := [.int v1, .int v2, .int v3]) o93_47 rfl rfl rfl rfl
theorem o93_50 : tm_op 93 50 = some (.aload_n 0, (0, 0, 0, 0)) := rfl
theorem r93_50 (d : Nat) (v : Nat) (l1 l2 l3 : Option Value) (st : List Value) (h : tm_H) (K : Option Value → tm_H → Prop) : tm_A d 93 50 [some (.ref v), l1, l2, l3] st h K ↔ tm_A d 93 51 [some (.ref v), l1, l2, l3] (.ref v :: st) h K := tm_s o93_50 rfl rfl rfl
theorem o93_51 : tm_op 93 51 = some (.iconst 0, (0, 0, 0, 0)) := rfl
theorem r93_51 (d : Nat) (ls : tm_Lo) (st : List Value) (h : tm_H) (K : Option Value → tm_H → Prop) : tm_A d 93 51 ls st h K ↔ tm_A d 93 52 ls (.int (0 : Int32) :: st) h K := tm_ic o93_51 (by decide)
theorem o93_52 : tm_op 93 52 = some (.putfield 71, (3, 9, 11, 0)) := rfl
theorem r93_52 (d : Nat) (v : Int32) (a : Nat) (ls : tm_Lo) (st : List Value) (G : tm_G) (I : Nat → Nat → Int32) (J : Nat → Nat → Int64) (R : Nat → Nat → Option Nat) (K : Option Value → tm_H → Prop) : tm_A d 93 52 ls (.int v :: .ref a :: st) (G, I, J, R) K ↔ (G.2.2 a = (0, 9) ∧ (v = 0 ∨ v = 1)) ∧ tm_A d 93 55 ls st (G, up2 I a 11 v, J, R) K := tm_putZ o93_52
theorem o93_55 : tm_op 93 55 = some (.iconst 1, (0, 0, 0, 0)) := rfl
theorem r93_55 (d : Nat) (ls : tm_Lo) (st : List Value) (h : tm_H) (K : Option Value → tm_H → Prop) : tm_A d 93 55 ls st h K ↔ tm_A d 93 56 ls (.int (1 : Int32) :: st) h K := tm_ic o93_55 (by decide)
theorem o93_56 : tm_op 93 56 = some (.ireturn, (0, 0, 0, 0)) := rfl
theorem r93_56 (d : Nat) (v : Int32) (ls : tm_Lo) (h : tm_H) (K : Option Value → tm_H → Prop) : tm_A d 93 56 ls [.int v] h K ↔ (v = 0 ∨ v = 1) ∧ K (some (.int v)) h := tm_retz o93_56 rfl
theorem o94_0 : tm_op 94 0 = some (.iload_n 1, (0, 0, 0, 0)) := rfl
theorem r94_0 (d : Nat) (v : Int32) (l0 : Option Value) (st : List Value) (h : tm_H) (K : Option Value → tm_H → Prop) : tm_A d 94 0 [l0, some (.int v)] st h K ↔ tm_A d 94 1 [l0, some (.int v)] (.int v :: st) h K := tm_s o94_0 rfl rfl rfl
theorem o94_1 : tm_op 94 1 = some (.ifCond .lt 9, (0, 0, 0, 0)) := rfl
theorem r94_1 (d : Nat) (x : Int32) (ls : tm_Lo) (st : List Value) (h : tm_H) (K : Option Value → tm_H → Prop) : tm_A d 94 1 ls (.int x :: st) h K ↔ if x < 0 then tm_A d 94 10 ls st h K else tm_A d 94 4 ls st h K := tm_b o94_1 rfl rfl rfl rfl
theorem o94_4 : tm_op 94 4 = some (.iload_n 1, (0, 0, 0, 0)) := rfl
theorem r94_4 (d : Nat) (v : Int32) (l0 : Option Value) (st : List Value) (h : tm_H) (K : Option Value → tm_H → Prop) : tm_A d 94 4 [l0, some (.int v)] st h K ↔ tm_A d 94 5 [l0, some (.int v)] (.int v :: st) h K := tm_s o94_4 rfl rfl rfl
theorem o94_5 : tm_op 94 5 = some (.bipush 100, (0, 0, 0, 0)) := rfl
theorem r94_5 (d : Nat) (ls : tm_Lo) (st : List Value) (h : tm_H) (K : Option Value → tm_H → Prop) : tm_A d 94 5 ls st h K ↔ tm_A d 94 7 ls (.int (100 : Int32) :: st) h K := tm_bp o94_5 (by decide)
theorem o94_7 : tm_op 94 7 = some (.if_icmp .le 5, (0, 0, 0, 0)) := rfl
theorem r94_7 (d : Nat) (y x : Int32) (ls : tm_Lo) (st : List Value) (h : tm_H) (K : Option Value → tm_H → Prop) : tm_A d 94 7 ls (.int y :: .int x :: st) h K ↔ if x ≤ y then tm_A d 94 12 ls st h K else tm_A d 94 10 ls st h K := tm_b o94_7 rfl rfl rfl rfl
theorem o94_10 : tm_op 94 10 = some (.iconst 0, (0, 0, 0, 0)) := rfl
theorem r94_10 (d : Nat) (ls : tm_Lo) (st : List Value) (h : tm_H) (K : Option Value → tm_H → Prop) : tm_A d 94 10 ls st h K ↔ tm_A d 94 11 ls (.int (0 : Int32) :: st) h K := tm_ic o94_10 (by decide)
theorem o94_11 : tm_op 94 11 = some (.ireturn, (0, 0, 0, 0)) := rfl
theorem r94_11 (d : Nat) (v : Int32) (ls : tm_Lo) (h : tm_H) (K : Option Value → tm_H → Prop) : tm_A d 94 11 ls [.int v] h K ↔ (v = 0 ∨ v = 1) ∧ K (some (.int v)) h := tm_retz o94_11 rfl
theorem o94_12 : tm_op 94 12 = some (.aload_n 0, (0, 0, 0, 0)) := rfl
theorem r94_12 (d : Nat) (v : Nat) (l1 : Option Value) (st : List Value) (h : tm_H) (K : Option Value → tm_H → Prop) : tm_A d 94 12 [some (.ref v), l1] st h K ↔ tm_A d 94 13 [some (.ref v), l1] (.ref v :: st) h K := tm_s o94_12 rfl rfl rfl
theorem o94_13 : tm_op 94 13 = some (.iload_n 1, (0, 0, 0, 0)) := rfl
theorem r94_13 (d : Nat) (v : Int32) (l0 : Option Value) (st : List Value) (h : tm_H) (K : Option Value → tm_H → Prop) : tm_A d 94 13 [l0, some (.int v)] st h K ↔ tm_A d 94 14 [l0, some (.int v)] (.int v :: st) h K := tm_s o94_13 rfl rfl rfl
theorem o94_14 : tm_op 94 14 = some (.putfield 62, (0, 9, 8, 0)) := rfl
theorem r94_14 (d : Nat) (v : Int32) (a : Nat) (ls : tm_Lo) (st : List Value) (G : tm_G) (I : Nat → Nat → Int32) (J : Nat → Nat → Int64) (R : Nat → Nat → Option Nat) (K : Option Value → tm_H → Prop) : tm_A d 94 14 ls (.int v :: .ref a :: st) (G, I, J, R) K ↔ G.2.2 a = (0, 9) ∧ tm_A d 94 17 ls st (G, up2 I a 8 v, J, R) K := tm_putI o94_14
theorem o94_17 : tm_op 94 17 = some (.aload_n 0, (0, 0, 0, 0)) := rfl
theorem r94_17 (d : Nat) (v : Nat) (l1 : Option Value) (st : List Value) (h : tm_H) (K : Option Value → tm_H → Prop) : tm_A d 94 17 [some (.ref v), l1] st h K ↔ tm_A d 94 18 [some (.ref v), l1] (.ref v :: st) h K := tm_s o94_17 rfl rfl rfl
theorem o94_18 : tm_op 94 18 = some (.iconst 0, (0, 0, 0, 0)) := rfl
theorem r94_18 (d : Nat) (ls : tm_Lo) (st : List Value) (h : tm_H) (K : Option Value → tm_H → Prop) : tm_A d 94 18 ls st h K ↔ tm_A d 94 19 ls (.int (0 : Int32) :: st) h K := tm_ic o94_18 (by decide)
theorem o94_19 : tm_op 94 19 = some (.putfield 71, (3, 9, 11, 0)) := rfl
theorem r94_19 (d : Nat) (v : Int32) (a : Nat) (ls : tm_Lo) (st : List Value) (G : tm_G) (I : Nat → Nat → Int32) (J : Nat → Nat → Int64) (R : Nat → Nat → Option Nat) (K : Option Value → tm_H → Prop) : tm_A d 94 19 ls (.int v :: .ref a :: st) (G, I, J, R) K ↔ (G.2.2 a = (0, 9) ∧ (v = 0 ∨ v = 1)) ∧ tm_A d 94 22 ls st (G, up2 I a 11 v, J, R) K := tm_putZ o94_19
theorem o94_22 : tm_op 94 22 = some (.iconst 1, (0, 0, 0, 0)) := rfl
theorem r94_22 (d : Nat) (ls : tm_Lo) (st : List Value) (h : tm_H) (K : Option Value → tm_H → Prop) : tm_A d 94 22 ls st h K ↔ tm_A d 94 23 ls (.int (1 : Int32) :: st) h K := tm_ic o94_22 (by decide)
theorem o94_23 : tm_op 94 23 = some (.ireturn, (0, 0, 0, 0)) := rfl
theorem r94_23 (d : Nat) (v : Int32) (ls : tm_Lo) (h : tm_H) (K : Option Value → tm_H → Prop) : tm_A d 94 23 ls [.int v] h K ↔ (v = 0 ∨ v = 1) ∧ K (some (.int v)) h := tm_retz o94_23 rfl
theorem o95_0 : tm_op 95 0 = some (.iload_n 1, (0, 0, 0, 0)) := rfl
theorem r95_0 (d : Nat) (v : Int32) (l0 : Option Value) (st : List Value) (h : tm_H) (K : Option Value → tm_H → Prop) : tm_A d 95 0 [l0, some (.int v)] st h K ↔ tm_A d 95 1 [l0, some (.int v)] (.int v :: st) h K := tm_s o95_0 rfl rfl rfl
theorem o95_1 : tm_op 95 1 = some (.ifCond .lt 9, (0, 0, 0, 0)) := rfl
theorem r95_1 (d : Nat) (x : Int32) (ls : tm_Lo) (st : List Value) (h : tm_H) (K : Option Value → tm_H → Prop) : tm_A d 95 1 ls (.int x :: st) h K ↔ if x < 0 then tm_A d 95 10 ls st h K else tm_A d 95 4 ls st h K := tm_b o95_1 rfl rfl rfl rfl
theorem o95_4 : tm_op 95 4 = some (.iload_n 1, (0, 0, 0, 0)) := rfl
theorem r95_4 (d : Nat) (v : Int32) (l0 : Option Value) (st : List Value) (h : tm_H) (K : Option Value → tm_H → Prop) : tm_A d 95 4 [l0, some (.int v)] st h K ↔ tm_A d 95 5 [l0, some (.int v)] (.int v :: st) h K := tm_s o95_4 rfl rfl rfl
theorem o95_5 : tm_op 95 5 = some (.bipush 50, (0, 0, 0, 0)) := rfl
theorem r95_5 (d : Nat) (ls : tm_Lo) (st : List Value) (h : tm_H) (K : Option Value → tm_H → Prop) : tm_A d 95 5 ls st h K ↔ tm_A d 95 7 ls (.int (50 : Int32) :: st) h K := tm_bp o95_5 (by decide)
theorem o95_7 : tm_op 95 7 = some (.if_icmp .le 5, (0, 0, 0, 0)) := rfl
theorem r95_7 (d : Nat) (y x : Int32) (ls : tm_Lo) (st : List Value) (h : tm_H) (K : Option Value → tm_H → Prop) : tm_A d 95 7 ls (.int y :: .int x :: st) h K ↔ if x ≤ y then tm_A d 95 12 ls st h K else tm_A d 95 10 ls st h K := tm_b o95_7 rfl rfl rfl rfl
theorem o95_10 : tm_op 95 10 = some (.iconst 0, (0, 0, 0, 0)) := rfl
theorem r95_10 (d : Nat) (ls : tm_Lo) (st : List Value) (h : tm_H) (K : Option Value → tm_H → Prop) : tm_A d 95 10 ls st h K ↔ tm_A d 95 11 ls (.int (0 : Int32) :: st) h K := tm_ic o95_10 (by decide)
theorem o95_11 : tm_op 95 11 = some (.ireturn, (0, 0, 0, 0)) := rfl
theorem r95_11 (d : Nat) (v : Int32) (ls : tm_Lo) (h : tm_H) (K : Option Value → tm_H → Prop) : tm_A d 95 11 ls [.int v] h K ↔ (v = 0 ∨ v = 1) ∧ K (some (.int v)) h := tm_retz o95_11 rfl
theorem o95_12 : tm_op 95 12 = some (.aload_n 0, (0, 0, 0, 0)) := rfl
theorem r95_12 (d : Nat) (v : Nat) (l1 : Option Value) (st : List Value) (h : tm_H) (K : Option Value → tm_H → Prop) : tm_A d 95 12 [some (.ref v), l1] st h K ↔ tm_A d 95 13 [some (.ref v), l1] (.ref v :: st) h K := tm_s o95_12 rfl rfl rfl
theorem o95_13 : tm_op 95 13 = some (.iload_n 1, (0, 0, 0, 0)) := rfl
theorem r95_13 (d : Nat) (v : Int32) (l0 : Option Value) (st : List Value) (h : tm_H) (K : Option Value → tm_H → Prop) : tm_A d 95 13 [l0, some (.int v)] st h K ↔ tm_A d 95 14 [l0, some (.int v)] (.int v :: st) h K := tm_s o95_13 rfl rfl rfl
theorem o95_14 : tm_op 95 14 = some (.putfield 65, (0, 9, 9, 0)) := rfl
theorem r95_14 (d : Nat) (v : Int32) (a : Nat) (ls : tm_Lo) (st : List Value) (G : tm_G) (I : Nat → Nat → Int32) (J : Nat → Nat → Int64) (R : Nat → Nat → Option Nat) (K : Option Value → tm_H → Prop) : tm_A d 95 14 ls (.int v :: .ref a :: st) (G, I, J, R) K ↔ G.2.2 a = (0, 9) ∧ tm_A d 95 17 ls st (G, up2 I a 9 v, J, R) K := tm_putI o95_14
theorem o95_17 : tm_op 95 17 = some (.aload_n 0, (0, 0, 0, 0)) := rfl
theorem r95_17 (d : Nat) (v : Nat) (l1 : Option Value) (st : List Value) (h : tm_H) (K : Option Value → tm_H → Prop) : tm_A d 95 17 [some (.ref v), l1] st h K ↔ tm_A d 95 18 [some (.ref v), l1] (.ref v :: st) h K := tm_s o95_17 rfl rfl rfl
theorem o95_18 : tm_op 95 18 = some (.iconst 0, (0, 0, 0, 0)) := rfl
theorem r95_18 (d : Nat) (ls : tm_Lo) (st : List Value) (h : tm_H) (K : Option Value → tm_H → Prop) : tm_A d 95 18 ls st h K ↔ tm_A d 95 19 ls (.int (0 : Int32) :: st) h K := tm_ic o95_18 (by decide)
theorem o95_19 : tm_op 95 19 = some (.putfield 75, (3, 9, 12, 0)) := rfl
theorem r95_19 (d : Nat) (v : Int32) (a : Nat) (ls : tm_Lo) (st : List Value) (G : tm_G) (I : Nat → Nat → Int32) (J : Nat → Nat → Int64) (R : Nat → Nat → Option Nat) (K : Option Value → tm_H → Prop) : tm_A d 95 19 ls (.int v :: .ref a :: st) (G, I, J, R) K ↔ (G.2.2 a = (0, 9) ∧ (v = 0 ∨ v = 1)) ∧ tm_A d 95 22 ls st (G, up2 I a 12 v, J, R) K := tm_putZ o95_19
theorem o95_22 : tm_op 95 22 = some (.iconst 1, (0, 0, 0, 0)) := rfl
theorem r95_22 (d : Nat) (ls : tm_Lo) (st : List Value) (h : tm_H) (K : Option Value → tm_H → Prop) : tm_A d 95 22 ls st h K ↔ tm_A d 95 23 ls (.int (1 : Int32) :: st) h K := tm_ic o95_22 (by decide)
theorem o95_23 : tm_op 95 23 = some (.ireturn, (0, 0, 0, 0)) := rfl
theorem r95_23 (d : Nat) (v : Int32) (ls : tm_Lo) (h : tm_H) (K : Option Value → tm_H → Prop) : tm_A d 95 23 ls [.int v] h K ↔ (v = 0 ∨ v = 1) ∧ K (some (.int v)) h := tm_retz o95_23 rfl
theorem o96_0 : tm_op 96 0 = some (.aload_n 0, (0, 0, 0, 0)) := rfl
theorem r96_0 (d : Nat) (v : Nat) (l1 l2 l3 : Option Value) (st : List Value) (h : tm_H) (K : Option Value → tm_H → Prop) : tm_A d 96 0 [some (.ref v), l1, l2, l3] st h K ↔ tm_A d 96 1 [some (.ref v), l1, l2, l3] (.ref v :: st) h K := tm_s o96_0 rfl rfl rfl
theorem o96_1 : tm_op 96 1 = some (.iload_n 3, (0, 0, 0, 0)) := rfl
theorem r96_1 (d : Nat) (v : Int32) (l0 l1 l2 : Option Value) (st : List Value) (h : tm_H) (K : Option Value → tm_H → Prop) : tm_A d 96 1 [l0, l1, l2, some (.int v)] st h K ↔ tm_A d 96 2 [l0, l1, l2, some (.int v)] (.int v :: st) h K := tm_s o96_1 rfl rfl rfl
theorem o96_2 : tm_op 96 2 = some (.invokevirtual 125, (2, 109, 2, 9)) := rfl
theorem r96_2 (d : Nat) (v1 : Int32) (a : Nat) (ls : tm_Lo) (st : List Value) (h : tm_H) (K : Option Value → tm_H → Prop) : tm_A (d + 1) 96 2 ls (.int v1 :: .ref a :: st) h K ↔ (h.1.2.2 a = (0, 9) ∧ tm_cs st) ∧ tm_R d 109 [.ref a, .int v1] h (fun r h' => tm_A (d + 1) 96 5 ls (r.toList ++ st) h' K) := tm_callV (as := [.int v1]) o96_2 rfl rfl rfl rfl
theorem o96_5 : tm_op 96 5 = some (.ifCond .eq 15, (0, 0, 0, 0)) := rfl
theorem r96_5 (d : Nat) (x : Int32) (ls : tm_Lo) (st : List Value) (h : tm_H) (K : Option Value → tm_H → Prop) : tm_A d 96 5 ls (.int x :: st) h K ↔ if x = 0 then tm_A d 96 20 ls st h K else tm_A d 96 8 ls st h K := tm_b o96_5 rfl rfl rfl rfl
theorem o96_8 : tm_op 96 8 = some (.aload_n 0, (0, 0, 0, 0)) := rfl
theorem r96_8 (d : Nat) (v : Nat) (l1 l2 l3 : Option Value) (st : List Value) (h : tm_H) (K : Option Value → tm_H → Prop) : tm_A d 96 8 [some (.ref v), l1, l2, l3] st h K ↔ tm_A d 96 9 [some (.ref v), l1, l2, l3] (.ref v :: st) h K := tm_s o96_8 rfl rfl rfl
theorem o96_9 : tm_op 96 9 = some (.getfield 26, (2, 9, 2, 0)) := rfl
theorem r96_9 (d : Nat) (a : Nat) (ls : tm_Lo) (st : List Value) (G : tm_G) (I : Nat → Nat → Int32) (J : Nat → Nat → Int64) (R : Nat → Nat → Option Nat) (K : Option Value → tm_H → Prop) : tm_A d 96 9 ls (.ref a :: st) (G, I, J, R) K ↔ G.2.2 a = (0, 9) ∧ tm_A d 96 12 ls (tm_rf (R a 2) :: st) (G, I, J, R) K := tm_getR o96_9
theorem o96_12 : tm_op 96 12 = some (.iload_n 1, (0, 0, 0, 0)) := rfl
theorem r96_12 (d : Nat) (v : Int32) (l0 l2 l3 : Option Value) (st : List Value) (h : tm_H) (K : Option Value → tm_H → Prop) : tm_A d 96 12 [l0, some (.int v), l2, l3] st h K ↔ tm_A d 96 13 [l0, some (.int v), l2, l3] (.int v :: st) h K := tm_s o96_12 rfl rfl rfl
theorem o96_13 : tm_op 96 13 = some (.iload_n 2, (0, 0, 0, 0)) := rfl
theorem r96_13 (d : Nat) (v : Int32) (l0 l1 l3 : Option Value) (st : List Value) (h : tm_H) (K : Option Value → tm_H → Prop) : tm_A d 96 13 [l0, l1, some (.int v), l3] st h K ↔ tm_A d 96 14 [l0, l1, some (.int v), l3] (.int v :: st) h K := tm_s o96_13 rfl rfl rfl
theorem o96_14 : tm_op 96 14 = some (.invokevirtual 128, (2, 44, 3, 4)) := rfl
theorem r96_14 (d : Nat) (v1 : Int32) (v2 : Int32) (a : Nat) (ls : tm_Lo) (st : List Value) (h : tm_H) (K : Option Value → tm_H → Prop) : tm_A (d + 1) 96 14 ls (.int v2 :: .int v1 :: .ref a :: st) h K ↔ (h.1.2.2 a = (0, 4) ∧ tm_cs st) ∧ tm_R d 44 [.ref a, .int v1, .int v2] h (fun r h' => tm_A (d + 1) 96 17 ls (r.toList ++ st) h' K) := tm_callV (as := [.int v1, .int v2]) o96_14 rfl rfl rfl rfl
theorem o96_17 : tm_op 96 17 = some (.goto 4, (0, 0, 0, 0)) := rfl
theorem r96_17 (d : Nat) (ls : tm_Lo) (st : List Value) (h : tm_H) (K : Option Value → tm_H → Prop) : tm_A d 96 17 ls st h K ↔ tm_A d 96 21 ls st h K := tm_s o96_17 rfl rfl rfl
theorem o96_20 : tm_op 96 20 = some (.iconst (-1), (0, 0, 0, 0)) := rfl
theorem r96_20 (d : Nat) (ls : tm_Lo) (st : List Value) (h : tm_H) (K : Option Value → tm_H → Prop) : tm_A d 96 20 ls st h K ↔ tm_A d 96 21 ls (.int (-1 : Int32) :: st) h K := tm_ic o96_20 (by decide)
theorem o96_21 : tm_op 96 21 = some (.ireturn, (0, 0, 0, 0)) := rfl
theorem r96_21 (d : Nat) (v : Int32) (ls : tm_Lo) (h : tm_H) (K : Option Value → tm_H → Prop) : tm_A d 96 21 ls [.int v] h K ↔ K (some (.int v)) h := tm_reti o96_21 rfl
theorem o97_0 : tm_op 97 0 = some (.aload_n 0, (0, 0, 0, 0)) := rfl
theorem r97_0 (d : Nat) (v : Nat) (l1 l2 : Option Value) (st : List Value) (h : tm_H) (K : Option Value → tm_H → Prop) : tm_A d 97 0 [some (.ref v), l1, l2] st h K ↔ tm_A d 97 1 [some (.ref v), l1, l2] (.ref v :: st) h K := tm_s o97_0 rfl rfl rfl
theorem o97_1 : tm_op 97 1 = some (.iload_n 2, (0, 0, 0, 0)) := rfl
theorem r97_1 (d : Nat) (v : Int32) (l0 l1 : Option Value) (st : List Value) (h : tm_H) (K : Option Value → tm_H → Prop) : tm_A d 97 1 [l0, l1, some (.int v)] st h K ↔ tm_A d 97 2 [l0, l1, some (.int v)] (.int v :: st) h K := tm_s o97_1 rfl rfl rfl
theorem o97_2 : tm_op 97 2 = some (.invokevirtual 125, (2, 109, 2, 9)) := rfl
theorem r97_2 (d : Nat) (v1 : Int32) (a : Nat) (ls : tm_Lo) (st : List Value) (h : tm_H) (K : Option Value → tm_H → Prop) : tm_A (d + 1) 97 2 ls (.int v1 :: .ref a :: st) h K ↔ (h.1.2.2 a = (0, 9) ∧ tm_cs st) ∧ tm_R d 109 [.ref a, .int v1] h (fun r h' => tm_A (d + 1) 97 5 ls (r.toList ++ st) h' K) := tm_callV (as := [.int v1]) o97_2 rfl rfl rfl rfl
theorem o97_5 : tm_op 97 5 = some (.ifCond .eq 14, (0, 0, 0, 0)) := rfl
theorem r97_5 (d : Nat) (x : Int32) (ls : tm_Lo) (st : List Value) (h : tm_H) (K : Option Value → tm_H → Prop) : tm_A d 97 5 ls (.int x :: st) h K ↔ if x = 0 then tm_A d 97 19 ls st h K else tm_A d 97 8 ls st h K := tm_b o97_5 rfl rfl rfl rfl
theorem o97_8 : tm_op 97 8 = some (.aload_n 0, (0, 0, 0, 0)) := rfl
theorem r97_8 (d : Nat) (v : Nat) (l1 l2 : Option Value) (st : List Value) (h : tm_H) (K : Option Value → tm_H → Prop) : tm_A d 97 8 [some (.ref v), l1, l2] st h K ↔ tm_A d 97 9 [some (.ref v), l1, l2] (.ref v :: st) h K := tm_s o97_8 rfl rfl rfl
theorem o97_9 : tm_op 97 9 = some (.getfield 26, (2, 9, 2, 0)) := rfl
theorem r97_9 (d : Nat) (a : Nat) (ls : tm_Lo) (st : List Value) (G : tm_G) (I : Nat → Nat → Int32) (J : Nat → Nat → Int64) (R : Nat → Nat → Option Nat) (K : Option Value → tm_H → Prop) : tm_A d 97 9 ls (.ref a :: st) (G, I, J, R) K ↔ G.2.2 a = (0, 9) ∧ tm_A d 97 12 ls (tm_rf (R a 2) :: st) (G, I, J, R) K := tm_getR o97_9
theorem o97_12 : tm_op 97 12 = some (.iload_n 1, (0, 0, 0, 0)) := rfl
theorem r97_12 (d : Nat) (v : Int32) (l0 l2 : Option Value) (st : List Value) (h : tm_H) (K : Option Value → tm_H → Prop) : tm_A d 97 12 [l0, some (.int v), l2] st h K ↔ tm_A d 97 13 [l0, some (.int v), l2] (.int v :: st) h K := tm_s o97_12 rfl rfl rfl
theorem o97_13 : tm_op 97 13 = some (.invokevirtual 132, (2, 45, 2, 4)) := rfl
theorem r97_13 (d : Nat) (v1 : Int32) (a : Nat) (ls : tm_Lo) (st : List Value) (h : tm_H) (K : Option Value → tm_H → Prop) : tm_A (d + 1) 97 13 ls (.int v1 :: .ref a :: st) h K ↔ (h.1.2.2 a = (0, 4) ∧ tm_cs st) ∧ tm_R d 45 [.ref a, .int v1] h (fun r h' => tm_A (d + 1) 97 16 ls (r.toList ++ st) h' K) := tm_callV (as := [.int v1]) o97_13 rfl rfl rfl rfl
theorem o97_16 : tm_op 97 16 = some (.goto 4, (0, 0, 0, 0)) := rfl
theorem r97_16 (d : Nat) (ls : tm_Lo) (st : List Value) (h : tm_H) (K : Option Value → tm_H → Prop) : tm_A d 97 16 ls st h K ↔ tm_A d 97 20 ls st h K := tm_s o97_16 rfl rfl rfl
theorem o97_19 : tm_op 97 19 = some (.iconst (-1), (0, 0, 0, 0)) := rfl
theorem r97_19 (d : Nat) (ls : tm_Lo) (st : List Value) (h : tm_H) (K : Option Value → tm_H → Prop) : tm_A d 97 19 ls st h K ↔ tm_A d 97 20 ls (.int (-1 : Int32) :: st) h K := tm_ic o97_19 (by decide)
theorem o97_20 : tm_op 97 20 = some (.ireturn, (0, 0, 0, 0)) := rfl
theorem r97_20 (d : Nat) (v : Int32) (ls : tm_Lo) (h : tm_H) (K : Option Value → tm_H → Prop) : tm_A d 97 20 ls [.int v] h K ↔ K (some (.int v)) h := tm_reti o97_20 rfl
theorem o98_0 : tm_op 98 0 = some (.aload_n 0, (0, 0, 0, 0)) := rfl
theorem r98_0 (d : Nat) (v : Nat) (l1 l2 l3 l4 l5 : Option Value) (st : List Value) (h : tm_H) (K : Option Value → tm_H → Prop) : tm_A d 98 0 [some (.ref v), l1, l2, l3, l4, l5] st h K ↔ tm_A d 98 1 [some (.ref v), l1, l2, l3, l4, l5] (.ref v :: st) h K := tm_s o98_0 rfl rfl rfl
theorem o98_1 : tm_op 98 1 = some (.iload 4, (0, 0, 0, 0)) := rfl
theorem r98_1 (d : Nat) (v : Int32) (l0 l1 l2 l3 l5 : Option Value) (st : List Value) (h : tm_H) (K : Option Value → tm_H → Prop) : tm_A d 98 1 [l0, l1, l2, l3, some (.int v), l5] st h K ↔ tm_A d 98 3 [l0, l1, l2, l3, some (.int v), l5] (.int v :: st) h K := tm_s o98_1 rfl rfl rfl
theorem o98_3 : tm_op 98 3 = some (.invokevirtual 125, (2, 109, 2, 9)) := rfl
theorem r98_3 (d : Nat) (v1 : Int32) (a : Nat) (ls : tm_Lo) (st : List Value) (h : tm_H) (K : Option Value → tm_H → Prop) : tm_A (d + 1) 98 3 ls (.int v1 :: .ref a :: st) h K ↔ (h.1.2.2 a = (0, 9) ∧ tm_cs st) ∧ tm_R d 109 [.ref a, .int v1] h (fun r h' => tm_A (d + 1) 98 6 ls (r.toList ++ st) h' K) := tm_callV (as := [.int v1]) o98_3 rfl rfl rfl rfl
theorem o98_6 : tm_op 98 6 = some (.ifCond .eq 14, (0, 0, 0, 0)) := rfl
theorem r98_6 (d : Nat) (x : Int32) (ls : tm_Lo) (st : List Value) (h : tm_H) (K : Option Value → tm_H → Prop) : tm_A d 98 6 ls (.int x :: st) h K ↔ if x = 0 then tm_A d 98 20 ls st h K else tm_A d 98 9 ls st h K := tm_b o98_6 rfl rfl rfl rfl
theorem o98_9 : tm_op 98 9 = some (.aload_n 0, (0, 0, 0, 0)) := rfl
theorem r98_9 (d : Nat) (v : Nat) (l1 l2 l3 l4 l5 : Option Value) (st : List Value) (h : tm_H) (K : Option Value → tm_H → Prop) : tm_A d 98 9 [some (.ref v), l1, l2, l3, l4, l5] st h K ↔ tm_A d 98 10 [some (.ref v), l1, l2, l3, l4, l5] (.ref v :: st) h K := tm_s o98_9 rfl rfl rfl
theorem o98_10 : tm_op 98 10 = some (.getfield 26, (2, 9, 2, 0)) := rfl
theorem r98_10 (d : Nat) (a : Nat) (ls : tm_Lo) (st : List Value) (G : tm_G) (I : Nat → Nat → Int32) (J : Nat → Nat → Int64) (R : Nat → Nat → Option Nat) (K : Option Value → tm_H → Prop) : tm_A d 98 10 ls (.ref a :: st) (G, I, J, R) K ↔ G.2.2 a = (0, 9) ∧ tm_A d 98 13 ls (tm_rf (R a 2) :: st) (G, I, J, R) K := tm_getR o98_10
theorem o98_13 : tm_op 98 13 = some (.iload_n 1, (0, 0, 0, 0)) := rfl
theorem r98_13 (d : Nat) (v : Int32) (l0 l2 l3 l4 l5 : Option Value) (st : List Value) (h : tm_H) (K : Option Value → tm_H → Prop) : tm_A d 98 13 [l0, some (.int v), l2, l3, l4, l5] st h K ↔ tm_A d 98 14 [l0, some (.int v), l2, l3, l4, l5] (.int v :: st) h K := tm_s o98_13 rfl rfl rfl
theorem o98_14 : tm_op 98 14 = some (.invokevirtual 135, (2, 43, 2, 4)) := rfl
theorem r98_14 (d : Nat) (v1 : Int32) (a : Nat) (ls : tm_Lo) (st : List Value) (h : tm_H) (K : Option Value → tm_H → Prop) : tm_A (d + 1) 98 14 ls (.int v1 :: .ref a :: st) h K ↔ (h.1.2.2 a = (0, 4) ∧ tm_cs st) ∧ tm_R d 43 [.ref a, .int v1] h (fun r h' => tm_A (d + 1) 98 17 ls (r.toList ++ st) h' K) := tm_callV (as := [.int v1]) o98_14 rfl rfl rfl rfl
theorem o98_17 : tm_op 98 17 = some (.goto 4, (0, 0, 0, 0)) := rfl
theorem r98_17 (d : Nat) (ls : tm_Lo) (st : List Value) (h : tm_H) (K : Option Value → tm_H → Prop) : tm_A d 98 17 ls st h K ↔ tm_A d 98 21 ls st h K := tm_s o98_17 rfl rfl rfl
theorem o98_20 : tm_op 98 20 = some (.aconst_null, (0, 0, 0, 0)) := rfl
theorem r98_20 (d : Nat) (ls : tm_Lo) (st : List Value) (h : tm_H) (K : Option Value → tm_H → Prop) : tm_A d 98 20 ls st h K ↔ tm_A d 98 21 ls (.null :: st) h K := tm_s o98_20 rfl rfl rfl
theorem o98_21 : tm_op 98 21 = some (.astore 5, (0, 0, 0, 0)) := rfl
theorem r98_21 (d : Nat) (v : Nat) (l0 l1 l2 l3 l4 l5 : Option Value) (st : List Value) (h : tm_H) (K : Option Value → tm_H → Prop) : tm_A d 98 21 [l0, l1, l2, l3, l4, l5] (.ref v :: st) h K ↔ tm_A d 98 23 [l0, l1, l2, l3, l4, some (.ref v)] st h K := tm_s o98_21 rfl rfl rfl
theorem r98_21n (d : Nat)  (l0 l1 l2 l3 l4 l5 : Option Value) (st : List Value) (h : tm_H) (K : Option Value → tm_H → Prop) : tm_A d 98 21 [l0, l1, l2, l3, l4, l5] (.null :: st) h K ↔ tm_A d 98 23 [l0, l1, l2, l3, l4, some .null] st h K := tm_s o98_21 rfl rfl rfl
theorem o98_23 : tm_op 98 23 = some (.aload 5, (0, 0, 0, 0)) := rfl
theorem r98_23 (d : Nat) (v : Nat) (l0 l1 l2 l3 l4 : Option Value) (st : List Value) (h : tm_H) (K : Option Value → tm_H → Prop) : tm_A d 98 23 [l0, l1, l2, l3, l4, some (.ref v)] st h K ↔ tm_A d 98 25 [l0, l1, l2, l3, l4, some (.ref v)] (.ref v :: st) h K := tm_s o98_23 rfl rfl rfl
theorem r98_23n (d : Nat)  (l0 l1 l2 l3 l4 : Option Value) (st : List Value) (h : tm_H) (K : Option Value → tm_H → Prop) : tm_A d 98 23 [l0, l1, l2, l3, l4, some .null] st h K ↔ tm_A d 98 25 [l0, l1, l2, l3, l4, some .null] (.null :: st) h K := tm_s o98_23 rfl rfl rfl
theorem o98_25 : tm_op 98 25 = some (.ifnonnull 7, (0, 0, 0, 0)) := rfl
theorem r98_25 (d : Nat) (v : Nat) (ls : tm_Lo) (st : List Value) (h : tm_H) (K : Option Value → tm_H → Prop) : tm_A d 98 25 ls (.ref v :: st) h K ↔ tm_A d 98 32 ls st h K := tm_s o98_25 rfl rfl rfl
theorem r98_25n (d : Nat) (ls : tm_Lo) (st : List Value) (h : tm_H) (K : Option Value → tm_H → Prop) : tm_A d 98 25 ls (.null :: st) h K ↔ tm_A d 98 28 ls st h K := tm_s o98_25 rfl rfl rfl
theorem o98_28 : tm_op 98 28 = some (.iconst (-1), (0, 0, 0, 0)) := rfl
theorem r98_28 (d : Nat) (ls : tm_Lo) (st : List Value) (h : tm_H) (K : Option Value → tm_H → Prop) : tm_A d 98 28 ls st h K ↔ tm_A d 98 29 ls (.int (-1 : Int32) :: st) h K := tm_ic o98_28 (by decide)
theorem o98_29 : tm_op 98 29 = some (.goto 10, (0, 0, 0, 0)) := rfl
theorem r98_29 (d : Nat) (ls : tm_Lo) (st : List Value) (h : tm_H) (K : Option Value → tm_H → Prop) : tm_A d 98 29 ls st h K ↔ tm_A d 98 39 ls st h K := tm_s o98_29 rfl rfl rfl
theorem o98_32 : tm_op 98 32 = some (.aload 5, (0, 0, 0, 0)) := rfl
theorem r98_32 (d : Nat) (v : Nat) (l0 l1 l2 l3 l4 : Option Value) (st : List Value) (h : tm_H) (K : Option Value → tm_H → Prop) : tm_A d 98 32 [l0, l1, l2, l3, l4, some (.ref v)] st h K ↔ tm_A d 98 34 [l0, l1, l2, l3, l4, some (.ref v)] (.ref v :: st) h K := tm_s o98_32 rfl rfl rfl
theorem r98_32n (d : Nat)  (l0 l1 l2 l3 l4 : Option Value) (st : List Value) (h : tm_H) (K : Option Value → tm_H → Prop) : tm_A d 98 32 [l0, l1, l2, l3, l4, some .null] st h K ↔ tm_A d 98 34 [l0, l1, l2, l3, l4, some .null] (.null :: st) h K := tm_s o98_32 rfl rfl rfl
theorem o98_34 : tm_op 98 34 = some (.iload_n 2, (0, 0, 0, 0)) := rfl
theorem r98_34 (d : Nat) (v : Int32) (l0 l1 l3 l4 l5 : Option Value) (st : List Value) (h : tm_H) (K : Option Value → tm_H → Prop) : tm_A d 98 34 [l0, l1, some (.int v), l3, l4, l5] st h K ↔ tm_A d 98 35 [l0, l1, some (.int v), l3, l4, l5] (.int v :: st) h K := tm_s o98_34 rfl rfl rfl
theorem o98_35 : tm_op 98 35 = some (.iload_n 3, (0, 0, 0, 0)) := rfl
theorem r98_35 (d : Nat) (v : Int32) (l0 l1 l2 l4 l5 : Option Value) (st : List Value) (h : tm_H) (K : Option Value → tm_H → Prop) : tm_A d 98 35 [l0, l1, l2, some (.int v), l4, l5] st h K ↔ tm_A d 98 36 [l0, l1, l2, some (.int v), l4, l5] (.int v :: st) h K := tm_s o98_35 rfl rfl rfl
theorem o98_36 : tm_op 98 36 = some (.invokevirtual 139, (2, 7, 3, 0)) := rfl
theorem r98_36 (d : Nat) (v1 : Int32) (v2 : Int32) (a : Nat) (ls : tm_Lo) (st : List Value) (h : tm_H) (K : Option Value → tm_H → Prop) : tm_A (d + 1) 98 36 ls (.int v2 :: .int v1 :: .ref a :: st) h K ↔ (h.1.2.2 a = (0, 0) ∧ tm_cs st) ∧ tm_R d 7 [.ref a, .int v1, .int v2] h (fun r h' => tm_A (d + 1) 98 39 ls (r.toList ++ st) h' K) := tm_callV (as := [.int v1, .int v2]) o98_36 rfl rfl rfl rfl
theorem o98_39 : tm_op 98 39 = some (.ireturn, (0, 0, 0, 0)) := rfl
theorem r98_39 (d : Nat) (v : Int32) (ls : tm_Lo) (h : tm_H) (K : Option Value → tm_H → Prop) : tm_A d 98 39 ls [.int v] h K ↔ K (some (.int v)) h := tm_reti o98_39 rfl
theorem o99_0 : tm_op 99 0 = some (.aload_n 0, (0, 0, 0, 0)) := rfl
theorem r99_0 (d : Nat) (v : Nat) (l1 l2 l3 : Option Value) (st : List Value) (h : tm_H) (K : Option Value → tm_H → Prop) : tm_A d 99 0 [some (.ref v), l1, l2, l3] st h K ↔ tm_A d 99 1 [some (.ref v), l1, l2, l3] (.ref v :: st) h K := tm_s o99_0 rfl rfl rfl
theorem o99_1 : tm_op 99 1 = some (.iload_n 3, (0, 0, 0, 0)) := rfl
theorem r99_1 (d : Nat) (v : Int32) (l0 l1 l2 : Option Value) (st : List Value) (h : tm_H) (K : Option Value → tm_H → Prop) : tm_A d 99 1 [l0, l1, l2, some (.int v)] st h K ↔ tm_A d 99 2 [l0, l1, l2, some (.int v)] (.int v :: st) h K := tm_s o99_1 rfl rfl rfl
theorem o99_2 : tm_op 99 2 = some (.invokevirtual 125, (2, 109, 2, 9)) := rfl
theorem r99_2 (d : Nat) (v1 : Int32) (a : Nat) (ls : tm_Lo) (st : List Value) (h : tm_H) (K : Option Value → tm_H → Prop) : tm_A (d + 1) 99 2 ls (.int v1 :: .ref a :: st) h K ↔ (h.1.2.2 a = (0, 9) ∧ tm_cs st) ∧ tm_R d 109 [.ref a, .int v1] h (fun r h' => tm_A (d + 1) 99 5 ls (r.toList ++ st) h' K) := tm_callV (as := [.int v1]) o99_2 rfl rfl rfl rfl
theorem o99_5 : tm_op 99 5 = some (.ifCond .eq 24, (0, 0, 0, 0)) := rfl
theorem r99_5 (d : Nat) (x : Int32) (ls : tm_Lo) (st : List Value) (h : tm_H) (K : Option Value → tm_H → Prop) : tm_A d 99 5 ls (.int x :: st) h K ↔ if x = 0 then tm_A d 99 29 ls st h K else tm_A d 99 8 ls st h K := tm_b o99_5 rfl rfl rfl rfl
theorem o99_8 : tm_op 99 8 = some (.iload_n 1, (0, 0, 0, 0)) := rfl
theorem r99_8 (d : Nat) (v : Int32) (l0 l2 l3 : Option Value) (st : List Value) (h : tm_H) (K : Option Value → tm_H → Prop) : tm_A d 99 8 [l0, some (.int v), l2, l3] st h K ↔ tm_A d 99 9 [l0, some (.int v), l2, l3] (.int v :: st) h K := tm_s o99_8 rfl rfl rfl
theorem o99_9 : tm_op 99 9 = some (.iload_n 2, (0, 0, 0, 0)) := rfl
theorem r99_9 (d : Nat) (v : Int32) (l0 l1 l3 : Option Value) (st : List Value) (h : tm_H) (K : Option Value → tm_H → Prop) : tm_A d 99 9 [l0, l1, some (.int v), l3] st h K ↔ tm_A d 99 10 [l0, l1, some (.int v), l3] (.int v :: st) h K := tm_s o99_9 rfl rfl rfl
theorem o99_10 : tm_op 99 10 = some (.if_icmp .eq 19, (0, 0, 0, 0)) := rfl
theorem r99_10 (d : Nat) (y x : Int32) (ls : tm_Lo) (st : List Value) (h : tm_H) (K : Option Value → tm_H → Prop) : tm_A d 99 10 ls (.int y :: .int x :: st) h K ↔ if x = y then tm_A d 99 29 ls st h K else tm_A d 99 13 ls st h K := tm_b o99_10 rfl rfl rfl rfl
theorem o99_13 : tm_op 99 13 = some (.aload_n 0, (0, 0, 0, 0)) := rfl
theorem r99_13 (d : Nat) (v : Nat) (l1 l2 l3 : Option Value) (st : List Value) (h : tm_H) (K : Option Value → tm_H → Prop) : tm_A d 99 13 [some (.ref v), l1, l2, l3] st h K ↔ tm_A d 99 14 [some (.ref v), l1, l2, l3] (.ref v :: st) h K := tm_s o99_13 rfl rfl rfl
theorem o99_14 : tm_op 99 14 = some (.getfield 26, (2, 9, 2, 0)) := rfl
theorem r99_14 (d : Nat) (a : Nat) (ls : tm_Lo) (st : List Value) (G : tm_G) (I : Nat → Nat → Int32) (J : Nat → Nat → Int64) (R : Nat → Nat → Option Nat) (K : Option Value → tm_H → Prop) : tm_A d 99 14 ls (.ref a :: st) (G, I, J, R) K ↔ G.2.2 a = (0, 9) ∧ tm_A d 99 17 ls (tm_rf (R a 2) :: st) (G, I, J, R) K := tm_getR o99_14
theorem o99_17 : tm_op 99 17 = some (.aload_n 0, (0, 0, 0, 0)) := rfl
theorem r99_17 (d : Nat) (v : Nat) (l1 l2 l3 : Option Value) (st : List Value) (h : tm_H) (K : Option Value → tm_H → Prop) : tm_A d 99 17 [some (.ref v), l1, l2, l3] st h K ↔ tm_A d 99 18 [some (.ref v), l1, l2, l3] (.ref v :: st) h K := tm_s o99_17 rfl rfl rfl
theorem o99_18 : tm_op 99 18 = some (.getfield 33, (2, 9, 3, 0)) := rfl
theorem r99_18 (d : Nat) (a : Nat) (ls : tm_Lo) (st : List Value) (G : tm_G) (I : Nat → Nat → Int32) (J : Nat → Nat → Int64) (R : Nat → Nat → Option Nat) (K : Option Value → tm_H → Prop) : tm_A d 99 18 ls (.ref a :: st) (G, I, J, R) K ↔ G.2.2 a = (0, 9) ∧ tm_A d 99 21 ls (tm_rf (R a 3) :: st) (G, I, J, R) K := tm_getR o99_18
theorem o99_21 : tm_op 99 21 = some (.iload_n 1, (0, 0, 0, 0)) := rfl
theorem r99_21 (d : Nat) (v : Int32) (l0 l2 l3 : Option Value) (st : List Value) (h : tm_H) (K : Option Value → tm_H → Prop) : tm_A d 99 21 [l0, some (.int v), l2, l3] st h K ↔ tm_A d 99 22 [l0, some (.int v), l2, l3] (.int v :: st) h K := tm_s o99_21 rfl rfl rfl
theorem o99_22 : tm_op 99 22 = some (.iload_n 2, (0, 0, 0, 0)) := rfl
theorem r99_22 (d : Nat) (v : Int32) (l0 l1 l3 : Option Value) (st : List Value) (h : tm_H) (K : Option Value → tm_H → Prop) : tm_A d 99 22 [l0, l1, some (.int v), l3] st h K ↔ tm_A d 99 23 [l0, l1, some (.int v), l3] (.int v :: st) h K := tm_s o99_22 rfl rfl rfl
theorem o99_23 : tm_op 99 23 = some (.invokestatic 144, (1, 63, 4, 0)) := rfl
theorem r99_23 (d : Nat) (v0 : Nat) (v1 : Nat) (v2 : Int32) (v3 : Int32) (ls : tm_Lo) (st : List Value) (h : tm_H) (K : Option Value → tm_H → Prop) : tm_A (d + 1) 99 23 ls (.int v3 :: .int v2 :: .ref v1 :: .ref v0 :: st) h K ↔ tm_cs st ∧ tm_R d 63 [.ref v0, .ref v1, .int v2, .int v3] h (fun r h' => tm_A (d + 1) 99 26 ls (r.toList ++ st) h' K) := tm_callS (as := [.ref v0, .ref v1, .int v2, .int v3]) o99_23 rfl rfl rfl rfl
theorem o99_26 : tm_op 99 26 = some (.goto 6, (0, 0, 0, 0)) := rfl
theorem r99_26 (d : Nat) (ls : tm_Lo) (st : List Value) (h : tm_H) (K : Option Value → tm_H → Prop) : tm_A d 99 26 ls st h K ↔ tm_A d 99 32 ls st h K := tm_s o99_26 rfl rfl rfl
theorem o99_29 : tm_op 99 29 = some (.sipush (-1000), (0, 0, 0, 0)) := rfl
theorem r99_29 (d : Nat) (ls : tm_Lo) (st : List Value) (h : tm_H) (K : Option Value → tm_H → Prop) : tm_A d 99 29 ls st h K ↔ tm_A d 99 32 ls (.int (-1000 : Int32) :: st) h K := tm_sp o99_29 (by decide)
theorem o99_32 : tm_op 99 32 = some (.ireturn, (0, 0, 0, 0)) := rfl
theorem r99_32 (d : Nat) (v : Int32) (ls : tm_Lo) (h : tm_H) (K : Option Value → tm_H → Prop) : tm_A d 99 32 ls [.int v] h K ↔ K (some (.int v)) h := tm_reti o99_32 rfl
theorem o100_0 : tm_op 100 0 = some (.aload_n 0, (0, 0, 0, 0)) := rfl
theorem r100_0 (d : Nat) (v : Nat) (l1 l2 : Option Value) (st : List Value) (h : tm_H) (K : Option Value → tm_H → Prop) : tm_A d 100 0 [some (.ref v), l1, l2] st h K ↔ tm_A d 100 1 [some (.ref v), l1, l2] (.ref v :: st) h K := tm_s o100_0 rfl rfl rfl
theorem o100_1 : tm_op 100 1 = some (.iload_n 2, (0, 0, 0, 0)) := rfl
theorem r100_1 (d : Nat) (v : Int32) (l0 l1 : Option Value) (st : List Value) (h : tm_H) (K : Option Value → tm_H → Prop) : tm_A d 100 1 [l0, l1, some (.int v)] st h K ↔ tm_A d 100 2 [l0, l1, some (.int v)] (.int v :: st) h K := tm_s o100_1 rfl rfl rfl
theorem o100_2 : tm_op 100 2 = some (.invokevirtual 148, (2, 110, 2, 9)) := rfl
theorem r100_2 (d : Nat) (v1 : Int32) (a : Nat) (ls : tm_Lo) (st : List Value) (h : tm_H) (K : Option Value → tm_H → Prop) : tm_A (d + 1) 100 2 ls (.int v1 :: .ref a :: st) h K ↔ (h.1.2.2 a = (0, 9) ∧ tm_cs st) ∧ tm_R d 110 [.ref a, .int v1] h (fun r h' => tm_A (d + 1) 100 5 ls (r.toList ++ st) h' K) := tm_callV (as := [.int v1]) o100_2 rfl rfl rfl rfl
theorem o100_5 : tm_op 100 5 = some (.ifCond .eq 14, (0, 0, 0, 0)) := rfl
theorem r100_5 (d : Nat) (x : Int32) (ls : tm_Lo) (st : List Value) (h : tm_H) (K : Option Value → tm_H → Prop) : tm_A d 100 5 ls (.int x :: st) h K ↔ if x = 0 then tm_A d 100 19 ls st h K else tm_A d 100 8 ls st h K := tm_b o100_5 rfl rfl rfl rfl
theorem o100_8 : tm_op 100 8 = some (.aload_n 0, (0, 0, 0, 0)) := rfl
theorem r100_8 (d : Nat) (v : Nat) (l1 l2 : Option Value) (st : List Value) (h : tm_H) (K : Option Value → tm_H → Prop) : tm_A d 100 8 [some (.ref v), l1, l2] st h K ↔ tm_A d 100 9 [some (.ref v), l1, l2] (.ref v :: st) h K := tm_s o100_8 rfl rfl rfl
theorem o100_9 : tm_op 100 9 = some (.getfield 47, (2, 9, 5, 0)) := rfl
theorem r100_9 (d : Nat) (a : Nat) (ls : tm_Lo) (st : List Value) (G : tm_G) (I : Nat → Nat → Int32) (J : Nat → Nat → Int64) (R : Nat → Nat → Option Nat) (K : Option Value → tm_H → Prop) : tm_A d 100 9 ls (.ref a :: st) (G, I, J, R) K ↔ G.2.2 a = (0, 9) ∧ tm_A d 100 12 ls (tm_rf (R a 5) :: st) (G, I, J, R) K := tm_getR o100_9
theorem o100_12 : tm_op 100 12 = some (.iload_n 1, (0, 0, 0, 0)) := rfl
theorem r100_12 (d : Nat) (v : Int32) (l0 l2 : Option Value) (st : List Value) (h : tm_H) (K : Option Value → tm_H → Prop) : tm_A d 100 12 [l0, some (.int v), l2] st h K ↔ tm_A d 100 13 [l0, some (.int v), l2] (.int v :: st) h K := tm_s o100_12 rfl rfl rfl
theorem o100_13 : tm_op 100 13 = some (.invokevirtual 151, (2, 31, 2, 2)) := rfl
theorem r100_13 (d : Nat) (v1 : Int32) (a : Nat) (ls : tm_Lo) (st : List Value) (h : tm_H) (K : Option Value → tm_H → Prop) : tm_A (d + 1) 100 13 ls (.int v1 :: .ref a :: st) h K ↔ (h.1.2.2 a = (0, 2) ∧ tm_cs st) ∧ tm_R d 31 [.ref a, .int v1] h (fun r h' => tm_A (d + 1) 100 16 ls (r.toList ++ st) h' K) := tm_callV (as := [.int v1]) o100_13 rfl rfl rfl rfl
theorem o100_16 : tm_op 100 16 = some (.goto 4, (0, 0, 0, 0)) := rfl
theorem r100_16 (d : Nat) (ls : tm_Lo) (st : List Value) (h : tm_H) (K : Option Value → tm_H → Prop) : tm_A d 100 16 ls st h K ↔ tm_A d 100 20 ls st h K := tm_s o100_16 rfl rfl rfl
theorem o100_19 : tm_op 100 19 = some (.iconst (-1), (0, 0, 0, 0)) := rfl
theorem r100_19 (d : Nat) (ls : tm_Lo) (st : List Value) (h : tm_H) (K : Option Value → tm_H → Prop) : tm_A d 100 19 ls st h K ↔ tm_A d 100 20 ls (.int (-1 : Int32) :: st) h K := tm_ic o100_19 (by decide)
theorem o100_20 : tm_op 100 20 = some (.ireturn, (0, 0, 0, 0)) := rfl
theorem r100_20 (d : Nat) (v : Int32) (ls : tm_Lo) (h : tm_H) (K : Option Value → tm_H → Prop) : tm_A d 100 20 ls [.int v] h K ↔ K (some (.int v)) h := tm_reti o100_20 rfl
theorem o101_0 : tm_op 101 0 = some (.aload_n 0, (0, 0, 0, 0)) := rfl
theorem r101_0 (d : Nat) (v : Nat) (l1 : Option Value) (st : List Value) (h : tm_H) (K : Option Value → tm_H → Prop) : tm_A d 101 0 [some (.ref v), l1] st h K ↔ tm_A d 101 1 [some (.ref v), l1] (.ref v :: st) h K := tm_s o101_0 rfl rfl rfl
theorem o101_1 : tm_op 101 1 = some (.iload_n 1, (0, 0, 0, 0)) := rfl
theorem r101_1 (d : Nat) (v : Int32) (l0 : Option Value) (st : List Value) (h : tm_H) (K : Option Value → tm_H → Prop) : tm_A d 101 1 [l0, some (.int v)] st h K ↔ tm_A d 101 2 [l0, some (.int v)] (.int v :: st) h K := tm_s o101_1 rfl rfl rfl
theorem o101_2 : tm_op 101 2 = some (.invokevirtual 148, (2, 110, 2, 9)) := rfl
theorem r101_2 (d : Nat) (v1 : Int32) (a : Nat) (ls : tm_Lo) (st : List Value) (h : tm_H) (K : Option Value → tm_H → Prop) : tm_A (d + 1) 101 2 ls (.int v1 :: .ref a :: st) h K ↔ (h.1.2.2 a = (0, 9) ∧ tm_cs st) ∧ tm_R d 110 [.ref a, .int v1] h (fun r h' => tm_A (d + 1) 101 5 ls (r.toList ++ st) h' K) := tm_callV (as := [.int v1]) o101_2 rfl rfl rfl rfl
theorem o101_5 : tm_op 101 5 = some (.ifCond .eq 13, (0, 0, 0, 0)) := rfl
theorem r101_5 (d : Nat) (x : Int32) (ls : tm_Lo) (st : List Value) (h : tm_H) (K : Option Value → tm_H → Prop) : tm_A d 101 5 ls (.int x :: st) h K ↔ if x = 0 then tm_A d 101 18 ls st h K else tm_A d 101 8 ls st h K := tm_b o101_5 rfl rfl rfl rfl
theorem o101_8 : tm_op 101 8 = some (.aload_n 0, (0, 0, 0, 0)) := rfl
theorem r101_8 (d : Nat) (v : Nat) (l1 : Option Value) (st : List Value) (h : tm_H) (K : Option Value → tm_H → Prop) : tm_A d 101 8 [some (.ref v), l1] st h K ↔ tm_A d 101 9 [some (.ref v), l1] (.ref v :: st) h K := tm_s o101_8 rfl rfl rfl
theorem o101_9 : tm_op 101 9 = some (.getfield 47, (2, 9, 5, 0)) := rfl
theorem r101_9 (d : Nat) (a : Nat) (ls : tm_Lo) (st : List Value) (G : tm_G) (I : Nat → Nat → Int32) (J : Nat → Nat → Int64) (R : Nat → Nat → Option Nat) (K : Option Value → tm_H → Prop) : tm_A d 101 9 ls (.ref a :: st) (G, I, J, R) K ↔ G.2.2 a = (0, 9) ∧ tm_A d 101 12 ls (tm_rf (R a 5) :: st) (G, I, J, R) K := tm_getR o101_9
theorem o101_12 : tm_op 101 12 = some (.invokevirtual 154, (2, 30, 1, 2)) := rfl
theorem r101_12 (d : Nat) (a : Nat) (ls : tm_Lo) (st : List Value) (h : tm_H) (K : Option Value → tm_H → Prop) : tm_A (d + 1) 101 12 ls (.ref a :: st) h K ↔ (h.1.2.2 a = (0, 2) ∧ tm_cs st) ∧ tm_R d 30 [.ref a] h (fun r h' => tm_A (d + 1) 101 15 ls (r.toList ++ st) h' K) := tm_callV (as := []) o101_12 rfl rfl rfl rfl
theorem o101_15 : tm_op 101 15 = some (.goto 6, (0, 0, 0, 0)) := rfl
theorem r101_15 (d : Nat) (ls : tm_Lo) (st : List Value) (h : tm_H) (K : Option Value → tm_H → Prop) : tm_A d 101 15 ls st h K ↔ tm_A d 101 21 ls st h K := tm_s o101_15 rfl rfl rfl
theorem o101_18 : tm_op 101 18 = some (.sipush (-10000), (0, 0, 0, 0)) := rfl
theorem r101_18 (d : Nat) (ls : tm_Lo) (st : List Value) (h : tm_H) (K : Option Value → tm_H → Prop) : tm_A d 101 18 ls st h K ↔ tm_A d 101 21 ls (.int (-10000 : Int32) :: st) h K := tm_sp o101_18 (by decide)
theorem o101_21 : tm_op 101 21 = some (.ireturn, (0, 0, 0, 0)) := rfl
theorem r101_21 (d : Nat) (v : Int32) (ls : tm_Lo) (h : tm_H) (K : Option Value → tm_H → Prop) : tm_A d 101 21 ls [.int v] h K ↔ K (some (.int v)) h := tm_reti o101_21 rfl
theorem o102_0 : tm_op 102 0 = some (.aload_n 0, (0, 0, 0, 0)) := rfl
theorem r102_0 (d : Nat) (v : Nat) (l1 : Option Value) (st : List Value) (h : tm_H) (K : Option Value → tm_H → Prop) : tm_A d 102 0 [some (.ref v), l1] st h K ↔ tm_A d 102 1 [some (.ref v), l1] (.ref v :: st) h K := tm_s o102_0 rfl rfl rfl
theorem o102_1 : tm_op 102 1 = some (.iload_n 1, (0, 0, 0, 0)) := rfl
theorem r102_1 (d : Nat) (v : Int32) (l0 : Option Value) (st : List Value) (h : tm_H) (K : Option Value → tm_H → Prop) : tm_A d 102 1 [l0, some (.int v)] st h K ↔ tm_A d 102 2 [l0, some (.int v)] (.int v :: st) h K := tm_s o102_1 rfl rfl rfl
theorem o102_2 : tm_op 102 2 = some (.invokevirtual 148, (2, 110, 2, 9)) := rfl
theorem r102_2 (d : Nat) (v1 : Int32) (a : Nat) (ls : tm_Lo) (st : List Value) (h : tm_H) (K : Option Value → tm_H → Prop) : tm_A (d + 1) 102 2 ls (.int v1 :: .ref a :: st) h K ↔ (h.1.2.2 a = (0, 9) ∧ tm_cs st) ∧ tm_R d 110 [.ref a, .int v1] h (fun r h' => tm_A (d + 1) 102 5 ls (r.toList ++ st) h' K) := tm_callV (as := [.int v1]) o102_2 rfl rfl rfl rfl
theorem o102_5 : tm_op 102 5 = some (.ifCond .eq 13, (0, 0, 0, 0)) := rfl
theorem r102_5 (d : Nat) (x : Int32) (ls : tm_Lo) (st : List Value) (h : tm_H) (K : Option Value → tm_H → Prop) : tm_A d 102 5 ls (.int x :: st) h K ↔ if x = 0 then tm_A d 102 18 ls st h K else tm_A d 102 8 ls st h K := tm_b o102_5 rfl rfl rfl rfl
theorem o102_8 : tm_op 102 8 = some (.aload_n 0, (0, 0, 0, 0)) := rfl
theorem r102_8 (d : Nat) (v : Nat) (l1 : Option Value) (st : List Value) (h : tm_H) (K : Option Value → tm_H → Prop) : tm_A d 102 8 [some (.ref v), l1] st h K ↔ tm_A d 102 9 [some (.ref v), l1] (.ref v :: st) h K := tm_s o102_8 rfl rfl rfl
theorem o102_9 : tm_op 102 9 = some (.getfield 47, (2, 9, 5, 0)) := rfl
theorem r102_9 (d : Nat) (a : Nat) (ls : tm_Lo) (st : List Value) (G : tm_G) (I : Nat → Nat → Int32) (J : Nat → Nat → Int64) (R : Nat → Nat → Option Nat) (K : Option Value → tm_H → Prop) : tm_A d 102 9 ls (.ref a :: st) (G, I, J, R) K ↔ G.2.2 a = (0, 9) ∧ tm_A d 102 12 ls (tm_rf (R a 5) :: st) (G, I, J, R) K := tm_getR o102_9
theorem o102_12 : tm_op 102 12 = some (.invokevirtual 157, (2, 32, 1, 2)) := rfl
theorem r102_12 (d : Nat) (a : Nat) (ls : tm_Lo) (st : List Value) (h : tm_H) (K : Option Value → tm_H → Prop) : tm_A (d + 1) 102 12 ls (.ref a :: st) h K ↔ (h.1.2.2 a = (0, 2) ∧ tm_cs st) ∧ tm_R d 32 [.ref a] h (fun r h' => tm_A (d + 1) 102 15 ls (r.toList ++ st) h' K) := tm_callV (as := []) o102_12 rfl rfl rfl rfl
theorem o102_15 : tm_op 102 15 = some (.goto 4, (0, 0, 0, 0)) := rfl
theorem r102_15 (d : Nat) (ls : tm_Lo) (st : List Value) (h : tm_H) (K : Option Value → tm_H → Prop) : tm_A d 102 15 ls st h K ↔ tm_A d 102 19 ls st h K := tm_s o102_15 rfl rfl rfl
theorem o102_18 : tm_op 102 18 = some (.iconst (-1), (0, 0, 0, 0)) := rfl
theorem r102_18 (d : Nat) (ls : tm_Lo) (st : List Value) (h : tm_H) (K : Option Value → tm_H → Prop) : tm_A d 102 18 ls st h K ↔ tm_A d 102 19 ls (.int (-1 : Int32) :: st) h K := tm_ic o102_18 (by decide)
theorem o102_19 : tm_op 102 19 = some (.ireturn, (0, 0, 0, 0)) := rfl
theorem r102_19 (d : Nat) (v : Int32) (ls : tm_Lo) (h : tm_H) (K : Option Value → tm_H → Prop) : tm_A d 102 19 ls [.int v] h K ↔ K (some (.int v)) h := tm_reti o102_19 rfl
theorem o103_0 : tm_op 103 0 = some (.aload_n 0, (0, 0, 0, 0)) := rfl
theorem r103_0 (d : Nat) (v : Nat) (l1 l2 l3 l4 : Option Value) (st : List Value) (h : tm_H) (K : Option Value → tm_H → Prop) : tm_A d 103 0 [some (.ref v), l1, l2, l3, l4] st h K ↔ tm_A d 103 1 [some (.ref v), l1, l2, l3, l4] (.ref v :: st) h K := tm_s o103_0 rfl rfl rfl
theorem o103_1 : tm_op 103 1 = some (.iload_n 3, (0, 0, 0, 0)) := rfl
theorem r103_1 (d : Nat) (v : Int32) (l0 l1 l2 l4 : Option Value) (st : List Value) (h : tm_H) (K : Option Value → tm_H → Prop) : tm_A d 103 1 [l0, l1, l2, some (.int v), l4] st h K ↔ tm_A d 103 2 [l0, l1, l2, some (.int v), l4] (.int v :: st) h K := tm_s o103_1 rfl rfl rfl
theorem o103_2 : tm_op 103 2 = some (.invokevirtual 148, (2, 110, 2, 9)) := rfl
theorem r103_2 (d : Nat) (v1 : Int32) (a : Nat) (ls : tm_Lo) (st : List Value) (h : tm_H) (K : Option Value → tm_H → Prop) : tm_A (d + 1) 103 2 ls (.int v1 :: .ref a :: st) h K ↔ (h.1.2.2 a = (0, 9) ∧ tm_cs st) ∧ tm_R d 110 [.ref a, .int v1] h (fun r h' => tm_A (d + 1) 103 5 ls (r.toList ++ st) h' K) := tm_callV (as := [.int v1]) o103_2 rfl rfl rfl rfl
theorem o103_5 : tm_op 103 5 = some (.ifCond .eq 14, (0, 0, 0, 0)) := rfl
theorem r103_5 (d : Nat) (x : Int32) (ls : tm_Lo) (st : List Value) (h : tm_H) (K : Option Value → tm_H → Prop) : tm_A d 103 5 ls (.int x :: st) h K ↔ if x = 0 then tm_A d 103 19 ls st h K else tm_A d 103 8 ls st h K := tm_b o103_5 rfl rfl rfl rfl
theorem o103_8 : tm_op 103 8 = some (.aload_n 0, (0, 0, 0, 0)) := rfl
theorem r103_8 (d : Nat) (v : Nat) (l1 l2 l3 l4 : Option Value) (st : List Value) (h : tm_H) (K : Option Value → tm_H → Prop) : tm_A d 103 8 [some (.ref v), l1, l2, l3, l4] st h K ↔ tm_A d 103 9 [some (.ref v), l1, l2, l3, l4] (.ref v :: st) h K := tm_s o103_8 rfl rfl rfl
theorem o103_9 : tm_op 103 9 = some (.getfield 47, (2, 9, 5, 0)) := rfl
theorem r103_9 (d : Nat) (a : Nat) (ls : tm_Lo) (st : List Value) (G : tm_G) (I : Nat → Nat → Int32) (J : Nat → Nat → Int64) (R : Nat → Nat → Option Nat) (K : Option Value → tm_H → Prop) : tm_A d 103 9 ls (.ref a :: st) (G, I, J, R) K ↔ G.2.2 a = (0, 9) ∧ tm_A d 103 12 ls (tm_rf (R a 5) :: st) (G, I, J, R) K := tm_getR o103_9
theorem o103_12 : tm_op 103 12 = some (.iload_n 1, (0, 0, 0, 0)) := rfl
theorem r103_12 (d : Nat) (v : Int32) (l0 l2 l3 l4 : Option Value) (st : List Value) (h : tm_H) (K : Option Value → tm_H → Prop) : tm_A d 103 12 [l0, some (.int v), l2, l3, l4] st h K ↔ tm_A d 103 13 [l0, some (.int v), l2, l3, l4] (.int v :: st) h K := tm_s o103_12 rfl rfl rfl
theorem o103_13 : tm_op 103 13 = some (.invokevirtual 151, (2, 31, 2, 2)) := rfl
theorem r103_13 (d : Nat) (v1 : Int32) (a : Nat) (ls : tm_Lo) (st : List Value) (h : tm_H) (K : Option Value → tm_H → Prop) : tm_A (d + 1) 103 13 ls (.int v1 :: .ref a :: st) h K ↔ (h.1.2.2 a = (0, 2) ∧ tm_cs st) ∧ tm_R d 31 [.ref a, .int v1] h (fun r h' => tm_A (d + 1) 103 16 ls (r.toList ++ st) h' K) := tm_callV (as := [.int v1]) o103_13 rfl rfl rfl rfl
theorem o103_16 : tm_op 103 16 = some (.goto 4, (0, 0, 0, 0)) := rfl
theorem r103_16 (d : Nat) (ls : tm_Lo) (st : List Value) (h : tm_H) (K : Option Value → tm_H → Prop) : tm_A d 103 16 ls st h K ↔ tm_A d 103 20 ls st h K := tm_s o103_16 rfl rfl rfl
theorem o103_19 : tm_op 103 19 = some (.iconst (-1), (0, 0, 0, 0)) := rfl
theorem r103_19 (d : Nat) (ls : tm_Lo) (st : List Value) (h : tm_H) (K : Option Value → tm_H → Prop) : tm_A d 103 19 ls st h K ↔ tm_A d 103 20 ls (.int (-1 : Int32) :: st) h K := tm_ic o103_19 (by decide)
theorem o103_20 : tm_op 103 20 = some (.istore 4, (0, 0, 0, 0)) := rfl
theorem r103_20 (d : Nat) (v : Int32) (l0 l1 l2 l3 l4 : Option Value) (st : List Value) (h : tm_H) (K : Option Value → tm_H → Prop) : tm_A d 103 20 [l0, l1, l2, l3, l4] (.int v :: st) h K ↔ tm_A d 103 22 [l0, l1, l2, l3, some (.int v)] st h K := tm_s o103_20 rfl rfl rfl
theorem o103_22 : tm_op 103 22 = some (.iload 4, (0, 0, 0, 0)) := rfl
theorem r103_22 (d : Nat) (v : Int32) (l0 l1 l2 l3 : Option Value) (st : List Value) (h : tm_H) (K : Option Value → tm_H → Prop) : tm_A d 103 22 [l0, l1, l2, l3, some (.int v)] st h K ↔ tm_A d 103 24 [l0, l1, l2, l3, some (.int v)] (.int v :: st) h K := tm_s o103_22 rfl rfl rfl
theorem o103_24 : tm_op 103 24 = some (.iconst (-1), (0, 0, 0, 0)) := rfl
theorem r103_24 (d : Nat) (ls : tm_Lo) (st : List Value) (h : tm_H) (K : Option Value → tm_H → Prop) : tm_A d 103 24 ls st h K ↔ tm_A d 103 25 ls (.int (-1 : Int32) :: st) h K := tm_ic o103_24 (by decide)
theorem o103_25 : tm_op 103 25 = some (.if_icmp .ne 5, (0, 0, 0, 0)) := rfl
theorem r103_25 (d : Nat) (y x : Int32) (ls : tm_Lo) (st : List Value) (h : tm_H) (K : Option Value → tm_H → Prop) : tm_A d 103 25 ls (.int y :: .int x :: st) h K ↔ if ¬ x = y then tm_A d 103 30 ls st h K else tm_A d 103 28 ls st h K := tm_b o103_25 rfl rfl rfl rfl
theorem o103_28 : tm_op 103 28 = some (.iconst (-1), (0, 0, 0, 0)) := rfl
theorem r103_28 (d : Nat) (ls : tm_Lo) (st : List Value) (h : tm_H) (K : Option Value → tm_H → Prop) : tm_A d 103 28 ls st h K ↔ tm_A d 103 29 ls (.int (-1 : Int32) :: st) h K := tm_ic o103_28 (by decide)
theorem o103_29 : tm_op 103 29 = some (.ireturn, (0, 0, 0, 0)) := rfl
theorem r103_29 (d : Nat) (v : Int32) (ls : tm_Lo) (h : tm_H) (K : Option Value → tm_H → Prop) : tm_A d 103 29 ls [.int v] h K ↔ K (some (.int v)) h := tm_reti o103_29 rfl
theorem o103_30 : tm_op 103 30 = some (.iload_n 2, (0, 0, 0, 0)) := rfl
theorem r103_30 (d : Nat) (v : Int32) (l0 l1 l3 l4 : Option Value) (st : List Value) (h : tm_H) (K : Option Value → tm_H → Prop) : tm_A d 103 30 [l0, l1, some (.int v), l3, l4] st h K ↔ tm_A d 103 31 [l0, l1, some (.int v), l3, l4] (.int v :: st) h K := tm_s o103_30 rfl rfl rfl
theorem o103_31 : tm_op 103 31 = some (.tableswitch 132 0 6 #[41, 49, 57, 78, 99, 107, 117], (41, 0, 0, 0)) := rfl
theorem r103_31 (d : Nat) (v : Int32) (ls : tm_Lo) (st : List Value) (h : tm_H) (K : Option Value → tm_H → Prop) : tm_A d 103 31 ls (.int v :: st) h K ↔ tm_A d 103 (tm_tsw (132) (0) (6) #[41, 49, 57, 78, 99, 107, 117] 31 v) ls st h K := tm_s o103_31 rfl rfl rfl
theorem o103_72 : tm_op 103 72 = some (.aload_n 0, (0, 0, 0, 0)) := rfl
theorem r103_72 (d : Nat) (v : Nat) (l1 l2 l3 l4 : Option Value) (st : List Value) (h : tm_H) (K : Option Value → tm_H → Prop) : tm_A d 103 72 [some (.ref v), l1, l2, l3, l4] st h K ↔ tm_A d 103 73 [some (.ref v), l1, l2, l3, l4] (.ref v :: st) h K := tm_s o103_72 rfl rfl rfl
theorem o103_73 : tm_op 103 73 = some (.iload 4, (0, 0, 0, 0)) := rfl
theorem r103_73 (d : Nat) (v : Int32) (l0 l1 l2 l3 : Option Value) (st : List Value) (h : tm_H) (K : Option Value → tm_H → Prop) : tm_A d 103 73 [l0, l1, l2, l3, some (.int v)] st h K ↔ tm_A d 103 75 [l0, l1, l2, l3, some (.int v)] (.int v :: st) h K := tm_s o103_73 rfl rfl rfl
theorem o103_75 : tm_op 103 75 = some (.iconst 0, (0, 0, 0, 0)) := rfl
theorem r103_75 (d : Nat) (ls : tm_Lo) (st : List Value) (h : tm_H) (K : Option Value → tm_H → Prop) : tm_A d 103 75 ls st h K ↔ tm_A d 103 76 ls (.int (0 : Int32) :: st) h K := tm_ic o103_75 (by decide)
theorem o103_76 : tm_op 103 76 = some (.invokevirtual 158, (2, 112, 3, 9)) := rfl
theorem r103_76 (d : Nat) (v1 : Int32) (v2 : Int32) (a : Nat) (ls : tm_Lo) (st : List Value) (h : tm_H) (K : Option Value → tm_H → Prop) : tm_A (d + 1) 103 76 ls (.int v2 :: .int v1 :: .ref a :: st) h K ↔ (h.1.2.2 a = (0, 9) ∧ tm_cs st) ∧ tm_R d 112 [.ref a, .int v1, .int v2] h (fun r h' => tm_A (d + 1) 103 79 ls (r.toList ++ st) h' K) := tm_callV (as := [.int v1, .int v2]) o103_76 rfl rfl rfl rfl
theorem o103_79 : tm_op 103 79 = some (.ireturn, (0, 0, 0, 0)) := rfl
theorem r103_79 (d : Nat) (v : Int32) (ls : tm_Lo) (h : tm_H) (K : Option Value → tm_H → Prop) : tm_A d 103 79 ls [.int v] h K ↔ K (some (.int v)) h := tm_reti o103_79 rfl
theorem o103_80 : tm_op 103 80 = some (.aload_n 0, (0, 0, 0, 0)) := rfl
theorem r103_80 (d : Nat) (v : Nat) (l1 l2 l3 l4 : Option Value) (st : List Value) (h : tm_H) (K : Option Value → tm_H → Prop) : tm_A d 103 80 [some (.ref v), l1, l2, l3, l4] st h K ↔ tm_A d 103 81 [some (.ref v), l1, l2, l3, l4] (.ref v :: st) h K := tm_s o103_80 rfl rfl rfl
theorem o103_81 : tm_op 103 81 = some (.iload 4, (0, 0, 0, 0)) := rfl
theorem r103_81 (d : Nat) (v : Int32) (l0 l1 l2 l3 : Option Value) (st : List Value) (h : tm_H) (K : Option Value → tm_H → Prop) : tm_A d 103 81 [l0, l1, l2, l3, some (.int v)] st h K ↔ tm_A d 103 83 [l0, l1, l2, l3, some (.int v)] (.int v :: st) h K := tm_s o103_81 rfl rfl rfl
theorem o103_83 : tm_op 103 83 = some (.iconst 1, (0, 0, 0, 0)) := rfl
theorem r103_83 (d : Nat) (ls : tm_Lo) (st : List Value) (h : tm_H) (K : Option Value → tm_H → Prop) : tm_A d 103 83 ls st h K ↔ tm_A d 103 84 ls (.int (1 : Int32) :: st) h K := tm_ic o103_83 (by decide)
theorem o103_84 : tm_op 103 84 = some (.invokevirtual 158, (2, 112, 3, 9)) := rfl
theorem r103_84 (d : Nat) (v1 : Int32) (v2 : Int32) (a : Nat) (ls : tm_Lo) (st : List Value) (h : tm_H) (K : Option Value → tm_H → Prop) : tm_A (d + 1) 103 84 ls (.int v2 :: .int v1 :: .ref a :: st) h K ↔ (h.1.2.2 a = (0, 9) ∧ tm_cs st) ∧ tm_R d 112 [.ref a, .int v1, .int v2] h (fun r h' => tm_A (d + 1) 103 87 ls (r.toList ++ st) h' K) := tm_callV (as := [.int v1, .int v2]) o103_84 rfl rfl rfl rfl
theorem o103_87 : tm_op 103 87 = some (.ireturn, (0, 0, 0, 0)) := rfl
theorem r103_87 (d : Nat) (v : Int32) (ls : tm_Lo) (h : tm_H) (K : Option Value → tm_H → Prop) : tm_A d 103 87 ls [.int v] h K ↔ K (some (.int v)) h := tm_reti o103_87 rfl
theorem o103_88 : tm_op 103 88 = some (.aload_n 0, (0, 0, 0, 0)) := rfl
theorem r103_88 (d : Nat) (v : Nat) (l1 l2 l3 l4 : Option Value) (st : List Value) (h : tm_H) (K : Option Value → tm_H → Prop) : tm_A d 103 88 [some (.ref v), l1, l2, l3, l4] st h K ↔ tm_A d 103 89 [some (.ref v), l1, l2, l3, l4] (.ref v :: st) h K := tm_s o103_88 rfl rfl rfl
theorem o103_89 : tm_op 103 89 = some (.iload 4, (0, 0, 0, 0)) := rfl
theorem r103_89 (d : Nat) (v : Int32) (l0 l1 l2 l3 : Option Value) (st : List Value) (h : tm_H) (K : Option Value → tm_H → Prop) : tm_A d 103 89 [l0, l1, l2, l3, some (.int v)] st h K ↔ tm_A d 103 91 [l0, l1, l2, l3, some (.int v)] (.int v :: st) h K := tm_s o103_89 rfl rfl rfl
theorem o103_91 : tm_op 103 91 = some (.invokevirtual 161, (2, 115, 2, 9)) := rfl
theorem r103_91 (d : Nat) (v1 : Int32) (a : Nat) (ls : tm_Lo) (st : List Value) (h : tm_H) (K : Option Value → tm_H → Prop) : tm_A (d + 1) 103 91 ls (.int v1 :: .ref a :: st) h K ↔ (h.1.2.2 a = (0, 9) ∧ tm_cs st) ∧ tm_R d 115 [.ref a, .int v1] h (fun r h' => tm_A (d + 1) 103 94 ls (r.toList ++ st) h' K) := tm_callV (as := [.int v1]) o103_91 rfl rfl rfl rfl
theorem o103_94 : tm_op 103 94 = some (.ifCond .eq 8, (0, 0, 0, 0)) := rfl
theorem r103_94 (d : Nat) (x : Int32) (ls : tm_Lo) (st : List Value) (h : tm_H) (K : Option Value → tm_H → Prop) : tm_A d 103 94 ls (.int x :: st) h K ↔ if x = 0 then tm_A d 103 102 ls st h K else tm_A d 103 97 ls st h K := tm_b o103_94 rfl rfl rfl rfl
theorem o103_97 : tm_op 103 97 = some (.bipush (-2), (0, 0, 0, 0)) := rfl
theorem r103_97 (d : Nat) (ls : tm_Lo) (st : List Value) (h : tm_H) (K : Option Value → tm_H → Prop) : tm_A d 103 97 ls st h K ↔ tm_A d 103 99 ls (.int (-2 : Int32) :: st) h K := tm_bp o103_97 (by decide)
theorem o103_99 : tm_op 103 99 = some (.goto 9, (0, 0, 0, 0)) := rfl
theorem r103_99 (d : Nat) (ls : tm_Lo) (st : List Value) (h : tm_H) (K : Option Value → tm_H → Prop) : tm_A d 103 99 ls st h K ↔ tm_A d 103 108 ls st h K := tm_s o103_99 rfl rfl rfl
theorem o103_102 : tm_op 103 102 = some (.aload_n 0, (0, 0, 0, 0)) := rfl
theorem r103_102 (d : Nat) (v : Nat) (l1 l2 l3 l4 : Option Value) (st : List Value) (h : tm_H) (K : Option Value → tm_H → Prop) : tm_A d 103 102 [some (.ref v), l1, l2, l3, l4] st h K ↔ tm_A d 103 103 [some (.ref v), l1, l2, l3, l4] (.ref v :: st) h K := tm_s o103_102 rfl rfl rfl
theorem o103_103 : tm_op 103 103 = some (.iload 4, (0, 0, 0, 0)) := rfl
theorem r103_103 (d : Nat) (v : Int32) (l0 l1 l2 l3 : Option Value) (st : List Value) (h : tm_H) (K : Option Value → tm_H → Prop) : tm_A d 103 103 [l0, l1, l2, l3, some (.int v)] st h K ↔ tm_A d 103 105 [l0, l1, l2, l3, some (.int v)] (.int v :: st) h K := tm_s o103_103 rfl rfl rfl
theorem o103_105 : tm_op 103 105 = some (.invokevirtual 164, (2, 113, 2, 9)) := rfl
theorem r103_105 (d : Nat) (v1 : Int32) (a : Nat) (ls : tm_Lo) (st : List Value) (h : tm_H) (K : Option Value → tm_H → Prop) : tm_A (d + 1) 103 105 ls (.int v1 :: .ref a :: st) h K ↔ (h.1.2.2 a = (0, 9) ∧ tm_cs st) ∧ tm_R d 113 [.ref a, .int v1] h (fun r h' => tm_A (d + 1) 103 108 ls (r.toList ++ st) h' K) := tm_callV (as := [.int v1]) o103_105 rfl rfl rfl rfl
theorem o103_108 : tm_op 103 108 = some (.ireturn, (0, 0, 0, 0)) := rfl
theorem r103_108 (d : Nat) (v : Int32) (ls : tm_Lo) (h : tm_H) (K : Option Value → tm_H → Prop) : tm_A d 103 108 ls [.int v] h K ↔ K (some (.int v)) h := tm_reti o103_108 rfl
theorem o103_109 : tm_op 103 109 = some (.aload_n 0, (0, 0, 0, 0)) := rfl
theorem r103_109 (d : Nat) (v : Nat) (l1 l2 l3 l4 : Option Value) (st : List Value) (h : tm_H) (K : Option Value → tm_H → Prop) : tm_A d 103 109 [some (.ref v), l1, l2, l3, l4] st h K ↔ tm_A d 103 110 [some (.ref v), l1, l2, l3, l4] (.ref v :: st) h K := tm_s o103_109 rfl rfl rfl
theorem o103_110 : tm_op 103 110 = some (.iload 4, (0, 0, 0, 0)) := rfl
theorem r103_110 (d : Nat) (v : Int32) (l0 l1 l2 l3 : Option Value) (st : List Value) (h : tm_H) (K : Option Value → tm_H → Prop) : tm_A d 103 110 [l0, l1, l2, l3, some (.int v)] st h K ↔ tm_A d 103 112 [l0, l1, l2, l3, some (.int v)] (.int v :: st) h K := tm_s o103_110 rfl rfl rfl
theorem o103_112 : tm_op 103 112 = some (.invokevirtual 161, (2, 115, 2, 9)) := rfl
theorem r103_112 (d : Nat) (v1 : Int32) (a : Nat) (ls : tm_Lo) (st : List Value) (h : tm_H) (K : Option Value → tm_H → Prop) : tm_A (d + 1) 103 112 ls (.int v1 :: .ref a :: st) h K ↔ (h.1.2.2 a = (0, 9) ∧ tm_cs st) ∧ tm_R d 115 [.ref a, .int v1] h (fun r h' => tm_A (d + 1) 103 115 ls (r.toList ++ st) h' K) := tm_callV (as := [.int v1]) o103_112 rfl rfl rfl rfl
theorem o103_115 : tm_op 103 115 = some (.ifCond .eq 8, (0, 0, 0, 0)) := rfl
theorem r103_115 (d : Nat) (x : Int32) (ls : tm_Lo) (st : List Value) (h : tm_H) (K : Option Value → tm_H → Prop) : tm_A d 103 115 ls (.int x :: st) h K ↔ if x = 0 then tm_A d 103 123 ls st h K else tm_A d 103 118 ls st h K := tm_b o103_115 rfl rfl rfl rfl
theorem o103_118 : tm_op 103 118 = some (.bipush (-2), (0, 0, 0, 0)) := rfl
theorem r103_118 (d : Nat) (ls : tm_Lo) (st : List Value) (h : tm_H) (K : Option Value → tm_H → Prop) : tm_A d 103 118 ls st h K ↔ tm_A d 103 120 ls (.int (-2 : Int32) :: st) h K := tm_bp o103_118 (by decide)
theorem o103_120 : tm_op 103 120 = some (.goto 9, (0, 0, 0, 0)) := rfl
theorem r103_120 (d : Nat) (ls : tm_Lo) (st : List Value) (h : tm_H) (K : Option Value → tm_H → Prop) : tm_A d 103 120 ls st h K ↔ tm_A d 103 129 ls st h K := tm_s o103_120 rfl rfl rfl
theorem o103_123 : tm_op 103 123 = some (.aload_n 0, (0, 0, 0, 0)) := rfl
theorem r103_123 (d : Nat) (v : Nat) (l1 l2 l3 l4 : Option Value) (st : List Value) (h : tm_H) (K : Option Value → tm_H → Prop) : tm_A d 103 123 [some (.ref v), l1, l2, l3, l4] st h K ↔ tm_A d 103 124 [some (.ref v), l1, l2, l3, l4] (.ref v :: st) h K := tm_s o103_123 rfl rfl rfl
theorem o103_124 : tm_op 103 124 = some (.iload 4, (0, 0, 0, 0)) := rfl
theorem r103_124 (d : Nat) (v : Int32) (l0 l1 l2 l3 : Option Value) (st : List Value) (h : tm_H) (K : Option Value → tm_H → Prop) : tm_A d 103 124 [l0, l1, l2, l3, some (.int v)] st h K ↔ tm_A d 103 126 [l0, l1, l2, l3, some (.int v)] (.int v :: st) h K := tm_s o103_124 rfl rfl rfl
theorem o103_126 : tm_op 103 126 = some (.invokevirtual 167, (2, 114, 2, 9)) := rfl
theorem r103_126 (d : Nat) (v1 : Int32) (a : Nat) (ls : tm_Lo) (st : List Value) (h : tm_H) (K : Option Value → tm_H → Prop) : tm_A (d + 1) 103 126 ls (.int v1 :: .ref a :: st) h K ↔ (h.1.2.2 a = (0, 9) ∧ tm_cs st) ∧ tm_R d 114 [.ref a, .int v1] h (fun r h' => tm_A (d + 1) 103 129 ls (r.toList ++ st) h' K) := tm_callV (as := [.int v1]) o103_126 rfl rfl rfl rfl
theorem o103_129 : tm_op 103 129 = some (.ireturn, (0, 0, 0, 0)) := rfl
theorem r103_129 (d : Nat) (v : Int32) (ls : tm_Lo) (h : tm_H) (K : Option Value → tm_H → Prop) : tm_A d 103 129 ls [.int v] h K ↔ K (some (.int v)) h := tm_reti o103_129 rfl
theorem o103_130 : tm_op 103 130 = some (.aload_n 0, (0, 0, 0, 0)) := rfl
theorem r103_130 (d : Nat) (v : Nat) (l1 l2 l3 l4 : Option Value) (st : List Value) (h : tm_H) (K : Option Value → tm_H → Prop) : tm_A d 103 130 [some (.ref v), l1, l2, l3, l4] st h K ↔ tm_A d 103 131 [some (.ref v), l1, l2, l3, l4] (.ref v :: st) h K := tm_s o103_130 rfl rfl rfl
theorem o103_131 : tm_op 103 131 = some (.iload 4, (0, 0, 0, 0)) := rfl
theorem r103_131 (d : Nat) (v : Int32) (l0 l1 l2 l3 : Option Value) (st : List Value) (h : tm_H) (K : Option Value → tm_H → Prop) : tm_A d 103 131 [l0, l1, l2, l3, some (.int v)] st h K ↔ tm_A d 103 133 [l0, l1, l2, l3, some (.int v)] (.int v :: st) h K := tm_s o103_131 rfl rfl rfl
theorem o103_133 : tm_op 103 133 = some (.iconst 4, (0, 0, 0, 0)) := rfl
theorem r103_133 (d : Nat) (ls : tm_Lo) (st : List Value) (h : tm_H) (K : Option Value → tm_H → Prop) : tm_A d 103 133 ls st h K ↔ tm_A d 103 134 ls (.int (4 : Int32) :: st) h K := tm_ic o103_133 (by decide)
theorem o103_134 : tm_op 103 134 = some (.invokevirtual 158, (2, 112, 3, 9)) := rfl
theorem r103_134 (d : Nat) (v1 : Int32) (v2 : Int32) (a : Nat) (ls : tm_Lo) (st : List Value) (h : tm_H) (K : Option Value → tm_H → Prop) : tm_A (d + 1) 103 134 ls (.int v2 :: .int v1 :: .ref a :: st) h K ↔ (h.1.2.2 a = (0, 9) ∧ tm_cs st) ∧ tm_R d 112 [.ref a, .int v1, .int v2] h (fun r h' => tm_A (d + 1) 103 137 ls (r.toList ++ st) h' K) := tm_callV (as := [.int v1, .int v2]) o103_134 rfl rfl rfl rfl
theorem o103_137 : tm_op 103 137 = some (.ireturn, (0, 0, 0, 0)) := rfl
theorem r103_137 (d : Nat) (v : Int32) (ls : tm_Lo) (h : tm_H) (K : Option Value → tm_H → Prop) : tm_A d 103 137 ls [.int v] h K ↔ K (some (.int v)) h := tm_reti o103_137 rfl
theorem o103_138 : tm_op 103 138 = some (.aload_n 0, (0, 0, 0, 0)) := rfl
theorem r103_138 (d : Nat) (v : Nat) (l1 l2 l3 l4 : Option Value) (st : List Value) (h : tm_H) (K : Option Value → tm_H → Prop) : tm_A d 103 138 [some (.ref v), l1, l2, l3, l4] st h K ↔ tm_A d 103 139 [some (.ref v), l1, l2, l3, l4] (.ref v :: st) h K := tm_s o103_138 rfl rfl rfl
theorem o103_139 : tm_op 103 139 = some (.getfield 47, (2, 9, 5, 0)) := rfl
theorem r103_139 (d : Nat) (a : Nat) (ls : tm_Lo) (st : List Value) (G : tm_G) (I : Nat → Nat → Int32) (J : Nat → Nat → Int64) (R : Nat → Nat → Option Nat) (K : Option Value → tm_H → Prop) : tm_A d 103 139 ls (.ref a :: st) (G, I, J, R) K ↔ G.2.2 a = (0, 9) ∧ tm_A d 103 142 ls (tm_rf (R a 5) :: st) (G, I, J, R) K := tm_getR o103_139
theorem o103_142 : tm_op 103 142 = some (.iload 4, (0, 0, 0, 0)) := rfl
theorem r103_142 (d : Nat) (v : Int32) (l0 l1 l2 l3 : Option Value) (st : List Value) (h : tm_H) (K : Option Value → tm_H → Prop) : tm_A d 103 142 [l0, l1, l2, l3, some (.int v)] st h K ↔ tm_A d 103 144 [l0, l1, l2, l3, some (.int v)] (.int v :: st) h K := tm_s o103_142 rfl rfl rfl
theorem o103_144 : tm_op 103 144 = some (.invokevirtual 170, (2, 33, 2, 2)) := rfl
theorem r103_144 (d : Nat) (v1 : Int32) (a : Nat) (ls : tm_Lo) (st : List Value) (h : tm_H) (K : Option Value → tm_H → Prop) : tm_A (d + 1) 103 144 ls (.int v1 :: .ref a :: st) h K ↔ (h.1.2.2 a = (0, 2) ∧ tm_cs st) ∧ tm_R d 33 [.ref a, .int v1] h (fun r h' => tm_A (d + 1) 103 147 ls (r.toList ++ st) h' K) := tm_callV (as := [.int v1]) o103_144 rfl rfl rfl rfl
theorem o103_147 : tm_op 103 147 = some (.ireturn, (0, 0, 0, 0)) := rfl
theorem r103_147 (d : Nat) (v : Int32) (ls : tm_Lo) (h : tm_H) (K : Option Value → tm_H → Prop) : tm_A d 103 147 ls [.int v] h K ↔ K (some (.int v)) h := tm_reti o103_147 rfl
theorem o103_148 : tm_op 103 148 = some (.aload_n 0, (0, 0, 0, 0)) := rfl
theorem r103_148 (d : Nat) (v : Nat) (l1 l2 l3 l4 : Option Value) (st : List Value) (h : tm_H) (K : Option Value → tm_H → Prop) : tm_A d 103 148 [some (.ref v), l1, l2, l3, l4] st h K ↔ tm_A d 103 149 [some (.ref v), l1, l2, l3, l4] (.ref v :: st) h K := tm_s o103_148 rfl rfl rfl
theorem o103_149 : tm_op 103 149 = some (.iload 4, (0, 0, 0, 0)) := rfl
theorem r103_149 (d : Nat) (v : Int32) (l0 l1 l2 l3 : Option Value) (st : List Value) (h : tm_H) (K : Option Value → tm_H → Prop) : tm_A d 103 149 [l0, l1, l2, l3, some (.int v)] st h K ↔ tm_A d 103 151 [l0, l1, l2, l3, some (.int v)] (.int v :: st) h K := tm_s o103_149 rfl rfl rfl
theorem o103_151 : tm_op 103 151 = some (.invokevirtual 161, (2, 115, 2, 9)) := rfl
theorem r103_151 (d : Nat) (v1 : Int32) (a : Nat) (ls : tm_Lo) (st : List Value) (h : tm_H) (K : Option Value → tm_H → Prop) : tm_A (d + 1) 103 151 ls (.int v1 :: .ref a :: st) h K ↔ (h.1.2.2 a = (0, 9) ∧ tm_cs st) ∧ tm_R d 115 [.ref a, .int v1] h (fun r h' => tm_A (d + 1) 103 154 ls (r.toList ++ st) h' K) := tm_callV (as := [.int v1]) o103_151 rfl rfl rfl rfl
theorem o103_154 : tm_op 103 154 = some (.ifCond .eq 7, (0, 0, 0, 0)) := rfl
theorem r103_154 (d : Nat) (x : Int32) (ls : tm_Lo) (st : List Value) (h : tm_H) (K : Option Value → tm_H → Prop) : tm_A d 103 154 ls (.int x :: st) h K ↔ if x = 0 then tm_A d 103 161 ls st h K else tm_A d 103 157 ls st h K := tm_b o103_154 rfl rfl rfl rfl
theorem o103_157 : tm_op 103 157 = some (.iconst 1, (0, 0, 0, 0)) := rfl
theorem r103_157 (d : Nat) (ls : tm_Lo) (st : List Value) (h : tm_H) (K : Option Value → tm_H → Prop) : tm_A d 103 157 ls st h K ↔ tm_A d 103 158 ls (.int (1 : Int32) :: st) h K := tm_ic o103_157 (by decide)
theorem o103_158 : tm_op 103 158 = some (.goto 4, (0, 0, 0, 0)) := rfl
theorem r103_158 (d : Nat) (ls : tm_Lo) (st : List Value) (h : tm_H) (K : Option Value → tm_H → Prop) : tm_A d 103 158 ls st h K ↔ tm_A d 103 162 ls st h K := tm_s o103_158 rfl rfl rfl
theorem o103_161 : tm_op 103 161 = some (.iconst 0, (0, 0, 0, 0)) := rfl
theorem r103_161 (d : Nat) (ls : tm_Lo) (st : List Value) (h : tm_H) (K : Option Value → tm_H → Prop) : tm_A d 103 161 ls st h K ↔ tm_A d 103 162 ls (.int (0 : Int32) :: st) h K := tm_ic o103_161 (by decide)
theorem o103_162 : tm_op 103 162 = some (.ireturn, (0, 0, 0, 0)) := rfl
theorem r103_162 (d : Nat) (v : Int32) (ls : tm_Lo) (h : tm_H) (K : Option Value → tm_H → Prop) : tm_A d 103 162 ls [.int v] h K ↔ K (some (.int v)) h := tm_reti o103_162 rfl
theorem o103_163 : tm_op 103 163 = some (.iconst (-1), (0, 0, 0, 0)) := rfl
theorem r103_163 (d : Nat) (ls : tm_Lo) (st : List Value) (h : tm_H) (K : Option Value → tm_H → Prop) : tm_A d 103 163 ls st h K ↔ tm_A d 103 164 ls (.int (-1 : Int32) :: st) h K := tm_ic o103_163 (by decide)
theorem o103_164 : tm_op 103 164 = some (.ireturn, (0, 0, 0, 0)) := rfl
theorem r103_164 (d : Nat) (v : Int32) (ls : tm_Lo) (h : tm_H) (K : Option Value → tm_H → Prop) : tm_A d 103 164 ls [.int v] h K ↔ K (some (.int v)) h := tm_reti o103_164 rfl
theorem o104_0 : tm_op 104 0 = some (.iload_n 1, (0, 0, 0, 0)) := rfl
theorem r104_0 (d : Nat) (v : Int32) (l0 l2 l3 l4 : Option Value) (st : List Value) (h : tm_H) (K : Option Value → tm_H → Prop) : tm_A d 104 0 [l0, some (.int v), l2, l3, l4] st h K ↔ tm_A d 104 1 [l0, some (.int v), l2, l3, l4] (.int v :: st) h K := tm_s o104_0 rfl rfl rfl
theorem o104_1 : tm_op 104 1 = some (.ifCond .lt 17, (0, 0, 0, 0)) := rfl
theorem r104_1 (d : Nat) (x : Int32) (ls : tm_Lo) (st : List Value) (h : tm_H) (K : Option Value → tm_H → Prop) : tm_A d 104 1 ls (.int x :: st) h K ↔ if x < 0 then tm_A d 104 18 ls st h K else tm_A d 104 4 ls st h K := tm_b o104_1 rfl rfl rfl rfl
theorem o104_4 : tm_op 104 4 = some (.iload_n 1, (0, 0, 0, 0)) := rfl
theorem r104_4 (d : Nat) (v : Int32) (l0 l2 l3 l4 : Option Value) (st : List Value) (h : tm_H) (K : Option Value → tm_H → Prop) : tm_A d 104 4 [l0, some (.int v), l2, l3, l4] st h K ↔ tm_A d 104 5 [l0, some (.int v), l2, l3, l4] (.int v :: st) h K := tm_s o104_4 rfl rfl rfl
theorem o104_5 : tm_op 104 5 = some (.bipush 99, (0, 0, 0, 0)) := rfl
theorem r104_5 (d : Nat) (ls : tm_Lo) (st : List Value) (h : tm_H) (K : Option Value → tm_H → Prop) : tm_A d 104 5 ls st h K ↔ tm_A d 104 7 ls (.int (99 : Int32) :: st) h K := tm_bp o104_5 (by decide)
theorem o104_7 : tm_op 104 7 = some (.if_icmp .gt 11, (0, 0, 0, 0)) := rfl
theorem r104_7 (d : Nat) (y x : Int32) (ls : tm_Lo) (st : List Value) (h : tm_H) (K : Option Value → tm_H → Prop) : tm_A d 104 7 ls (.int y :: .int x :: st) h K ↔ if y < x then tm_A d 104 18 ls st h K else tm_A d 104 10 ls st h K := tm_b o104_7 rfl rfl rfl rfl
theorem o104_10 : tm_op 104 10 = some (.aload_n 0, (0, 0, 0, 0)) := rfl
theorem r104_10 (d : Nat) (v : Nat) (l1 l2 l3 l4 : Option Value) (st : List Value) (h : tm_H) (K : Option Value → tm_H → Prop) : tm_A d 104 10 [some (.ref v), l1, l2, l3, l4] st h K ↔ tm_A d 104 11 [some (.ref v), l1, l2, l3, l4] (.ref v :: st) h K := tm_s o104_10 rfl rfl rfl
theorem o104_11 : tm_op 104 11 = some (.iload_n 2, (0, 0, 0, 0)) := rfl
theorem r104_11 (d : Nat) (v : Int32) (l0 l1 l3 l4 : Option Value) (st : List Value) (h : tm_H) (K : Option Value → tm_H → Prop) : tm_A d 104 11 [l0, l1, some (.int v), l3, l4] st h K ↔ tm_A d 104 12 [l0, l1, some (.int v), l3, l4] (.int v :: st) h K := tm_s o104_11 rfl rfl rfl
theorem o104_12 : tm_op 104 12 = some (.invokevirtual 148, (2, 110, 2, 9)) := rfl
theorem r104_12 (d : Nat) (v1 : Int32) (a : Nat) (ls : tm_Lo) (st : List Value) (h : tm_H) (K : Option Value → tm_H → Prop) : tm_A (d + 1) 104 12 ls (.int v1 :: .ref a :: st) h K ↔ (h.1.2.2 a = (0, 9) ∧ tm_cs st) ∧ tm_R d 110 [.ref a, .int v1] h (fun r h' => tm_A (d + 1) 104 15 ls (r.toList ++ st) h' K) := tm_callV (as := [.int v1]) o104_12 rfl rfl rfl rfl
theorem o104_15 : tm_op 104 15 = some (.ifCond .ne 5, (0, 0, 0, 0)) := rfl
theorem r104_15 (d : Nat) (x : Int32) (ls : tm_Lo) (st : List Value) (h : tm_H) (K : Option Value → tm_H → Prop) : tm_A d 104 15 ls (.int x :: st) h K ↔ if ¬ x = 0 then tm_A d 104 20 ls st h K else tm_A d 104 18 ls st h K := tm_b o104_15 rfl rfl rfl rfl
theorem o104_18 : tm_op 104 18 = some (.iconst (-1), (0, 0, 0, 0)) := rfl
theorem r104_18 (d : Nat) (ls : tm_Lo) (st : List Value) (h : tm_H) (K : Option Value → tm_H → Prop) : tm_A d 104 18 ls st h K ↔ tm_A d 104 19 ls (.int (-1 : Int32) :: st) h K := tm_ic o104_18 (by decide)
theorem o104_19 : tm_op 104 19 = some (.ireturn, (0, 0, 0, 0)) := rfl
theorem r104_19 (d : Nat) (v : Int32) (ls : tm_Lo) (h : tm_H) (K : Option Value → tm_H → Prop) : tm_A d 104 19 ls [.int v] h K ↔ K (some (.int v)) h := tm_reti o104_19 rfl
theorem o104_20 : tm_op 104 20 = some (.iconst 0, (0, 0, 0, 0)) := rfl
theorem r104_20 (d : Nat) (ls : tm_Lo) (st : List Value) (h : tm_H) (K : Option Value → tm_H → Prop) : tm_A d 104 20 ls st h K ↔ tm_A d 104 21 ls (.int (0 : Int32) :: st) h K := tm_ic o104_20 (by decide)
theorem o104_21 : tm_op 104 21 = some (.istore_n 3, (0, 0, 0, 0)) := rfl
theorem r104_21 (d : Nat) (v : Int32) (l0 l1 l2 l3 l4 : Option Value) (st : List Value) (h : tm_H) (K : Option Value → tm_H → Prop) : tm_A d 104 21 [l0, l1, l2, l3, l4] (.int v :: st) h K ↔ tm_A d 104 22 [l0, l1, l2, some (.int v), l4] st h K := tm_s o104_21 rfl rfl rfl
theorem o104_22 : tm_op 104 22 = some (.iconst 0, (0, 0, 0, 0)) := rfl
theorem r104_22 (d : Nat) (ls : tm_Lo) (st : List Value) (h : tm_H) (K : Option Value → tm_H → Prop) : tm_A d 104 22 ls st h K ↔ tm_A d 104 23 ls (.int (0 : Int32) :: st) h K := tm_ic o104_22 (by decide)
theorem o104_23 : tm_op 104 23 = some (.istore 4, (0, 0, 0, 0)) := rfl
theorem r104_23 (d : Nat) (v : Int32) (l0 l1 l2 l3 l4 : Option Value) (st : List Value) (h : tm_H) (K : Option Value → tm_H → Prop) : tm_A d 104 23 [l0, l1, l2, l3, l4] (.int v :: st) h K ↔ tm_A d 104 25 [l0, l1, l2, l3, some (.int v)] st h K := tm_s o104_23 rfl rfl rfl
theorem o104_25 : tm_op 104 25 = some (.iload 4, (0, 0, 0, 0)) := rfl
theorem r104_25 (d : Nat) (v : Int32) (l0 l1 l2 l3 : Option Value) (st : List Value) (h : tm_H) (K : Option Value → tm_H → Prop) : tm_A d 104 25 [l0, l1, l2, l3, some (.int v)] st h K ↔ tm_A d 104 27 [l0, l1, l2, l3, some (.int v)] (.int v :: st) h K := tm_s o104_25 rfl rfl rfl
theorem o104_27 : tm_op 104 27 = some (.aload_n 0, (0, 0, 0, 0)) := rfl
theorem r104_27 (d : Nat) (v : Nat) (l1 l2 l3 l4 : Option Value) (st : List Value) (h : tm_H) (K : Option Value → tm_H → Prop) : tm_A d 104 27 [some (.ref v), l1, l2, l3, l4] st h K ↔ tm_A d 104 28 [some (.ref v), l1, l2, l3, l4] (.ref v :: st) h K := tm_s o104_27 rfl rfl rfl
theorem o104_28 : tm_op 104 28 = some (.getfield 26, (2, 9, 2, 0)) := rfl
theorem r104_28 (d : Nat) (a : Nat) (ls : tm_Lo) (st : List Value) (G : tm_G) (I : Nat → Nat → Int32) (J : Nat → Nat → Int64) (R : Nat → Nat → Option Nat) (K : Option Value → tm_H → Prop) : tm_A d 104 28 ls (.ref a :: st) (G, I, J, R) K ↔ G.2.2 a = (0, 9) ∧ tm_A d 104 31 ls (tm_rf (R a 2) :: st) (G, I, J, R) K := tm_getR o104_28
theorem o104_31 : tm_op 104 31 = some (.invokevirtual 173, (2, 42, 1, 4)) := rfl
theorem r104_31 (d : Nat) (a : Nat) (ls : tm_Lo) (st : List Value) (h : tm_H) (K : Option Value → tm_H → Prop) : tm_A (d + 1) 104 31 ls (.ref a :: st) h K ↔ (h.1.2.2 a = (0, 4) ∧ tm_cs st) ∧ tm_R d 42 [.ref a] h (fun r h' => tm_A (d + 1) 104 34 ls (r.toList ++ st) h' K) := tm_callV (as := []) o104_31 rfl rfl rfl rfl
theorem o104_34 : tm_op 104 34 = some (.if_icmp .ge 37, (0, 0, 0, 0)) := rfl
theorem r104_34 (d : Nat) (y x : Int32) (ls : tm_Lo) (st : List Value) (h : tm_H) (K : Option Value → tm_H → Prop) : tm_A d 104 34 ls (.int y :: .int x :: st) h K ↔ if y ≤ x then tm_A d 104 71 ls st h K else tm_A d 104 37 ls st h K := tm_b o104_34 rfl rfl rfl rfl
theorem o104_37 : tm_op 104 37 = some (.aload_n 0, (0, 0, 0, 0)) := rfl
theorem r104_37 (d : Nat) (v : Nat) (l1 l2 l3 l4 : Option Value) (st : List Value) (h : tm_H) (K : Option Value → tm_H → Prop) : tm_A d 104 37 [some (.ref v), l1, l2, l3, l4] st h K ↔ tm_A d 104 38 [some (.ref v), l1, l2, l3, l4] (.ref v :: st) h K := tm_s o104_37 rfl rfl rfl
theorem o104_38 : tm_op 104 38 = some (.getfield 47, (2, 9, 5, 0)) := rfl
theorem r104_38 (d : Nat) (a : Nat) (ls : tm_Lo) (st : List Value) (G : tm_G) (I : Nat → Nat → Int32) (J : Nat → Nat → Int64) (R : Nat → Nat → Option Nat) (K : Option Value → tm_H → Prop) : tm_A d 104 38 ls (.ref a :: st) (G, I, J, R) K ↔ G.2.2 a = (0, 9) ∧ tm_A d 104 41 ls (tm_rf (R a 5) :: st) (G, I, J, R) K := tm_getR o104_38
theorem o104_41 : tm_op 104 41 = some (.iload 4, (0, 0, 0, 0)) := rfl
theorem r104_41 (d : Nat) (v : Int32) (l0 l1 l2 l3 : Option Value) (st : List Value) (h : tm_H) (K : Option Value → tm_H → Prop) : tm_A d 104 41 [l0, l1, l2, l3, some (.int v)] st h K ↔ tm_A d 104 43 [l0, l1, l2, l3, some (.int v)] (.int v :: st) h K := tm_s o104_41 rfl rfl rfl
theorem o104_43 : tm_op 104 43 = some (.invokevirtual 151, (2, 31, 2, 2)) := rfl
theorem r104_43 (d : Nat) (v1 : Int32) (a : Nat) (ls : tm_Lo) (st : List Value) (h : tm_H) (K : Option Value → tm_H → Prop) : tm_A (d + 1) 104 43 ls (.int v1 :: .ref a :: st) h K ↔ (h.1.2.2 a = (0, 2) ∧ tm_cs st) ∧ tm_R d 31 [.ref a, .int v1] h (fun r h' => tm_A (d + 1) 104 46 ls (r.toList ++ st) h' K) := tm_callV (as := [.int v1]) o104_43 rfl rfl rfl rfl
theorem o104_46 : tm_op 104 46 = some (.iload 4, (0, 0, 0, 0)) := rfl
theorem r104_46 (d : Nat) (v : Int32) (l0 l1 l2 l3 : Option Value) (st : List Value) (h : tm_H) (K : Option Value → tm_H → Prop) : tm_A d 104 46 [l0, l1, l2, l3, some (.int v)] st h K ↔ tm_A d 104 48 [l0, l1, l2, l3, some (.int v)] (.int v :: st) h K := tm_s o104_46 rfl rfl rfl
theorem o104_48 : tm_op 104 48 = some (.if_icmp .ne 17, (0, 0, 0, 0)) := rfl
theorem r104_48 (d : Nat) (y x : Int32) (ls : tm_Lo) (st : List Value) (h : tm_H) (K : Option Value → tm_H → Prop) : tm_A d 104 48 ls (.int y :: .int x :: st) h K ↔ if ¬ x = y then tm_A d 104 65 ls st h K else tm_A d 104 51 ls st h K := tm_b o104_48 rfl rfl rfl rfl
theorem o104_51 : tm_op 104 51 = some (.aload_n 0, (0, 0, 0, 0)) := rfl
theorem r104_51 (d : Nat) (v : Nat) (l1 l2 l3 l4 : Option Value) (st : List Value) (h : tm_H) (K : Option Value → tm_H → Prop) : tm_A d 104 51 [some (.ref v), l1, l2, l3, l4] st h K ↔ tm_A d 104 52 [some (.ref v), l1, l2, l3, l4] (.ref v :: st) h K := tm_s o104_51 rfl rfl rfl
theorem o104_52 : tm_op 104 52 = some (.iload 4, (0, 0, 0, 0)) := rfl
theorem r104_52 (d : Nat) (v : Int32) (l0 l1 l2 l3 : Option Value) (st : List Value) (h : tm_H) (K : Option Value → tm_H → Prop) : tm_A d 104 52 [l0, l1, l2, l3, some (.int v)] st h K ↔ tm_A d 104 54 [l0, l1, l2, l3, some (.int v)] (.int v :: st) h K := tm_s o104_52 rfl rfl rfl
theorem o104_54 : tm_op 104 54 = some (.iconst 0, (0, 0, 0, 0)) := rfl
theorem r104_54 (d : Nat) (ls : tm_Lo) (st : List Value) (h : tm_H) (K : Option Value → tm_H → Prop) : tm_A d 104 54 ls st h K ↔ tm_A d 104 55 ls (.int (0 : Int32) :: st) h K := tm_ic o104_54 (by decide)
theorem o104_55 : tm_op 104 55 = some (.invokevirtual 158, (2, 112, 3, 9)) := rfl
theorem r104_55 (d : Nat) (v1 : Int32) (v2 : Int32) (a : Nat) (ls : tm_Lo) (st : List Value) (h : tm_H) (K : Option Value → tm_H → Prop) : tm_A (d + 1) 104 55 ls (.int v2 :: .int v1 :: .ref a :: st) h K ↔ (h.1.2.2 a = (0, 9) ∧ tm_cs st) ∧ tm_R d 112 [.ref a, .int v1, .int v2] h (fun r h' => tm_A (d + 1) 104 58 ls (r.toList ++ st) h' K) := tm_callV (as := [.int v1, .int v2]) o104_55 rfl rfl rfl rfl
theorem o104_58 : tm_op 104 58 = some (.iload_n 1, (0, 0, 0, 0)) := rfl
theorem r104_58 (d : Nat) (v : Int32) (l0 l2 l3 l4 : Option Value) (st : List Value) (h : tm_H) (K : Option Value → tm_H → Prop) : tm_A d 104 58 [l0, some (.int v), l2, l3, l4] st h K ↔ tm_A d 104 59 [l0, some (.int v), l2, l3, l4] (.int v :: st) h K := tm_s o104_58 rfl rfl rfl
theorem o104_59 : tm_op 104 59 = some (.if_icmp .ne 6, (0, 0, 0, 0)) := rfl
theorem r104_59 (d : Nat) (y x : Int32) (ls : tm_Lo) (st : List Value) (h : tm_H) (K : Option Value → tm_H → Prop) : tm_A d 104 59 ls (.int y :: .int x :: st) h K ↔ if ¬ x = y then tm_A d 104 65 ls st h K else tm_A d 104 62 ls st h K := tm_b o104_59 rfl rfl rfl rfl
theorem o104_62 : tm_op 104 62 = some (.iinc 3 1, (0, 0, 0, 0)) := rfl
theorem r104_62 (d : Nat) (v : Int32) (l0 l1 l2 l4 : Option Value) (st : List Value) (h : tm_H) (K : Option Value → tm_H → Prop) : tm_A d 104 62 [l0, l1, l2, some (.int v), l4] st h K ↔ tm_A d 104 65 [l0, l1, l2, some (.int (v + (1 : Int32))), l4] st h K := tm_s o104_62 rfl rfl rfl
theorem o104_65 : tm_op 104 65 = some (.iinc 4 1, (0, 0, 0, 0)) := rfl
theorem r104_65 (d : Nat) (v : Int32) (l0 l1 l2 l3 : Option Value) (st : List Value) (h : tm_H) (K : Option Value → tm_H → Prop) : tm_A d 104 65 [l0, l1, l2, l3, some (.int v)] st h K ↔ tm_A d 104 68 [l0, l1, l2, l3, some (.int (v + (1 : Int32)))] st h K := tm_s o104_65 rfl rfl rfl
theorem o104_68 : tm_op 104 68 = some (.goto (-43), (0, 0, 0, 0)) := rfl
theorem r104_68 (d : Nat) (ls : tm_Lo) (st : List Value) (h : tm_H) (K : Option Value → tm_H → Prop) : tm_A d 104 68 ls st h K ↔ tm_A d 104 25 ls st h K := tm_s o104_68 rfl rfl rfl
theorem o104_71 : tm_op 104 71 = some (.iload_n 3, (0, 0, 0, 0)) := rfl
theorem r104_71 (d : Nat) (v : Int32) (l0 l1 l2 l4 : Option Value) (st : List Value) (h : tm_H) (K : Option Value → tm_H → Prop) : tm_A d 104 71 [l0, l1, l2, some (.int v), l4] st h K ↔ tm_A d 104 72 [l0, l1, l2, some (.int v), l4] (.int v :: st) h K := tm_s o104_71 rfl rfl rfl
theorem o104_72 : tm_op 104 72 = some (.ireturn, (0, 0, 0, 0)) := rfl
theorem r104_72 (d : Nat) (v : Int32) (ls : tm_Lo) (h : tm_H) (K : Option Value → tm_H → Prop) : tm_A d 104 72 ls [.int v] h K ↔ K (some (.int v)) h := tm_reti o104_72 rfl
theorem o105_0 : tm_op 105 0 = some (.aload_n 0, (0, 0, 0, 0)) := rfl
theorem r105_0 (d : Nat) (v : Nat) (l1 l2 : Option Value) (st : List Value) (h : tm_H) (K : Option Value → tm_H → Prop) : tm_A d 105 0 [some (.ref v), l1, l2] st h K ↔ tm_A d 105 1 [some (.ref v), l1, l2] (.ref v :: st) h K := tm_s o105_0 rfl rfl rfl
theorem o105_1 : tm_op 105 1 = some (.iload_n 2, (0, 0, 0, 0)) := rfl
theorem r105_1 (d : Nat) (v : Int32) (l0 l1 : Option Value) (st : List Value) (h : tm_H) (K : Option Value → tm_H → Prop) : tm_A d 105 1 [l0, l1, some (.int v)] st h K ↔ tm_A d 105 2 [l0, l1, some (.int v)] (.int v :: st) h K := tm_s o105_1 rfl rfl rfl
theorem o105_2 : tm_op 105 2 = some (.invokevirtual 125, (2, 109, 2, 9)) := rfl
theorem r105_2 (d : Nat) (v1 : Int32) (a : Nat) (ls : tm_Lo) (st : List Value) (h : tm_H) (K : Option Value → tm_H → Prop) : tm_A (d + 1) 105 2 ls (.int v1 :: .ref a :: st) h K ↔ (h.1.2.2 a = (0, 9) ∧ tm_cs st) ∧ tm_R d 109 [.ref a, .int v1] h (fun r h' => tm_A (d + 1) 105 5 ls (r.toList ++ st) h' K) := tm_callV (as := [.int v1]) o105_2 rfl rfl rfl rfl
theorem o105_5 : tm_op 105 5 = some (.ifCond .eq 14, (0, 0, 0, 0)) := rfl
theorem r105_5 (d : Nat) (x : Int32) (ls : tm_Lo) (st : List Value) (h : tm_H) (K : Option Value → tm_H → Prop) : tm_A d 105 5 ls (.int x :: st) h K ↔ if x = 0 then tm_A d 105 19 ls st h K else tm_A d 105 8 ls st h K := tm_b o105_5 rfl rfl rfl rfl
theorem o105_8 : tm_op 105 8 = some (.aload_n 0, (0, 0, 0, 0)) := rfl
theorem r105_8 (d : Nat) (v : Nat) (l1 l2 : Option Value) (st : List Value) (h : tm_H) (K : Option Value → tm_H → Prop) : tm_A d 105 8 [some (.ref v), l1, l2] st h K ↔ tm_A d 105 9 [some (.ref v), l1, l2] (.ref v :: st) h K := tm_s o105_8 rfl rfl rfl
theorem o105_9 : tm_op 105 9 = some (.getfield 26, (2, 9, 2, 0)) := rfl
theorem r105_9 (d : Nat) (a : Nat) (ls : tm_Lo) (st : List Value) (G : tm_G) (I : Nat → Nat → Int32) (J : Nat → Nat → Int64) (R : Nat → Nat → Option Nat) (K : Option Value → tm_H → Prop) : tm_A d 105 9 ls (.ref a :: st) (G, I, J, R) K ↔ G.2.2 a = (0, 9) ∧ tm_A d 105 12 ls (tm_rf (R a 2) :: st) (G, I, J, R) K := tm_getR o105_9
theorem o105_12 : tm_op 105 12 = some (.iload_n 1, (0, 0, 0, 0)) := rfl
theorem r105_12 (d : Nat) (v : Int32) (l0 l2 : Option Value) (st : List Value) (h : tm_H) (K : Option Value → tm_H → Prop) : tm_A d 105 12 [l0, some (.int v), l2] st h K ↔ tm_A d 105 13 [l0, some (.int v), l2] (.int v :: st) h K := tm_s o105_12 rfl rfl rfl
theorem o105_13 : tm_op 105 13 = some (.invokevirtual 174, (2, 46, 2, 4)) := rfl
theorem r105_13 (d : Nat) (v1 : Int32) (a : Nat) (ls : tm_Lo) (st : List Value) (h : tm_H) (K : Option Value → tm_H → Prop) : tm_A (d + 1) 105 13 ls (.int v1 :: .ref a :: st) h K ↔ (h.1.2.2 a = (0, 4) ∧ tm_cs st) ∧ tm_R d 46 [.ref a, .int v1] h (fun r h' => tm_A (d + 1) 105 16 ls (r.toList ++ st) h' K) := tm_callV (as := [.int v1]) o105_13 rfl rfl rfl rfl
theorem o105_16 : tm_op 105 16 = some (.goto 4, (0, 0, 0, 0)) := rfl
theorem r105_16 (d : Nat) (ls : tm_Lo) (st : List Value) (h : tm_H) (K : Option Value → tm_H → Prop) : tm_A d 105 16 ls st h K ↔ tm_A d 105 20 ls st h K := tm_s o105_16 rfl rfl rfl
theorem o105_19 : tm_op 105 19 = some (.iconst 0, (0, 0, 0, 0)) := rfl
theorem r105_19 (d : Nat) (ls : tm_Lo) (st : List Value) (h : tm_H) (K : Option Value → tm_H → Prop) : tm_A d 105 19 ls st h K ↔ tm_A d 105 20 ls (.int (0 : Int32) :: st) h K := tm_ic o105_19 (by decide)
theorem o105_20 : tm_op 105 20 = some (.ireturn, (0, 0, 0, 0)) := rfl
theorem r105_20 (d : Nat) (v : Int32) (ls : tm_Lo) (h : tm_H) (K : Option Value → tm_H → Prop) : tm_A d 105 20 ls [.int v] h K ↔ K (some (.int v)) h := tm_reti o105_20 rfl
theorem o106_0 : tm_op 106 0 = some (.aload_n 0, (0, 0, 0, 0)) := rfl
theorem r106_0 (d : Nat) (v : Nat) (l1 l2 : Option Value) (st : List Value) (h : tm_H) (K : Option Value → tm_H → Prop) : tm_A d 106 0 [some (.ref v), l1, l2] st h K ↔ tm_A d 106 1 [some (.ref v), l1, l2] (.ref v :: st) h K := tm_s o106_0 rfl rfl rfl
theorem o106_1 : tm_op 106 1 = some (.iload_n 2, (0, 0, 0, 0)) := rfl
theorem r106_1 (d : Nat) (v : Int32) (l0 l1 : Option Value) (st : List Value) (h : tm_H) (K : Option Value → tm_H → Prop) : tm_A d 106 1 [l0, l1, some (.int v)] st h K ↔ tm_A d 106 2 [l0, l1, some (.int v)] (.int v :: st) h K := tm_s o106_1 rfl rfl rfl
theorem o106_2 : tm_op 106 2 = some (.invokevirtual 177, (2, 111, 2, 9)) := rfl
theorem r106_2 (d : Nat) (v1 : Int32) (a : Nat) (ls : tm_Lo) (st : List Value) (h : tm_H) (K : Option Value → tm_H → Prop) : tm_A (d + 1) 106 2 ls (.int v1 :: .ref a :: st) h K ↔ (h.1.2.2 a = (0, 9) ∧ tm_cs st) ∧ tm_R d 111 [.ref a, .int v1] h (fun r h' => tm_A (d + 1) 106 5 ls (r.toList ++ st) h' K) := tm_callV (as := [.int v1]) o106_2 rfl rfl rfl rfl
theorem o106_5 : tm_op 106 5 = some (.ifCond .eq 14, (0, 0, 0, 0)) := rfl
theorem r106_5 (d : Nat) (x : Int32) (ls : tm_Lo) (st : List Value) (h : tm_H) (K : Option Value → tm_H → Prop) : tm_A d 106 5 ls (.int x :: st) h K ↔ if x = 0 then tm_A d 106 19 ls st h K else tm_A d 106 8 ls st h K := tm_b o106_5 rfl rfl rfl rfl
theorem o106_8 : tm_op 106 8 = some (.aload_n 0, (0, 0, 0, 0)) := rfl
theorem r106_8 (d : Nat) (v : Nat) (l1 l2 : Option Value) (st : List Value) (h : tm_H) (K : Option Value → tm_H → Prop) : tm_A d 106 8 [some (.ref v), l1, l2] st h K ↔ tm_A d 106 9 [some (.ref v), l1, l2] (.ref v :: st) h K := tm_s o106_8 rfl rfl rfl
theorem o106_9 : tm_op 106 9 = some (.getfield 54, (2, 9, 6, 0)) := rfl
theorem r106_9 (d : Nat) (a : Nat) (ls : tm_Lo) (st : List Value) (G : tm_G) (I : Nat → Nat → Int32) (J : Nat → Nat → Int64) (R : Nat → Nat → Option Nat) (K : Option Value → tm_H → Prop) : tm_A d 106 9 ls (.ref a :: st) (G, I, J, R) K ↔ G.2.2 a = (0, 9) ∧ tm_A d 106 12 ls (tm_rf (R a 6) :: st) (G, I, J, R) K := tm_getR o106_9
theorem o106_12 : tm_op 106 12 = some (.iload_n 1, (0, 0, 0, 0)) := rfl
theorem r106_12 (d : Nat) (v : Int32) (l0 l2 : Option Value) (st : List Value) (h : tm_H) (K : Option Value → tm_H → Prop) : tm_A d 106 12 [l0, some (.int v), l2] st h K ↔ tm_A d 106 13 [l0, some (.int v), l2] (.int v :: st) h K := tm_s o106_12 rfl rfl rfl
theorem o106_13 : tm_op 106 13 = some (.invokevirtual 180, (2, 20, 2, 1)) := rfl
theorem r106_13 (d : Nat) (v1 : Int32) (a : Nat) (ls : tm_Lo) (st : List Value) (h : tm_H) (K : Option Value → tm_H → Prop) : tm_A (d + 1) 106 13 ls (.int v1 :: .ref a :: st) h K ↔ (h.1.2.2 a = (0, 1) ∧ tm_cs st) ∧ tm_R d 20 [.ref a, .int v1] h (fun r h' => tm_A (d + 1) 106 16 ls (r.toList ++ st) h' K) := tm_callV (as := [.int v1]) o106_13 rfl rfl rfl rfl
theorem o106_16 : tm_op 106 16 = some (.goto 4, (0, 0, 0, 0)) := rfl
theorem r106_16 (d : Nat) (ls : tm_Lo) (st : List Value) (h : tm_H) (K : Option Value → tm_H → Prop) : tm_A d 106 16 ls st h K ↔ tm_A d 106 20 ls st h K := tm_s o106_16 rfl rfl rfl
theorem o106_19 : tm_op 106 19 = some (.iconst (-1), (0, 0, 0, 0)) := rfl
theorem r106_19 (d : Nat) (ls : tm_Lo) (st : List Value) (h : tm_H) (K : Option Value → tm_H → Prop) : tm_A d 106 19 ls st h K ↔ tm_A d 106 20 ls (.int (-1 : Int32) :: st) h K := tm_ic o106_19 (by decide)
theorem o106_20 : tm_op 106 20 = some (.ireturn, (0, 0, 0, 0)) := rfl
theorem r106_20 (d : Nat) (v : Int32) (ls : tm_Lo) (h : tm_H) (K : Option Value → tm_H → Prop) : tm_A d 106 20 ls [.int v] h K ↔ K (some (.int v)) h := tm_reti o106_20 rfl
theorem o107_0 : tm_op 107 0 = some (.aload_n 0, (0, 0, 0, 0)) := rfl
theorem r107_0 (d : Nat) (v : Nat) (l1 : Option Value) (st : List Value) (h : tm_H) (K : Option Value → tm_H → Prop) : tm_A d 107 0 [some (.ref v), l1] st h K ↔ tm_A d 107 1 [some (.ref v), l1] (.ref v :: st) h K := tm_s o107_0 rfl rfl rfl
theorem o107_1 : tm_op 107 1 = some (.iload_n 1, (0, 0, 0, 0)) := rfl
theorem r107_1 (d : Nat) (v : Int32) (l0 : Option Value) (st : List Value) (h : tm_H) (K : Option Value → tm_H → Prop) : tm_A d 107 1 [l0, some (.int v)] st h K ↔ tm_A d 107 2 [l0, some (.int v)] (.int v :: st) h K := tm_s o107_1 rfl rfl rfl
theorem o107_2 : tm_op 107 2 = some (.invokevirtual 177, (2, 111, 2, 9)) := rfl
theorem r107_2 (d : Nat) (v1 : Int32) (a : Nat) (ls : tm_Lo) (st : List Value) (h : tm_H) (K : Option Value → tm_H → Prop) : tm_A (d + 1) 107 2 ls (.int v1 :: .ref a :: st) h K ↔ (h.1.2.2 a = (0, 9) ∧ tm_cs st) ∧ tm_R d 111 [.ref a, .int v1] h (fun r h' => tm_A (d + 1) 107 5 ls (r.toList ++ st) h' K) := tm_callV (as := [.int v1]) o107_2 rfl rfl rfl rfl
theorem o107_5 : tm_op 107 5 = some (.ifCond .eq 13, (0, 0, 0, 0)) := rfl
theorem r107_5 (d : Nat) (x : Int32) (ls : tm_Lo) (st : List Value) (h : tm_H) (K : Option Value → tm_H → Prop) : tm_A d 107 5 ls (.int x :: st) h K ↔ if x = 0 then tm_A d 107 18 ls st h K else tm_A d 107 8 ls st h K := tm_b o107_5 rfl rfl rfl rfl
theorem o107_8 : tm_op 107 8 = some (.aload_n 0, (0, 0, 0, 0)) := rfl
theorem r107_8 (d : Nat) (v : Nat) (l1 : Option Value) (st : List Value) (h : tm_H) (K : Option Value → tm_H → Prop) : tm_A d 107 8 [some (.ref v), l1] st h K ↔ tm_A d 107 9 [some (.ref v), l1] (.ref v :: st) h K := tm_s o107_8 rfl rfl rfl
theorem o107_9 : tm_op 107 9 = some (.getfield 54, (2, 9, 6, 0)) := rfl
theorem r107_9 (d : Nat) (a : Nat) (ls : tm_Lo) (st : List Value) (G : tm_G) (I : Nat → Nat → Int32) (J : Nat → Nat → Int64) (R : Nat → Nat → Option Nat) (K : Option Value → tm_H → Prop) : tm_A d 107 9 ls (.ref a :: st) (G, I, J, R) K ↔ G.2.2 a = (0, 9) ∧ tm_A d 107 12 ls (tm_rf (R a 6) :: st) (G, I, J, R) K := tm_getR o107_9
theorem o107_12 : tm_op 107 12 = some (.invokevirtual 183, (2, 21, 1, 1)) := rfl
theorem r107_12 (d : Nat) (a : Nat) (ls : tm_Lo) (st : List Value) (h : tm_H) (K : Option Value → tm_H → Prop) : tm_A (d + 1) 107 12 ls (.ref a :: st) h K ↔ (h.1.2.2 a = (0, 1) ∧ tm_cs st) ∧ tm_R d 21 [.ref a] h (fun r h' => tm_A (d + 1) 107 15 ls (r.toList ++ st) h' K) := tm_callV (as := []) o107_12 rfl rfl rfl rfl
theorem o107_15 : tm_op 107 15 = some (.goto 4, (0, 0, 0, 0)) := rfl
theorem r107_15 (d : Nat) (ls : tm_Lo) (st : List Value) (h : tm_H) (K : Option Value → tm_H → Prop) : tm_A d 107 15 ls st h K ↔ tm_A d 107 19 ls st h K := tm_s o107_15 rfl rfl rfl
theorem o107_18 : tm_op 107 18 = some (.iconst (-1), (0, 0, 0, 0)) := rfl
theorem r107_18 (d : Nat) (ls : tm_Lo) (st : List Value) (h : tm_H) (K : Option Value → tm_H → Prop) : tm_A d 107 18 ls st h K ↔ tm_A d 107 19 ls (.int (-1 : Int32) :: st) h K := tm_ic o107_18 (by decide)
theorem o107_19 : tm_op 107 19 = some (.ireturn, (0, 0, 0, 0)) := rfl
theorem r107_19 (d : Nat) (v : Int32) (ls : tm_Lo) (h : tm_H) (K : Option Value → tm_H → Prop) : tm_A d 107 19 ls [.int v] h K ↔ K (some (.int v)) h := tm_reti o107_19 rfl
theorem o108_0 : tm_op 108 0 = some (.iload_n 1, (0, 0, 0, 0)) := rfl
theorem r108_0 (d : Nat) (v : Int32) (l0 : Option Value) (st : List Value) (h : tm_H) (K : Option Value → tm_H → Prop) : tm_A d 108 0 [l0, some (.int v)] st h K ↔ tm_A d 108 1 [l0, some (.int v)] (.int v :: st) h K := tm_s o108_0 rfl rfl rfl
theorem o108_1 : tm_op 108 1 = some (.tableswitch 86 0 5 #[39, 44, 52, 60, 68, 77], (39, 0, 0, 0)) := rfl
theorem r108_1 (d : Nat) (v : Int32) (ls : tm_Lo) (st : List Value) (h : tm_H) (K : Option Value → tm_H → Prop) : tm_A d 108 1 ls (.int v :: st) h K ↔ tm_A d 108 (tm_tsw (86) (0) (5) #[39, 44, 52, 60, 68, 77] 1 v) ls st h K := tm_s o108_1 rfl rfl rfl
theorem o108_40 : tm_op 108 40 = some (.aload_n 0, (0, 0, 0, 0)) := rfl
theorem r108_40 (d : Nat) (v : Nat) (l1 : Option Value) (st : List Value) (h : tm_H) (K : Option Value → tm_H → Prop) : tm_A d 108 40 [some (.ref v), l1] st h K ↔ tm_A d 108 41 [some (.ref v), l1] (.ref v :: st) h K := tm_s o108_40 rfl rfl rfl
theorem o108_41 : tm_op 108 41 = some (.getfield 58, (0, 9, 7, 0)) := rfl
theorem r108_41 (d : Nat) (a : Nat) (ls : tm_Lo) (st : List Value) (G : tm_G) (I : Nat → Nat → Int32) (J : Nat → Nat → Int64) (R : Nat → Nat → Option Nat) (K : Option Value → tm_H → Prop) : tm_A d 108 41 ls (.ref a :: st) (G, I, J, R) K ↔ G.2.2 a = (0, 9) ∧ tm_A d 108 44 ls (.int (I a 7) :: st) (G, I, J, R) K := tm_getI o108_41
theorem o108_44 : tm_op 108 44 = some (.ireturn, (0, 0, 0, 0)) := rfl
theorem r108_44 (d : Nat) (v : Int32) (ls : tm_Lo) (h : tm_H) (K : Option Value → tm_H → Prop) : tm_A d 108 44 ls [.int v] h K ↔ K (some (.int v)) h := tm_reti o108_44 rfl
theorem o108_45 : tm_op 108 45 = some (.aload_n 0, (0, 0, 0, 0)) := rfl
theorem r108_45 (d : Nat) (v : Nat) (l1 : Option Value) (st : List Value) (h : tm_H) (K : Option Value → tm_H → Prop) : tm_A d 108 45 [some (.ref v), l1] st h K ↔ tm_A d 108 46 [some (.ref v), l1] (.ref v :: st) h K := tm_s o108_45 rfl rfl rfl
theorem o108_46 : tm_op 108 46 = some (.getfield 19, (2, 9, 1, 0)) := rfl
theorem r108_46 (d : Nat) (a : Nat) (ls : tm_Lo) (st : List Value) (G : tm_G) (I : Nat → Nat → Int32) (J : Nat → Nat → Int64) (R : Nat → Nat → Option Nat) (K : Option Value → tm_H → Prop) : tm_A d 108 46 ls (.ref a :: st) (G, I, J, R) K ↔ G.2.2 a = (0, 9) ∧ tm_A d 108 49 ls (tm_rf (R a 1) :: st) (G, I, J, R) K := tm_getR o108_46
theorem o108_49 : tm_op 108 49 = some (.invokevirtual 97, (2, 49, 1, 5)) := rfl
theorem r108_49 (d : Nat) (a : Nat) (ls : tm_Lo) (st : List Value) (h : tm_H) (K : Option Value → tm_H → Prop) : tm_A (d + 1) 108 49 ls (.ref a :: st) h K ↔ (h.1.2.2 a = (0, 5) ∧ tm_cs st) ∧ tm_R d 49 [.ref a] h (fun r h' => tm_A (d + 1) 108 52 ls (r.toList ++ st) h' K) := tm_callV (as := []) o108_49 rfl rfl rfl rfl
theorem o108_52 : tm_op 108 52 = some (.ireturn, (0, 0, 0, 0)) := rfl
theorem r108_52 (d : Nat) (v : Int32) (ls : tm_Lo) (h : tm_H) (K : Option Value → tm_H → Prop) : tm_A d 108 52 ls [.int v] h K ↔ K (some (.int v)) h := tm_reti o108_52 rfl
theorem o108_53 : tm_op 108 53 = some (.aload_n 0, (0, 0, 0, 0)) := rfl
theorem r108_53 (d : Nat) (v : Nat) (l1 : Option Value) (st : List Value) (h : tm_H) (K : Option Value → tm_H → Prop) : tm_A d 108 53 [some (.ref v), l1] st h K ↔ tm_A d 108 54 [some (.ref v), l1] (.ref v :: st) h K := tm_s o108_53 rfl rfl rfl
theorem o108_54 : tm_op 108 54 = some (.getfield 19, (2, 9, 1, 0)) := rfl
theorem r108_54 (d : Nat) (a : Nat) (ls : tm_Lo) (st : List Value) (G : tm_G) (I : Nat → Nat → Int32) (J : Nat → Nat → Int64) (R : Nat → Nat → Option Nat) (K : Option Value → tm_H → Prop) : tm_A d 108 54 ls (.ref a :: st) (G, I, J, R) K ↔ G.2.2 a = (0, 9) ∧ tm_A d 108 57 ls (tm_rf (R a 1) :: st) (G, I, J, R) K := tm_getR o108_54
theorem o108_57 : tm_op 108 57 = some (.invokevirtual 184, (2, 50, 1, 5)) := rfl
theorem r108_57 (d : Nat) (a : Nat) (ls : tm_Lo) (st : List Value) (h : tm_H) (K : Option Value → tm_H → Prop) : tm_A (d + 1) 108 57 ls (.ref a :: st) h K ↔ (h.1.2.2 a = (0, 5) ∧ tm_cs st) ∧ tm_R d 50 [.ref a] h (fun r h' => tm_A (d + 1) 108 60 ls (r.toList ++ st) h' K) := tm_callV (as := []) o108_57 rfl rfl rfl rfl
theorem o108_60 : tm_op 108 60 = some (.ireturn, (0, 0, 0, 0)) := rfl
theorem r108_60 (d : Nat) (v : Int32) (ls : tm_Lo) (h : tm_H) (K : Option Value → tm_H → Prop) : tm_A d 108 60 ls [.int v] h K ↔ K (some (.int v)) h := tm_reti o108_60 rfl
theorem o108_61 : tm_op 108 61 = some (.aload_n 0, (0, 0, 0, 0)) := rfl
theorem r108_61 (d : Nat) (v : Nat) (l1 : Option Value) (st : List Value) (h : tm_H) (K : Option Value → tm_H → Prop) : tm_A d 108 61 [some (.ref v), l1] st h K ↔ tm_A d 108 62 [some (.ref v), l1] (.ref v :: st) h K := tm_s o108_61 rfl rfl rfl
theorem o108_62 : tm_op 108 62 = some (.getfield 10, (2, 9, 0, 0)) := rfl
theorem r108_62 (d : Nat) (a : Nat) (ls : tm_Lo) (st : List Value) (G : tm_G) (I : Nat → Nat → Int32) (J : Nat → Nat → Int64) (R : Nat → Nat → Option Nat) (K : Option Value → tm_H → Prop) : tm_A d 108 62 ls (.ref a :: st) (G, I, J, R) K ↔ G.2.2 a = (0, 9) ∧ tm_A d 108 65 ls (tm_rf (R a 0) :: st) (G, I, J, R) K := tm_getR o108_62
theorem o108_65 : tm_op 108 65 = some (.invokevirtual 82, (2, 71, 1, 7)) := rfl
theorem r108_65 (d : Nat) (a : Nat) (ls : tm_Lo) (st : List Value) (h : tm_H) (K : Option Value → tm_H → Prop) : tm_A (d + 1) 108 65 ls (.ref a :: st) h K ↔ (h.1.2.2 a = (0, 7) ∧ tm_cs st) ∧ tm_R d 71 [.ref a] h (fun r h' => tm_A (d + 1) 108 68 ls (r.toList ++ st) h' K) := tm_callV (as := []) o108_65 rfl rfl rfl rfl
theorem o108_68 : tm_op 108 68 = some (.ireturn, (0, 0, 0, 0)) := rfl
theorem r108_68 (d : Nat) (v : Int32) (ls : tm_Lo) (h : tm_H) (K : Option Value → tm_H → Prop) : tm_A d 108 68 ls [.int v] h K ↔ K (some (.int v)) h := tm_reti o108_68 rfl
theorem o108_69 : tm_op 108 69 = some (.aload_n 0, (0, 0, 0, 0)) := rfl
theorem r108_69 (d : Nat) (v : Nat) (l1 : Option Value) (st : List Value) (h : tm_H) (K : Option Value → tm_H → Prop) : tm_A d 108 69 [some (.ref v), l1] st h K ↔ tm_A d 108 70 [some (.ref v), l1] (.ref v :: st) h K := tm_s o108_69 rfl rfl rfl
theorem o108_70 : tm_op 108 70 = some (.getfield 33, (2, 9, 3, 0)) := rfl
theorem r108_70 (d : Nat) (a : Nat) (ls : tm_Lo) (st : List Value) (G : tm_G) (I : Nat → Nat → Int32) (J : Nat → Nat → Int64) (R : Nat → Nat → Option Nat) (K : Option Value → tm_H → Prop) : tm_A d 108 70 ls (.ref a :: st) (G, I, J, R) K ↔ G.2.2 a = (0, 9) ∧ tm_A d 108 73 ls (tm_rf (R a 3) :: st) (G, I, J, R) K := tm_getR o108_70
theorem o108_73 : tm_op 108 73 = some (.iconst 1, (0, 0, 0, 0)) := rfl
theorem r108_73 (d : Nat) (ls : tm_Lo) (st : List Value) (h : tm_H) (K : Option Value → tm_H → Prop) : tm_A d 108 73 ls st h K ↔ tm_A d 108 74 ls (.int (1 : Int32) :: st) h K := tm_ic o108_73 (by decide)
theorem o108_74 : tm_op 108 74 = some (.invokevirtual 187, (2, 38, 2, 3)) := rfl
theorem r108_74 (d : Nat) (v1 : Int32) (a : Nat) (ls : tm_Lo) (st : List Value) (h : tm_H) (K : Option Value → tm_H → Prop) : tm_A (d + 1) 108 74 ls (.int v1 :: .ref a :: st) h K ↔ (h.1.2.2 a = (0, 3) ∧ tm_cs st) ∧ tm_R d 38 [.ref a, .int v1] h (fun r h' => tm_A (d + 1) 108 77 ls (r.toList ++ st) h' K) := tm_callV (as := [.int v1]) o108_74 rfl rfl rfl rfl
theorem o108_77 : tm_op 108 77 = some (.ireturn, (0, 0, 0, 0)) := rfl
theorem r108_77 (d : Nat) (v : Int32) (ls : tm_Lo) (h : tm_H) (K : Option Value → tm_H → Prop) : tm_A d 108 77 ls [.int v] h K ↔ K (some (.int v)) h := tm_reti o108_77 rfl
theorem o108_78 : tm_op 108 78 = some (.aload_n 0, (0, 0, 0, 0)) := rfl
theorem r108_78 (d : Nat) (v : Nat) (l1 : Option Value) (st : List Value) (h : tm_H) (K : Option Value → tm_H → Prop) : tm_A d 108 78 [some (.ref v), l1] st h K ↔ tm_A d 108 79 [some (.ref v), l1] (.ref v :: st) h K := tm_s o108_78 rfl rfl rfl
theorem o108_79 : tm_op 108 79 = some (.getfield 33, (2, 9, 3, 0)) := rfl
theorem r108_79 (d : Nat) (a : Nat) (ls : tm_Lo) (st : List Value) (G : tm_G) (I : Nat → Nat → Int32) (J : Nat → Nat → Int64) (R : Nat → Nat → Option Nat) (K : Option Value → tm_H → Prop) : tm_A d 108 79 ls (.ref a :: st) (G, I, J, R) K ↔ G.2.2 a = (0, 9) ∧ tm_A d 108 82 ls (tm_rf (R a 3) :: st) (G, I, J, R) K := tm_getR o108_79
theorem o108_82 : tm_op 108 82 = some (.iconst 2, (0, 0, 0, 0)) := rfl
theorem r108_82 (d : Nat) (ls : tm_Lo) (st : List Value) (h : tm_H) (K : Option Value → tm_H → Prop) : tm_A d 108 82 ls st h K ↔ tm_A d 108 83 ls (.int (2 : Int32) :: st) h K := tm_ic o108_82 (by decide)
theorem o108_83 : tm_op 108 83 = some (.invokevirtual 187, (2, 38, 2, 3)) := rfl
theorem r108_83 (d : Nat) (v1 : Int32) (a : Nat) (ls : tm_Lo) (st : List Value) (h : tm_H) (K : Option Value → tm_H → Prop) : tm_A (d + 1) 108 83 ls (.int v1 :: .ref a :: st) h K ↔ (h.1.2.2 a = (0, 3) ∧ tm_cs st) ∧ tm_R d 38 [.ref a, .int v1] h (fun r h' => tm_A (d + 1) 108 86 ls (r.toList ++ st) h' K) := tm_callV (as := [.int v1]) o108_83 rfl rfl rfl rfl
theorem o108_86 : tm_op 108 86 = some (.ireturn, (0, 0, 0, 0)) := rfl
theorem r108_86 (d : Nat) (v : Int32) (ls : tm_Lo) (h : tm_H) (K : Option Value → tm_H → Prop) : tm_A d 108 86 ls [.int v] h K ↔ K (some (.int v)) h := tm_reti o108_86 rfl
theorem o108_87 : tm_op 108 87 = some (.iconst (-1), (0, 0, 0, 0)) := rfl
theorem r108_87 (d : Nat) (ls : tm_Lo) (st : List Value) (h : tm_H) (K : Option Value → tm_H → Prop) : tm_A d 108 87 ls st h K ↔ tm_A d 108 88 ls (.int (-1 : Int32) :: st) h K := tm_ic o108_87 (by decide)
theorem o108_88 : tm_op 108 88 = some (.ireturn, (0, 0, 0, 0)) := rfl
theorem r108_88 (d : Nat) (v : Int32) (ls : tm_Lo) (h : tm_H) (K : Option Value → tm_H → Prop) : tm_A d 108 88 ls [.int v] h K ↔ K (some (.int v)) h := tm_reti o108_88 rfl
theorem o109_0 : tm_op 109 0 = some (.iload_n 1, (0, 0, 0, 0)) := rfl
theorem r109_0 (d : Nat) (v : Int32) (l0 : Option Value) (st : List Value) (h : tm_H) (K : Option Value → tm_H → Prop) : tm_A d 109 0 [l0, some (.int v)] st h K ↔ tm_A d 109 1 [l0, some (.int v)] (.int v :: st) h K := tm_s o109_0 rfl rfl rfl
theorem o109_1 : tm_op 109 1 = some (.ifCond .lt 11, (0, 0, 0, 0)) := rfl
theorem r109_1 (d : Nat) (x : Int32) (ls : tm_Lo) (st : List Value) (h : tm_H) (K : Option Value → tm_H → Prop) : tm_A d 109 1 ls (.int x :: st) h K ↔ if x < 0 then tm_A d 109 12 ls st h K else tm_A d 109 4 ls st h K := tm_b o109_1 rfl rfl rfl rfl
theorem o109_4 : tm_op 109 4 = some (.iload_n 1, (0, 0, 0, 0)) := rfl
theorem r109_4 (d : Nat) (v : Int32) (l0 : Option Value) (st : List Value) (h : tm_H) (K : Option Value → tm_H → Prop) : tm_A d 109 4 [l0, some (.int v)] st h K ↔ tm_A d 109 5 [l0, some (.int v)] (.int v :: st) h K := tm_s o109_4 rfl rfl rfl
theorem o109_5 : tm_op 109 5 = some (.aload_n 0, (0, 0, 0, 0)) := rfl
theorem r109_5 (d : Nat) (v : Nat) (l1 : Option Value) (st : List Value) (h : tm_H) (K : Option Value → tm_H → Prop) : tm_A d 109 5 [some (.ref v), l1] st h K ↔ tm_A d 109 6 [some (.ref v), l1] (.ref v :: st) h K := tm_s o109_5 rfl rfl rfl
theorem o109_6 : tm_op 109 6 = some (.getfield 58, (0, 9, 7, 0)) := rfl
theorem r109_6 (d : Nat) (a : Nat) (ls : tm_Lo) (st : List Value) (G : tm_G) (I : Nat → Nat → Int32) (J : Nat → Nat → Int64) (R : Nat → Nat → Option Nat) (K : Option Value → tm_H → Prop) : tm_A d 109 6 ls (.ref a :: st) (G, I, J, R) K ↔ G.2.2 a = (0, 9) ∧ tm_A d 109 9 ls (.int (I a 7) :: st) (G, I, J, R) K := tm_getI o109_6
theorem o109_9 : tm_op 109 9 = some (.if_icmp .le 5, (0, 0, 0, 0)) := rfl
theorem r109_9 (d : Nat) (y x : Int32) (ls : tm_Lo) (st : List Value) (h : tm_H) (K : Option Value → tm_H → Prop) : tm_A d 109 9 ls (.int y :: .int x :: st) h K ↔ if x ≤ y then tm_A d 109 14 ls st h K else tm_A d 109 12 ls st h K := tm_b o109_9 rfl rfl rfl rfl
theorem o109_12 : tm_op 109 12 = some (.iconst 0, (0, 0, 0, 0)) := rfl
theorem r109_12 (d : Nat) (ls : tm_Lo) (st : List Value) (h : tm_H) (K : Option Value → tm_H → Prop) : tm_A d 109 12 ls st h K ↔ tm_A d 109 13 ls (.int (0 : Int32) :: st) h K := tm_ic o109_12 (by decide)
theorem o109_13 : tm_op 109 13 = some (.ireturn, (0, 0, 0, 0)) := rfl
theorem r109_13 (d : Nat) (v : Int32) (ls : tm_Lo) (h : tm_H) (K : Option Value → tm_H → Prop) : tm_A d 109 13 ls [.int v] h K ↔ (v = 0 ∨ v = 1) ∧ K (some (.int v)) h := tm_retz o109_13 rfl
theorem o109_14 : tm_op 109 14 = some (.iload_n 1, (0, 0, 0, 0)) := rfl
theorem r109_14 (d : Nat) (v : Int32) (l0 : Option Value) (st : List Value) (h : tm_H) (K : Option Value → tm_H → Prop) : tm_A d 109 14 [l0, some (.int v)] st h K ↔ tm_A d 109 15 [l0, some (.int v)] (.int v :: st) h K := tm_s o109_14 rfl rfl rfl
theorem o109_15 : tm_op 109 15 = some (.aload_n 0, (0, 0, 0, 0)) := rfl
theorem r109_15 (d : Nat) (v : Nat) (l1 : Option Value) (st : List Value) (h : tm_H) (K : Option Value → tm_H → Prop) : tm_A d 109 15 [some (.ref v), l1] st h K ↔ tm_A d 109 16 [some (.ref v), l1] (.ref v :: st) h K := tm_s o109_15 rfl rfl rfl
theorem o109_16 : tm_op 109 16 = some (.getfield 68, (0, 9, 10, 0)) := rfl
theorem r109_16 (d : Nat) (a : Nat) (ls : tm_Lo) (st : List Value) (G : tm_G) (I : Nat → Nat → Int32) (J : Nat → Nat → Int64) (R : Nat → Nat → Option Nat) (K : Option Value → tm_H → Prop) : tm_A d 109 16 ls (.ref a :: st) (G, I, J, R) K ↔ G.2.2 a = (0, 9) ∧ tm_A d 109 19 ls (.int (I a 10) :: st) (G, I, J, R) K := tm_getI o109_16
theorem o109_19 : tm_op 109 19 = some (.if_icmp .eq 30, (0, 0, 0, 0)) := rfl
theorem r109_19 (d : Nat) (y x : Int32) (ls : tm_Lo) (st : List Value) (h : tm_H) (K : Option Value → tm_H → Prop) : tm_A d 109 19 ls (.int y :: .int x :: st) h K ↔ if x = y then tm_A d 109 49 ls st h K else tm_A d 109 22 ls st h K := tm_b o109_19 rfl rfl rfl rfl
theorem o109_22 : tm_op 109 22 = some (.aload_n 0, (0, 0, 0, 0)) := rfl
theorem r109_22 (d : Nat) (v : Nat) (l1 : Option Value) (st : List Value) (h : tm_H) (K : Option Value → tm_H → Prop) : tm_A d 109 22 [some (.ref v), l1] st h K ↔ tm_A d 109 23 [some (.ref v), l1] (.ref v :: st) h K := tm_s o109_22 rfl rfl rfl
theorem o109_23 : tm_op 109 23 = some (.getfield 19, (2, 9, 1, 0)) := rfl
theorem r109_23 (d : Nat) (a : Nat) (ls : tm_Lo) (st : List Value) (G : tm_G) (I : Nat → Nat → Int32) (J : Nat → Nat → Int64) (R : Nat → Nat → Option Nat) (K : Option Value → tm_H → Prop) : tm_A d 109 23 ls (.ref a :: st) (G, I, J, R) K ↔ G.2.2 a = (0, 9) ∧ tm_A d 109 26 ls (tm_rf (R a 1) :: st) (G, I, J, R) K := tm_getR o109_23
theorem o109_26 : tm_op 109 26 = some (.iload_n 1, (0, 0, 0, 0)) := rfl
theorem r109_26 (d : Nat) (v : Int32) (l0 : Option Value) (st : List Value) (h : tm_H) (K : Option Value → tm_H → Prop) : tm_A d 109 26 [l0, some (.int v)] st h K ↔ tm_A d 109 27 [l0, some (.int v)] (.int v :: st) h K := tm_s o109_26 rfl rfl rfl
theorem o109_27 : tm_op 109 27 = some (.aload_n 0, (0, 0, 0, 0)) := rfl
theorem r109_27 (d : Nat) (v : Nat) (l1 : Option Value) (st : List Value) (h : tm_H) (K : Option Value → tm_H → Prop) : tm_A d 109 27 [some (.ref v), l1] st h K ↔ tm_A d 109 28 [some (.ref v), l1] (.ref v :: st) h K := tm_s o109_27 rfl rfl rfl
theorem o109_28 : tm_op 109 28 = some (.getfield 26, (2, 9, 2, 0)) := rfl
theorem r109_28 (d : Nat) (a : Nat) (ls : tm_Lo) (st : List Value) (G : tm_G) (I : Nat → Nat → Int32) (J : Nat → Nat → Int64) (R : Nat → Nat → Option Nat) (K : Option Value → tm_H → Prop) : tm_A d 109 28 ls (.ref a :: st) (G, I, J, R) K ↔ G.2.2 a = (0, 9) ∧ tm_A d 109 31 ls (tm_rf (R a 2) :: st) (G, I, J, R) K := tm_getR o109_28
theorem o109_31 : tm_op 109 31 = some (.invokevirtual 190, (2, 58, 3, 5)) := rfl
theorem r109_31 (d : Nat) (v1 : Int32) (v2 : Nat) (a : Nat) (ls : tm_Lo) (st : List Value) (h : tm_H) (K : Option Value → tm_H → Prop) : tm_A (d + 1) 109 31 ls (.ref v2 :: .int v1 :: .ref a :: st) h K ↔ (h.1.2.2 a = (0, 5) ∧ tm_cs st) ∧ tm_R d 58 [.ref a, .int v1, .ref v2] h (fun r h' => tm_A (d + 1) 109 34 ls (r.toList ++ st) h' K) := tm_callV (as := [.int v1, .ref v2]) o109_31 rfl rfl rfl rfl
theorem o109_34 : tm_op 109 34 = some (.aload_n 0, (0, 0, 0, 0)) := rfl
theorem r109_34 (d : Nat) (v : Nat) (l1 : Option Value) (st : List Value) (h : tm_H) (K : Option Value → tm_H → Prop) : tm_A d 109 34 [some (.ref v), l1] st h K ↔ tm_A d 109 35 [some (.ref v), l1] (.ref v :: st) h K := tm_s o109_34 rfl rfl rfl
theorem o109_35 : tm_op 109 35 = some (.iload_n 1, (0, 0, 0, 0)) := rfl
theorem r109_35 (d : Nat) (v : Int32) (l0 : Option Value) (st : List Value) (h : tm_H) (K : Option Value → tm_H → Prop) : tm_A d 109 35 [l0, some (.int v)] st h K ↔ tm_A d 109 36 [l0, some (.int v)] (.int v :: st) h K := tm_s o109_35 rfl rfl rfl
theorem o109_36 : tm_op 109 36 = some (.putfield 68, (0, 9, 10, 0)) := rfl
theorem r109_36 (d : Nat) (v : Int32) (a : Nat) (ls : tm_Lo) (st : List Value) (G : tm_G) (I : Nat → Nat → Int32) (J : Nat → Nat → Int64) (R : Nat → Nat → Option Nat) (K : Option Value → tm_H → Prop) : tm_A d 109 36 ls (.int v :: .ref a :: st) (G, I, J, R) K ↔ G.2.2 a = (0, 9) ∧ tm_A d 109 39 ls st (G, up2 I a 10 v, J, R) K := tm_putI o109_36
theorem o109_39 : tm_op 109 39 = some (.aload_n 0, (0, 0, 0, 0)) := rfl
theorem r109_39 (d : Nat) (v : Nat) (l1 : Option Value) (st : List Value) (h : tm_H) (K : Option Value → tm_H → Prop) : tm_A d 109 39 [some (.ref v), l1] st h K ↔ tm_A d 109 40 [some (.ref v), l1] (.ref v :: st) h K := tm_s o109_39 rfl rfl rfl
theorem o109_40 : tm_op 109 40 = some (.iconst 0, (0, 0, 0, 0)) := rfl
theorem r109_40 (d : Nat) (ls : tm_Lo) (st : List Value) (h : tm_H) (K : Option Value → tm_H → Prop) : tm_A d 109 40 ls st h K ↔ tm_A d 109 41 ls (.int (0 : Int32) :: st) h K := tm_ic o109_40 (by decide)
theorem o109_41 : tm_op 109 41 = some (.putfield 71, (3, 9, 11, 0)) := rfl
theorem r109_41 (d : Nat) (v : Int32) (a : Nat) (ls : tm_Lo) (st : List Value) (G : tm_G) (I : Nat → Nat → Int32) (J : Nat → Nat → Int64) (R : Nat → Nat → Option Nat) (K : Option Value → tm_H → Prop) : tm_A d 109 41 ls (.int v :: .ref a :: st) (G, I, J, R) K ↔ (G.2.2 a = (0, 9) ∧ (v = 0 ∨ v = 1)) ∧ tm_A d 109 44 ls st (G, up2 I a 11 v, J, R) K := tm_putZ o109_41
theorem o109_44 : tm_op 109 44 = some (.aload_n 0, (0, 0, 0, 0)) := rfl
theorem r109_44 (d : Nat) (v : Nat) (l1 : Option Value) (st : List Value) (h : tm_H) (K : Option Value → tm_H → Prop) : tm_A d 109 44 [some (.ref v), l1] st h K ↔ tm_A d 109 45 [some (.ref v), l1] (.ref v :: st) h K := tm_s o109_44 rfl rfl rfl
theorem o109_45 : tm_op 109 45 = some (.iconst 0, (0, 0, 0, 0)) := rfl
theorem r109_45 (d : Nat) (ls : tm_Lo) (st : List Value) (h : tm_H) (K : Option Value → tm_H → Prop) : tm_A d 109 45 ls st h K ↔ tm_A d 109 46 ls (.int (0 : Int32) :: st) h K := tm_ic o109_45 (by decide)
theorem o109_46 : tm_op 109 46 = some (.putfield 75, (3, 9, 12, 0)) := rfl
theorem r109_46 (d : Nat) (v : Int32) (a : Nat) (ls : tm_Lo) (st : List Value) (G : tm_G) (I : Nat → Nat → Int32) (J : Nat → Nat → Int64) (R : Nat → Nat → Option Nat) (K : Option Value → tm_H → Prop) : tm_A d 109 46 ls (.int v :: .ref a :: st) (G, I, J, R) K ↔ (G.2.2 a = (0, 9) ∧ (v = 0 ∨ v = 1)) ∧ tm_A d 109 49 ls st (G, up2 I a 12 v, J, R) K := tm_putZ o109_46
theorem o109_49 : tm_op 109 49 = some (.iconst 1, (0, 0, 0, 0)) := rfl
theorem r109_49 (d : Nat) (ls : tm_Lo) (st : List Value) (h : tm_H) (K : Option Value → tm_H → Prop) : tm_A d 109 49 ls st h K ↔ tm_A d 109 50 ls (.int (1 : Int32) :: st) h K := tm_ic o109_49 (by decide)
theorem o109_50 : tm_op 109 50 = some (.ireturn, (0, 0, 0, 0)) := rfl
theorem r109_50 (d : Nat) (v : Int32) (ls : tm_Lo) (h : tm_H) (K : Option Value → tm_H → Prop) : tm_A d 109 50 ls [.int v] h K ↔ (v = 0 ∨ v = 1) ∧ K (some (.int v)) h := tm_retz o109_50 rfl
theorem o110_0 : tm_op 110 0 = some (.aload_n 0, (0, 0, 0, 0)) := rfl
theorem r110_0 (d : Nat) (v : Nat) (l1 : Option Value) (st : List Value) (h : tm_H) (K : Option Value → tm_H → Prop) : tm_A d 110 0 [some (.ref v), l1] st h K ↔ tm_A d 110 1 [some (.ref v), l1] (.ref v :: st) h K := tm_s o110_0 rfl rfl rfl
theorem o110_1 : tm_op 110 1 = some (.iload_n 1, (0, 0, 0, 0)) := rfl
theorem r110_1 (d : Nat) (v : Int32) (l0 : Option Value) (st : List Value) (h : tm_H) (K : Option Value → tm_H → Prop) : tm_A d 110 1 [l0, some (.int v)] st h K ↔ tm_A d 110 2 [l0, some (.int v)] (.int v :: st) h K := tm_s o110_1 rfl rfl rfl
theorem o110_2 : tm_op 110 2 = some (.invokevirtual 125, (2, 109, 2, 9)) := rfl
theorem r110_2 (d : Nat) (v1 : Int32) (a : Nat) (ls : tm_Lo) (st : List Value) (h : tm_H) (K : Option Value → tm_H → Prop) : tm_A (d + 1) 110 2 ls (.int v1 :: .ref a :: st) h K ↔ (h.1.2.2 a = (0, 9) ∧ tm_cs st) ∧ tm_R d 109 [.ref a, .int v1] h (fun r h' => tm_A (d + 1) 110 5 ls (r.toList ++ st) h' K) := tm_callV (as := [.int v1]) o110_2 rfl rfl rfl rfl
theorem o110_5 : tm_op 110 5 = some (.ifCond .ne 5, (0, 0, 0, 0)) := rfl
theorem r110_5 (d : Nat) (x : Int32) (ls : tm_Lo) (st : List Value) (h : tm_H) (K : Option Value → tm_H → Prop) : tm_A d 110 5 ls (.int x :: st) h K ↔ if ¬ x = 0 then tm_A d 110 10 ls st h K else tm_A d 110 8 ls st h K := tm_b o110_5 rfl rfl rfl rfl
theorem o110_8 : tm_op 110 8 = some (.iconst 0, (0, 0, 0, 0)) := rfl
theorem r110_8 (d : Nat) (ls : tm_Lo) (st : List Value) (h : tm_H) (K : Option Value → tm_H → Prop) : tm_A d 110 8 ls st h K ↔ tm_A d 110 9 ls (.int (0 : Int32) :: st) h K := tm_ic o110_8 (by decide)
theorem o110_9 : tm_op 110 9 = some (.ireturn, (0, 0, 0, 0)) := rfl
theorem r110_9 (d : Nat) (v : Int32) (ls : tm_Lo) (h : tm_H) (K : Option Value → tm_H → Prop) : tm_A d 110 9 ls [.int v] h K ↔ (v = 0 ∨ v = 1) ∧ K (some (.int v)) h := tm_retz o110_9 rfl
theorem o110_10 : tm_op 110 10 = some (.aload_n 0, (0, 0, 0, 0)) := rfl
theorem r110_10 (d : Nat) (v : Nat) (l1 : Option Value) (st : List Value) (h : tm_H) (K : Option Value → tm_H → Prop) : tm_A d 110 10 [some (.ref v), l1] st h K ↔ tm_A d 110 11 [some (.ref v), l1] (.ref v :: st) h K := tm_s o110_10 rfl rfl rfl
theorem o110_11 : tm_op 110 11 = some (.getfield 71, (3, 9, 11, 0)) := rfl
theorem r110_11 (d : Nat) (a : Nat) (ls : tm_Lo) (st : List Value) (G : tm_G) (I : Nat → Nat → Int32) (J : Nat → Nat → Int64) (R : Nat → Nat → Option Nat) (K : Option Value → tm_H → Prop) : tm_A d 110 11 ls (.ref a :: st) (G, I, J, R) K ↔ G.2.2 a = (0, 9) ∧ tm_A d 110 14 ls (.int (I a 11) :: st) (G, I, J, R) K := tm_getZ o110_11
theorem o110_14 : tm_op 110 14 = some (.ifCond .ne 45, (0, 0, 0, 0)) := rfl
theorem r110_14 (d : Nat) (x : Int32) (ls : tm_Lo) (st : List Value) (h : tm_H) (K : Option Value → tm_H → Prop) : tm_A d 110 14 ls (.int x :: st) h K ↔ if ¬ x = 0 then tm_A d 110 59 ls st h K else tm_A d 110 17 ls st h K := tm_b o110_14 rfl rfl rfl rfl
theorem o110_17 : tm_op 110 17 = some (.aload_n 0, (0, 0, 0, 0)) := rfl
theorem r110_17 (d : Nat) (v : Nat) (l1 : Option Value) (st : List Value) (h : tm_H) (K : Option Value → tm_H → Prop) : tm_A d 110 17 [some (.ref v), l1] st h K ↔ tm_A d 110 18 [some (.ref v), l1] (.ref v :: st) h K := tm_s o110_17 rfl rfl rfl
theorem o110_18 : tm_op 110 18 = some (.getfield 40, (2, 9, 4, 0)) := rfl
theorem r110_18 (d : Nat) (a : Nat) (ls : tm_Lo) (st : List Value) (G : tm_G) (I : Nat → Nat → Int32) (J : Nat → Nat → Int64) (R : Nat → Nat → Option Nat) (K : Option Value → tm_H → Prop) : tm_A d 110 18 ls (.ref a :: st) (G, I, J, R) K ↔ G.2.2 a = (0, 9) ∧ tm_A d 110 21 ls (tm_rf (R a 4) :: st) (G, I, J, R) K := tm_getR o110_18
theorem o110_21 : tm_op 110 21 = some (.aload_n 0, (0, 0, 0, 0)) := rfl
theorem r110_21 (d : Nat) (v : Nat) (l1 : Option Value) (st : List Value) (h : tm_H) (K : Option Value → tm_H → Prop) : tm_A d 110 21 [some (.ref v), l1] st h K ↔ tm_A d 110 22 [some (.ref v), l1] (.ref v :: st) h K := tm_s o110_21 rfl rfl rfl
theorem o110_22 : tm_op 110 22 = some (.getfield 26, (2, 9, 2, 0)) := rfl
theorem r110_22 (d : Nat) (a : Nat) (ls : tm_Lo) (st : List Value) (G : tm_G) (I : Nat → Nat → Int32) (J : Nat → Nat → Int64) (R : Nat → Nat → Option Nat) (K : Option Value → tm_H → Prop) : tm_A d 110 22 ls (.ref a :: st) (G, I, J, R) K ↔ G.2.2 a = (0, 9) ∧ tm_A d 110 25 ls (tm_rf (R a 2) :: st) (G, I, J, R) K := tm_getR o110_22
theorem o110_25 : tm_op 110 25 = some (.aload_n 0, (0, 0, 0, 0)) := rfl
theorem r110_25 (d : Nat) (v : Nat) (l1 : Option Value) (st : List Value) (h : tm_H) (K : Option Value → tm_H → Prop) : tm_A d 110 25 [some (.ref v), l1] st h K ↔ tm_A d 110 26 [some (.ref v), l1] (.ref v :: st) h K := tm_s o110_25 rfl rfl rfl
theorem o110_26 : tm_op 110 26 = some (.getfield 33, (2, 9, 3, 0)) := rfl
theorem r110_26 (d : Nat) (a : Nat) (ls : tm_Lo) (st : List Value) (G : tm_G) (I : Nat → Nat → Int32) (J : Nat → Nat → Int64) (R : Nat → Nat → Option Nat) (K : Option Value → tm_H → Prop) : tm_A d 110 26 ls (.ref a :: st) (G, I, J, R) K ↔ G.2.2 a = (0, 9) ∧ tm_A d 110 29 ls (tm_rf (R a 3) :: st) (G, I, J, R) K := tm_getR o110_26
theorem o110_29 : tm_op 110 29 = some (.invokevirtual 194, (2, 60, 3, 6)) := rfl
theorem r110_29 (d : Nat) (v1 : Nat) (v2 : Nat) (a : Nat) (ls : tm_Lo) (st : List Value) (h : tm_H) (K : Option Value → tm_H → Prop) : tm_A (d + 1) 110 29 ls (.ref v2 :: .ref v1 :: .ref a :: st) h K ↔ (h.1.2.2 a = (0, 6) ∧ tm_cs st) ∧ tm_R d 60 [.ref a, .ref v1, .ref v2] h (fun r h' => tm_A (d + 1) 110 32 ls (r.toList ++ st) h' K) := tm_callV (as := [.ref v1, .ref v2]) o110_29 rfl rfl rfl rfl
theorem o110_32 : tm_op 110 32 = some (.aload_n 0, (0, 0, 0, 0)) := rfl
theorem r110_32 (d : Nat) (v : Nat) (l1 : Option Value) (st : List Value) (h : tm_H) (K : Option Value → tm_H → Prop) : tm_A d 110 32 [some (.ref v), l1] st h K ↔ tm_A d 110 33 [some (.ref v), l1] (.ref v :: st) h K := tm_s o110_32 rfl rfl rfl
theorem o110_33 : tm_op 110 33 = some (.getfield 47, (2, 9, 5, 0)) := rfl
theorem r110_33 (d : Nat) (a : Nat) (ls : tm_Lo) (st : List Value) (G : tm_G) (I : Nat → Nat → Int32) (J : Nat → Nat → Int64) (R : Nat → Nat → Option Nat) (K : Option Value → tm_H → Prop) : tm_A d 110 33 ls (.ref a :: st) (G, I, J, R) K ↔ G.2.2 a = (0, 9) ∧ tm_A d 110 36 ls (tm_rf (R a 5) :: st) (G, I, J, R) K := tm_getR o110_33
theorem o110_36 : tm_op 110 36 = some (.aload_n 0, (0, 0, 0, 0)) := rfl
theorem r110_36 (d : Nat) (v : Nat) (l1 : Option Value) (st : List Value) (h : tm_H) (K : Option Value → tm_H → Prop) : tm_A d 110 36 [some (.ref v), l1] st h K ↔ tm_A d 110 37 [some (.ref v), l1] (.ref v :: st) h K := tm_s o110_36 rfl rfl rfl
theorem o110_37 : tm_op 110 37 = some (.getfield 40, (2, 9, 4, 0)) := rfl
theorem r110_37 (d : Nat) (a : Nat) (ls : tm_Lo) (st : List Value) (G : tm_G) (I : Nat → Nat → Int32) (J : Nat → Nat → Int64) (R : Nat → Nat → Option Nat) (K : Option Value → tm_H → Prop) : tm_A d 110 37 ls (.ref a :: st) (G, I, J, R) K ↔ G.2.2 a = (0, 9) ∧ tm_A d 110 40 ls (tm_rf (R a 4) :: st) (G, I, J, R) K := tm_getR o110_37
theorem o110_40 : tm_op 110 40 = some (.aload_n 0, (0, 0, 0, 0)) := rfl
theorem r110_40 (d : Nat) (v : Nat) (l1 : Option Value) (st : List Value) (h : tm_H) (K : Option Value → tm_H → Prop) : tm_A d 110 40 [some (.ref v), l1] st h K ↔ tm_A d 110 41 [some (.ref v), l1] (.ref v :: st) h K := tm_s o110_40 rfl rfl rfl
theorem o110_41 : tm_op 110 41 = some (.getfield 26, (2, 9, 2, 0)) := rfl
theorem r110_41 (d : Nat) (a : Nat) (ls : tm_Lo) (st : List Value) (G : tm_G) (I : Nat → Nat → Int32) (J : Nat → Nat → Int64) (R : Nat → Nat → Option Nat) (K : Option Value → tm_H → Prop) : tm_A d 110 41 ls (.ref a :: st) (G, I, J, R) K ↔ G.2.2 a = (0, 9) ∧ tm_A d 110 44 ls (tm_rf (R a 2) :: st) (G, I, J, R) K := tm_getR o110_41
theorem o110_44 : tm_op 110 44 = some (.invokevirtual 173, (2, 42, 1, 4)) := rfl
theorem r110_44 (d : Nat) (a : Nat) (ls : tm_Lo) (st : List Value) (h : tm_H) (K : Option Value → tm_H → Prop) : tm_A (d + 1) 110 44 ls (.ref a :: st) h K ↔ (h.1.2.2 a = (0, 4) ∧ tm_cs st) ∧ tm_R d 42 [.ref a] h (fun r h' => tm_A (d + 1) 110 47 ls (r.toList ++ st) h' K) := tm_callV (as := []) o110_44 rfl rfl rfl rfl
theorem o110_47 : tm_op 110 47 = some (.aload_n 0, (0, 0, 0, 0)) := rfl
theorem r110_47 (d : Nat) (v : Nat) (l1 : Option Value) (st : List Value) (h : tm_H) (K : Option Value → tm_H → Prop) : tm_A d 110 47 [some (.ref v), l1] st h K ↔ tm_A d 110 48 [some (.ref v), l1] (.ref v :: st) h K := tm_s o110_47 rfl rfl rfl
theorem o110_48 : tm_op 110 48 = some (.getfield 62, (0, 9, 8, 0)) := rfl
theorem r110_48 (d : Nat) (a : Nat) (ls : tm_Lo) (st : List Value) (G : tm_G) (I : Nat → Nat → Int32) (J : Nat → Nat → Int64) (R : Nat → Nat → Option Nat) (K : Option Value → tm_H → Prop) : tm_A d 110 48 ls (.ref a :: st) (G, I, J, R) K ↔ G.2.2 a = (0, 9) ∧ tm_A d 110 51 ls (.int (I a 8) :: st) (G, I, J, R) K := tm_getI o110_48
theorem o110_51 : tm_op 110 51 = some (.invokevirtual 198, (2, 23, 4, 2)) := rfl
theorem r110_51 (d : Nat) (v1 : Nat) (v2 : Int32) (v3 : Int32) (a : Nat) (ls : tm_Lo) (st : List Value) (h : tm_H) (K : Option Value → tm_H → Prop) : tm_A (d + 1) 110 51 ls (.int v3 :: .int v2 :: .ref v1 :: .ref a :: st) h K ↔ (h.1.2.2 a = (0, 2) ∧ tm_cs st) ∧ tm_R d 23 [.ref a, .ref v1, .int v2, .int v3] h (fun r h' => tm_A (d + 1) 110 54 ls (r.toList ++ st) h' K) := tm_callV (as := [.ref v1, .int v2, .int v3]) o110_51 rfl rfl rfl rfl
theorem o110_54 : tm_op 110 54 = some (.aload_n 0, (0, 0, 0, 0)) := rfl
theorem r110_54 (d : Nat) (v : Nat) (l1 : Option Value) (st : List Value) (h : tm_H) (K : Option Value → tm_H → Prop) : tm_A d 110 54 [some (.ref v), l1] st h K ↔ tm_A d 110 55 [some (.ref v), l1] (.ref v :: st) h K := tm_s o110_54 rfl rfl rfl
theorem o110_55 : tm_op 110 55 = some (.iconst 1, (0, 0, 0, 0)) := rfl
theorem r110_55 (d : Nat) (ls : tm_Lo) (st : List Value) (h : tm_H) (K : Option Value → tm_H → Prop) : tm_A d 110 55 ls st h K ↔ tm_A d 110 56 ls (.int (1 : Int32) :: st) h K := tm_ic o110_55 (by decide)
theorem o110_56 : tm_op 110 56 = some (.putfield 71, (3, 9, 11, 0)) := rfl
theorem r110_56 (d : Nat) (v : Int32) (a : Nat) (ls : tm_Lo) (st : List Value) (G : tm_G) (I : Nat → Nat → Int32) (J : Nat → Nat → Int64) (R : Nat → Nat → Option Nat) (K : Option Value → tm_H → Prop) : tm_A d 110 56 ls (.int v :: .ref a :: st) (G, I, J, R) K ↔ (G.2.2 a = (0, 9) ∧ (v = 0 ∨ v = 1)) ∧ tm_A d 110 59 ls st (G, up2 I a 11 v, J, R) K := tm_putZ o110_56
theorem o110_59 : tm_op 110 59 = some (.aload_n 0, (0, 0, 0, 0)) := rfl
theorem r110_59 (d : Nat) (v : Nat) (l1 : Option Value) (st : List Value) (h : tm_H) (K : Option Value → tm_H → Prop) : tm_A d 110 59 [some (.ref v), l1] st h K ↔ tm_A d 110 60 [some (.ref v), l1] (.ref v :: st) h K := tm_s o110_59 rfl rfl rfl
theorem o110_60 : tm_op 110 60 = some (.getfield 47, (2, 9, 5, 0)) := rfl
theorem r110_60 (d : Nat) (a : Nat) (ls : tm_Lo) (st : List Value) (G : tm_G) (I : Nat → Nat → Int32) (J : Nat → Nat → Int64) (R : Nat → Nat → Option Nat) (K : Option Value → tm_H → Prop) : tm_A d 110 60 ls (.ref a :: st) (G, I, J, R) K ↔ G.2.2 a = (0, 9) ∧ tm_A d 110 63 ls (tm_rf (R a 5) :: st) (G, I, J, R) K := tm_getR o110_60
theorem o110_63 : tm_op 110 63 = some (.invokevirtual 202, (2, 29, 1, 2)) := rfl
theorem r110_63 (d : Nat) (a : Nat) (ls : tm_Lo) (st : List Value) (h : tm_H) (K : Option Value → tm_H → Prop) : tm_A (d + 1) 110 63 ls (.ref a :: st) h K ↔ (h.1.2.2 a = (0, 2) ∧ tm_cs st) ∧ tm_R d 29 [.ref a] h (fun r h' => tm_A (d + 1) 110 66 ls (r.toList ++ st) h' K) := tm_callV (as := []) o110_63 rfl rfl rfl rfl
theorem o110_66 : tm_op 110 66 = some (.ireturn, (0, 0, 0, 0)) := rfl
theorem r110_66 (d : Nat) (v : Int32) (ls : tm_Lo) (h : tm_H) (K : Option Value → tm_H → Prop) : tm_A d 110 66 ls [.int v] h K ↔ (v = 0 ∨ v = 1) ∧ K (some (.int v)) h := tm_retz o110_66 rfl
theorem o111_0 : tm_op 111 0 = some (.aload_n 0, (0, 0, 0, 0)) := rfl
theorem r111_0 (d : Nat) (v : Nat) (l1 : Option Value) (st : List Value) (h : tm_H) (K : Option Value → tm_H → Prop) : tm_A d 111 0 [some (.ref v), l1] st h K ↔ tm_A d 111 1 [some (.ref v), l1] (.ref v :: st) h K := tm_s o111_0 rfl rfl rfl
theorem o111_1 : tm_op 111 1 = some (.iload_n 1, (0, 0, 0, 0)) := rfl
theorem r111_1 (d : Nat) (v : Int32) (l0 : Option Value) (st : List Value) (h : tm_H) (K : Option Value → tm_H → Prop) : tm_A d 111 1 [l0, some (.int v)] st h K ↔ tm_A d 111 2 [l0, some (.int v)] (.int v :: st) h K := tm_s o111_1 rfl rfl rfl
theorem o111_2 : tm_op 111 2 = some (.invokevirtual 125, (2, 109, 2, 9)) := rfl
theorem r111_2 (d : Nat) (v1 : Int32) (a : Nat) (ls : tm_Lo) (st : List Value) (h : tm_H) (K : Option Value → tm_H → Prop) : tm_A (d + 1) 111 2 ls (.int v1 :: .ref a :: st) h K ↔ (h.1.2.2 a = (0, 9) ∧ tm_cs st) ∧ tm_R d 109 [.ref a, .int v1] h (fun r h' => tm_A (d + 1) 111 5 ls (r.toList ++ st) h' K) := tm_callV (as := [.int v1]) o111_2 rfl rfl rfl rfl
theorem o111_5 : tm_op 111 5 = some (.ifCond .ne 5, (0, 0, 0, 0)) := rfl
theorem r111_5 (d : Nat) (x : Int32) (ls : tm_Lo) (st : List Value) (h : tm_H) (K : Option Value → tm_H → Prop) : tm_A d 111 5 ls (.int x :: st) h K ↔ if ¬ x = 0 then tm_A d 111 10 ls st h K else tm_A d 111 8 ls st h K := tm_b o111_5 rfl rfl rfl rfl
theorem o111_8 : tm_op 111 8 = some (.iconst 0, (0, 0, 0, 0)) := rfl
theorem r111_8 (d : Nat) (ls : tm_Lo) (st : List Value) (h : tm_H) (K : Option Value → tm_H → Prop) : tm_A d 111 8 ls st h K ↔ tm_A d 111 9 ls (.int (0 : Int32) :: st) h K := tm_ic o111_8 (by decide)
theorem o111_9 : tm_op 111 9 = some (.ireturn, (0, 0, 0, 0)) := rfl
theorem r111_9 (d : Nat) (v : Int32) (ls : tm_Lo) (h : tm_H) (K : Option Value → tm_H → Prop) : tm_A d 111 9 ls [.int v] h K ↔ (v = 0 ∨ v = 1) ∧ K (some (.int v)) h := tm_retz o111_9 rfl
theorem o111_10 : tm_op 111 10 = some (.aload_n 0, (0, 0, 0, 0)) := rfl
theorem r111_10 (d : Nat) (v : Nat) (l1 : Option Value) (st : List Value) (h : tm_H) (K : Option Value → tm_H → Prop) : tm_A d 111 10 [some (.ref v), l1] st h K ↔ tm_A d 111 11 [some (.ref v), l1] (.ref v :: st) h K := tm_s o111_10 rfl rfl rfl
theorem o111_11 : tm_op 111 11 = some (.getfield 75, (3, 9, 12, 0)) := rfl
theorem r111_11 (d : Nat) (a : Nat) (ls : tm_Lo) (st : List Value) (G : tm_G) (I : Nat → Nat → Int32) (J : Nat → Nat → Int64) (R : Nat → Nat → Option Nat) (K : Option Value → tm_H → Prop) : tm_A d 111 11 ls (.ref a :: st) (G, I, J, R) K ↔ G.2.2 a = (0, 9) ∧ tm_A d 111 14 ls (.int (I a 12) :: st) (G, I, J, R) K := tm_getZ o111_11
theorem o111_14 : tm_op 111 14 = some (.ifCond .ne 23, (0, 0, 0, 0)) := rfl
theorem r111_14 (d : Nat) (x : Int32) (ls : tm_Lo) (st : List Value) (h : tm_H) (K : Option Value → tm_H → Prop) : tm_A d 111 14 ls (.int x :: st) h K ↔ if ¬ x = 0 then tm_A d 111 37 ls st h K else tm_A d 111 17 ls st h K := tm_b o111_14 rfl rfl rfl rfl
theorem o111_17 : tm_op 111 17 = some (.aload_n 0, (0, 0, 0, 0)) := rfl
theorem r111_17 (d : Nat) (v : Nat) (l1 : Option Value) (st : List Value) (h : tm_H) (K : Option Value → tm_H → Prop) : tm_A d 111 17 [some (.ref v), l1] st h K ↔ tm_A d 111 18 [some (.ref v), l1] (.ref v :: st) h K := tm_s o111_17 rfl rfl rfl
theorem o111_18 : tm_op 111 18 = some (.getfield 54, (2, 9, 6, 0)) := rfl
theorem r111_18 (d : Nat) (a : Nat) (ls : tm_Lo) (st : List Value) (G : tm_G) (I : Nat → Nat → Int32) (J : Nat → Nat → Int64) (R : Nat → Nat → Option Nat) (K : Option Value → tm_H → Prop) : tm_A d 111 18 ls (.ref a :: st) (G, I, J, R) K ↔ G.2.2 a = (0, 9) ∧ tm_A d 111 21 ls (tm_rf (R a 6) :: st) (G, I, J, R) K := tm_getR o111_18
theorem o111_21 : tm_op 111 21 = some (.aload_n 0, (0, 0, 0, 0)) := rfl
theorem r111_21 (d : Nat) (v : Nat) (l1 : Option Value) (st : List Value) (h : tm_H) (K : Option Value → tm_H → Prop) : tm_A d 111 21 [some (.ref v), l1] st h K ↔ tm_A d 111 22 [some (.ref v), l1] (.ref v :: st) h K := tm_s o111_21 rfl rfl rfl
theorem o111_22 : tm_op 111 22 = some (.getfield 26, (2, 9, 2, 0)) := rfl
theorem r111_22 (d : Nat) (a : Nat) (ls : tm_Lo) (st : List Value) (G : tm_G) (I : Nat → Nat → Int32) (J : Nat → Nat → Int64) (R : Nat → Nat → Option Nat) (K : Option Value → tm_H → Prop) : tm_A d 111 22 ls (.ref a :: st) (G, I, J, R) K ↔ G.2.2 a = (0, 9) ∧ tm_A d 111 25 ls (tm_rf (R a 2) :: st) (G, I, J, R) K := tm_getR o111_22
theorem o111_25 : tm_op 111 25 = some (.aload_n 0, (0, 0, 0, 0)) := rfl
theorem r111_25 (d : Nat) (v : Nat) (l1 : Option Value) (st : List Value) (h : tm_H) (K : Option Value → tm_H → Prop) : tm_A d 111 25 [some (.ref v), l1] st h K ↔ tm_A d 111 26 [some (.ref v), l1] (.ref v :: st) h K := tm_s o111_25 rfl rfl rfl
theorem o111_26 : tm_op 111 26 = some (.getfield 65, (0, 9, 9, 0)) := rfl
theorem r111_26 (d : Nat) (a : Nat) (ls : tm_Lo) (st : List Value) (G : tm_G) (I : Nat → Nat → Int32) (J : Nat → Nat → Int64) (R : Nat → Nat → Option Nat) (K : Option Value → tm_H → Prop) : tm_A d 111 26 ls (.ref a :: st) (G, I, J, R) K ↔ G.2.2 a = (0, 9) ∧ tm_A d 111 29 ls (.int (I a 9) :: st) (G, I, J, R) K := tm_getI o111_26
theorem o111_29 : tm_op 111 29 = some (.invokevirtual 206, (2, 14, 3, 1)) := rfl
theorem r111_29 (d : Nat) (v1 : Nat) (v2 : Int32) (a : Nat) (ls : tm_Lo) (st : List Value) (h : tm_H) (K : Option Value → tm_H → Prop) : tm_A (d + 1) 111 29 ls (.int v2 :: .ref v1 :: .ref a :: st) h K ↔ (h.1.2.2 a = (0, 1) ∧ tm_cs st) ∧ tm_R d 14 [.ref a, .ref v1, .int v2] h (fun r h' => tm_A (d + 1) 111 32 ls (r.toList ++ st) h' K) := tm_callV (as := [.ref v1, .int v2]) o111_29 rfl rfl rfl rfl
theorem o111_32 : tm_op 111 32 = some (.aload_n 0, (0, 0, 0, 0)) := rfl
theorem r111_32 (d : Nat) (v : Nat) (l1 : Option Value) (st : List Value) (h : tm_H) (K : Option Value → tm_H → Prop) : tm_A d 111 32 [some (.ref v), l1] st h K ↔ tm_A d 111 33 [some (.ref v), l1] (.ref v :: st) h K := tm_s o111_32 rfl rfl rfl
theorem o111_33 : tm_op 111 33 = some (.iconst 1, (0, 0, 0, 0)) := rfl
theorem r111_33 (d : Nat) (ls : tm_Lo) (st : List Value) (h : tm_H) (K : Option Value → tm_H → Prop) : tm_A d 111 33 ls st h K ↔ tm_A d 111 34 ls (.int (1 : Int32) :: st) h K := tm_ic o111_33 (by decide)
theorem o111_34 : tm_op 111 34 = some (.putfield 75, (3, 9, 12, 0)) := rfl
theorem r111_34 (d : Nat) (v : Int32) (a : Nat) (ls : tm_Lo) (st : List Value) (G : tm_G) (I : Nat → Nat → Int32) (J : Nat → Nat → Int64) (R : Nat → Nat → Option Nat) (K : Option Value → tm_H → Prop) : tm_A d 111 34 ls (.int v :: .ref a :: st) (G, I, J, R) K ↔ (G.2.2 a = (0, 9) ∧ (v = 0 ∨ v = 1)) ∧ tm_A d 111 37 ls st (G, up2 I a 12 v, J, R) K := tm_putZ o111_34
theorem o111_37 : tm_op 111 37 = some (.iconst 1, (0, 0, 0, 0)) := rfl
theorem r111_37 (d : Nat) (ls : tm_Lo) (st : List Value) (h : tm_H) (K : Option Value → tm_H → Prop) : tm_A d 111 37 ls st h K ↔ tm_A d 111 38 ls (.int (1 : Int32) :: st) h K := tm_ic o111_37 (by decide)
theorem o111_38 : tm_op 111 38 = some (.ireturn, (0, 0, 0, 0)) := rfl
theorem r111_38 (d : Nat) (v : Int32) (ls : tm_Lo) (h : tm_H) (K : Option Value → tm_H → Prop) : tm_A d 111 38 ls [.int v] h K ↔ (v = 0 ∨ v = 1) ∧ K (some (.int v)) h := tm_retz o111_38 rfl
theorem o112_0 : tm_op 112 0 = some (.iconst (-1), (0, 0, 0, 0)) := rfl
theorem r112_0 (d : Nat) (ls : tm_Lo) (st : List Value) (h : tm_H) (K : Option Value → tm_H → Prop) : tm_A d 112 0 ls st h K ↔ tm_A d 112 1 ls (.int (-1 : Int32) :: st) h K := tm_ic o112_0 (by decide)
theorem o112_1 : tm_op 112 1 = some (.istore_n 3, (0, 0, 0, 0)) := rfl
theorem r112_1 (d : Nat) (v : Int32) (l0 l1 l2 l3 l4 l5 : Option Value) (st : List Value) (h : tm_H) (K : Option Value → tm_H → Prop) : tm_A d 112 1 [l0, l1, l2, l3, l4, l5] (.int v :: st) h K ↔ tm_A d 112 2 [l0, l1, l2, some (.int v), l4, l5] st h K := tm_s o112_1 rfl rfl rfl
theorem o112_2 : tm_op 112 2 = some (.iload_n 1, (0, 0, 0, 0)) := rfl
theorem r112_2 (d : Nat) (v : Int32) (l0 l2 l3 l4 l5 : Option Value) (st : List Value) (h : tm_H) (K : Option Value → tm_H → Prop) : tm_A d 112 2 [l0, some (.int v), l2, l3, l4, l5] st h K ↔ tm_A d 112 3 [l0, some (.int v), l2, l3, l4, l5] (.int v :: st) h K := tm_s o112_2 rfl rfl rfl
theorem o112_3 : tm_op 112 3 = some (.istore 4, (0, 0, 0, 0)) := rfl
theorem r112_3 (d : Nat) (v : Int32) (l0 l1 l2 l3 l4 l5 : Option Value) (st : List Value) (h : tm_H) (K : Option Value → tm_H → Prop) : tm_A d 112 3 [l0, l1, l2, l3, l4, l5] (.int v :: st) h K ↔ tm_A d 112 5 [l0, l1, l2, l3, some (.int v), l5] st h K := tm_s o112_3 rfl rfl rfl
theorem o112_5 : tm_op 112 5 = some (.iload 4, (0, 0, 0, 0)) := rfl
theorem r112_5 (d : Nat) (v : Int32) (l0 l1 l2 l3 l5 : Option Value) (st : List Value) (h : tm_H) (K : Option Value → tm_H → Prop) : tm_A d 112 5 [l0, l1, l2, l3, some (.int v), l5] st h K ↔ tm_A d 112 7 [l0, l1, l2, l3, some (.int v), l5] (.int v :: st) h K := tm_s o112_5 rfl rfl rfl
theorem o112_7 : tm_op 112 7 = some (.aload_n 0, (0, 0, 0, 0)) := rfl
theorem r112_7 (d : Nat) (v : Nat) (l1 l2 l3 l4 l5 : Option Value) (st : List Value) (h : tm_H) (K : Option Value → tm_H → Prop) : tm_A d 112 7 [some (.ref v), l1, l2, l3, l4, l5] st h K ↔ tm_A d 112 8 [some (.ref v), l1, l2, l3, l4, l5] (.ref v :: st) h K := tm_s o112_7 rfl rfl rfl
theorem o112_8 : tm_op 112 8 = some (.getfield 26, (2, 9, 2, 0)) := rfl
theorem r112_8 (d : Nat) (a : Nat) (ls : tm_Lo) (st : List Value) (G : tm_G) (I : Nat → Nat → Int32) (J : Nat → Nat → Int64) (R : Nat → Nat → Option Nat) (K : Option Value → tm_H → Prop) : tm_A d 112 8 ls (.ref a :: st) (G, I, J, R) K ↔ G.2.2 a = (0, 9) ∧ tm_A d 112 11 ls (tm_rf (R a 2) :: st) (G, I, J, R) K := tm_getR o112_8
theorem o112_11 : tm_op 112 11 = some (.invokevirtual 173, (2, 42, 1, 4)) := rfl
theorem r112_11 (d : Nat) (a : Nat) (ls : tm_Lo) (st : List Value) (h : tm_H) (K : Option Value → tm_H → Prop) : tm_A (d + 1) 112 11 ls (.ref a :: st) h K ↔ (h.1.2.2 a = (0, 4) ∧ tm_cs st) ∧ tm_R d 42 [.ref a] h (fun r h' => tm_A (d + 1) 112 14 ls (r.toList ++ st) h' K) := tm_callV (as := []) o112_11 rfl rfl rfl rfl
theorem o112_14 : tm_op 112 14 = some (.if_icmp .ge 67, (0, 0, 0, 0)) := rfl
theorem r112_14 (d : Nat) (y x : Int32) (ls : tm_Lo) (st : List Value) (h : tm_H) (K : Option Value → tm_H → Prop) : tm_A d 112 14 ls (.int y :: .int x :: st) h K ↔ if y ≤ x then tm_A d 112 81 ls st h K else tm_A d 112 17 ls st h K := tm_b o112_14 rfl rfl rfl rfl
theorem o112_17 : tm_op 112 17 = some (.aload_n 0, (0, 0, 0, 0)) := rfl
theorem r112_17 (d : Nat) (v : Nat) (l1 l2 l3 l4 l5 : Option Value) (st : List Value) (h : tm_H) (K : Option Value → tm_H → Prop) : tm_A d 112 17 [some (.ref v), l1, l2, l3, l4, l5] st h K ↔ tm_A d 112 18 [some (.ref v), l1, l2, l3, l4, l5] (.ref v :: st) h K := tm_s o112_17 rfl rfl rfl
theorem o112_18 : tm_op 112 18 = some (.getfield 47, (2, 9, 5, 0)) := rfl
theorem r112_18 (d : Nat) (a : Nat) (ls : tm_Lo) (st : List Value) (G : tm_G) (I : Nat → Nat → Int32) (J : Nat → Nat → Int64) (R : Nat → Nat → Option Nat) (K : Option Value → tm_H → Prop) : tm_A d 112 18 ls (.ref a :: st) (G, I, J, R) K ↔ G.2.2 a = (0, 9) ∧ tm_A d 112 21 ls (tm_rf (R a 5) :: st) (G, I, J, R) K := tm_getR o112_18
theorem o112_21 : tm_op 112 21 = some (.iload 4, (0, 0, 0, 0)) := rfl
theorem r112_21 (d : Nat) (v : Int32) (l0 l1 l2 l3 l5 : Option Value) (st : List Value) (h : tm_H) (K : Option Value → tm_H → Prop) : tm_A d 112 21 [l0, l1, l2, l3, some (.int v), l5] st h K ↔ tm_A d 112 23 [l0, l1, l2, l3, some (.int v), l5] (.int v :: st) h K := tm_s o112_21 rfl rfl rfl
theorem o112_23 : tm_op 112 23 = some (.invokevirtual 151, (2, 31, 2, 2)) := rfl
theorem r112_23 (d : Nat) (v1 : Int32) (a : Nat) (ls : tm_Lo) (st : List Value) (h : tm_H) (K : Option Value → tm_H → Prop) : tm_A (d + 1) 112 23 ls (.int v1 :: .ref a :: st) h K ↔ (h.1.2.2 a = (0, 2) ∧ tm_cs st) ∧ tm_R d 31 [.ref a, .int v1] h (fun r h' => tm_A (d + 1) 112 26 ls (r.toList ++ st) h' K) := tm_callV (as := [.int v1]) o112_23 rfl rfl rfl rfl
theorem o112_26 : tm_op 112 26 = some (.iload_n 1, (0, 0, 0, 0)) := rfl
theorem r112_26 (d : Nat) (v : Int32) (l0 l2 l3 l4 l5 : Option Value) (st : List Value) (h : tm_H) (K : Option Value → tm_H → Prop) : tm_A d 112 26 [l0, some (.int v), l2, l3, l4, l5] st h K ↔ tm_A d 112 27 [l0, some (.int v), l2, l3, l4, l5] (.int v :: st) h K := tm_s o112_26 rfl rfl rfl
theorem o112_27 : tm_op 112 27 = some (.if_icmp .ne 16, (0, 0, 0, 0)) := rfl
theorem r112_27 (d : Nat) (y x : Int32) (ls : tm_Lo) (st : List Value) (h : tm_H) (K : Option Value → tm_H → Prop) : tm_A d 112 27 ls (.int y :: .int x :: st) h K ↔ if ¬ x = y then tm_A d 112 43 ls st h K else tm_A d 112 30 ls st h K := tm_b o112_27 rfl rfl rfl rfl
theorem o112_30 : tm_op 112 30 = some (.aload_n 0, (0, 0, 0, 0)) := rfl
theorem r112_30 (d : Nat) (v : Nat) (l1 l2 l3 l4 l5 : Option Value) (st : List Value) (h : tm_H) (K : Option Value → tm_H → Prop) : tm_A d 112 30 [some (.ref v), l1, l2, l3, l4, l5] st h K ↔ tm_A d 112 31 [some (.ref v), l1, l2, l3, l4, l5] (.ref v :: st) h K := tm_s o112_30 rfl rfl rfl
theorem o112_31 : tm_op 112 31 = some (.getfield 26, (2, 9, 2, 0)) := rfl
theorem r112_31 (d : Nat) (a : Nat) (ls : tm_Lo) (st : List Value) (G : tm_G) (I : Nat → Nat → Int32) (J : Nat → Nat → Int64) (R : Nat → Nat → Option Nat) (K : Option Value → tm_H → Prop) : tm_A d 112 31 ls (.ref a :: st) (G, I, J, R) K ↔ G.2.2 a = (0, 9) ∧ tm_A d 112 34 ls (tm_rf (R a 2) :: st) (G, I, J, R) K := tm_getR o112_31
theorem o112_34 : tm_op 112 34 = some (.iload 4, (0, 0, 0, 0)) := rfl
theorem r112_34 (d : Nat) (v : Int32) (l0 l1 l2 l3 l5 : Option Value) (st : List Value) (h : tm_H) (K : Option Value → tm_H → Prop) : tm_A d 112 34 [l0, l1, l2, l3, some (.int v), l5] st h K ↔ tm_A d 112 36 [l0, l1, l2, l3, some (.int v), l5] (.int v :: st) h K := tm_s o112_34 rfl rfl rfl
theorem o112_36 : tm_op 112 36 = some (.iload_n 2, (0, 0, 0, 0)) := rfl
theorem r112_36 (d : Nat) (v : Int32) (l0 l1 l3 l4 l5 : Option Value) (st : List Value) (h : tm_H) (K : Option Value → tm_H → Prop) : tm_A d 112 36 [l0, l1, some (.int v), l3, l4, l5] st h K ↔ tm_A d 112 37 [l0, l1, some (.int v), l3, l4, l5] (.int v :: st) h K := tm_s o112_36 rfl rfl rfl
theorem o112_37 : tm_op 112 37 = some (.invokevirtual 128, (2, 44, 3, 4)) := rfl
theorem r112_37 (d : Nat) (v1 : Int32) (v2 : Int32) (a : Nat) (ls : tm_Lo) (st : List Value) (h : tm_H) (K : Option Value → tm_H → Prop) : tm_A (d + 1) 112 37 ls (.int v2 :: .int v1 :: .ref a :: st) h K ↔ (h.1.2.2 a = (0, 4) ∧ tm_cs st) ∧ tm_R d 44 [.ref a, .int v1, .int v2] h (fun r h' => tm_A (d + 1) 112 40 ls (r.toList ++ st) h' K) := tm_callV (as := [.int v1, .int v2]) o112_37 rfl rfl rfl rfl
theorem o112_40 : tm_op 112 40 = some (.goto 4, (0, 0, 0, 0)) := rfl
theorem r112_40 (d : Nat) (ls : tm_Lo) (st : List Value) (h : tm_H) (K : Option Value → tm_H → Prop) : tm_A d 112 40 ls st h K ↔ tm_A d 112 44 ls st h K := tm_s o112_40 rfl rfl rfl
theorem o112_43 : tm_op 112 43 = some (.iconst (-1), (0, 0, 0, 0)) := rfl
theorem r112_43 (d : Nat) (ls : tm_Lo) (st : List Value) (h : tm_H) (K : Option Value → tm_H → Prop) : tm_A d 112 43 ls st h K ↔ tm_A d 112 44 ls (.int (-1 : Int32) :: st) h K := tm_ic o112_43 (by decide)
theorem o112_44 : tm_op 112 44 = some (.istore 5, (0, 0, 0, 0)) := rfl
theorem r112_44 (d : Nat) (v : Int32) (l0 l1 l2 l3 l4 l5 : Option Value) (st : List Value) (h : tm_H) (K : Option Value → tm_H → Prop) : tm_A d 112 44 [l0, l1, l2, l3, l4, l5] (.int v :: st) h K ↔ tm_A d 112 46 [l0, l1, l2, l3, l4, some (.int v)] st h K := tm_s o112_44 rfl rfl rfl
theorem o112_46 : tm_op 112 46 = some (.iload 5, (0, 0, 0, 0)) := rfl
theorem r112_46 (d : Nat) (v : Int32) (l0 l1 l2 l3 l4 : Option Value) (st : List Value) (h : tm_H) (K : Option Value → tm_H → Prop) : tm_A d 112 46 [l0, l1, l2, l3, l4, some (.int v)] st h K ↔ tm_A d 112 48 [l0, l1, l2, l3, l4, some (.int v)] (.int v :: st) h K := tm_s o112_46 rfl rfl rfl
theorem o112_48 : tm_op 112 48 = some (.iconst (-1), (0, 0, 0, 0)) := rfl
theorem r112_48 (d : Nat) (ls : tm_Lo) (st : List Value) (h : tm_H) (K : Option Value → tm_H → Prop) : tm_A d 112 48 ls st h K ↔ tm_A d 112 49 ls (.int (-1 : Int32) :: st) h K := tm_ic o112_48 (by decide)
theorem o112_49 : tm_op 112 49 = some (.if_icmp .eq 17, (0, 0, 0, 0)) := rfl
theorem r112_49 (d : Nat) (y x : Int32) (ls : tm_Lo) (st : List Value) (h : tm_H) (K : Option Value → tm_H → Prop) : tm_A d 112 49 ls (.int y :: .int x :: st) h K ↔ if x = y then tm_A d 112 66 ls st h K else tm_A d 112 52 ls st h K := tm_b o112_49 rfl rfl rfl rfl
theorem o112_52 : tm_op 112 52 = some (.iload_n 3, (0, 0, 0, 0)) := rfl
theorem r112_52 (d : Nat) (v : Int32) (l0 l1 l2 l4 l5 : Option Value) (st : List Value) (h : tm_H) (K : Option Value → tm_H → Prop) : tm_A d 112 52 [l0, l1, l2, some (.int v), l4, l5] st h K ↔ tm_A d 112 53 [l0, l1, l2, some (.int v), l4, l5] (.int v :: st) h K := tm_s o112_52 rfl rfl rfl
theorem o112_53 : tm_op 112 53 = some (.iconst (-1), (0, 0, 0, 0)) := rfl
theorem r112_53 (d : Nat) (ls : tm_Lo) (st : List Value) (h : tm_H) (K : Option Value → tm_H → Prop) : tm_A d 112 53 ls st h K ↔ tm_A d 112 54 ls (.int (-1 : Int32) :: st) h K := tm_ic o112_53 (by decide)
theorem o112_54 : tm_op 112 54 = some (.if_icmp .eq 12, (0, 0, 0, 0)) := rfl
theorem r112_54 (d : Nat) (y x : Int32) (ls : tm_Lo) (st : List Value) (h : tm_H) (K : Option Value → tm_H → Prop) : tm_A d 112 54 ls (.int y :: .int x :: st) h K ↔ if x = y then tm_A d 112 66 ls st h K else tm_A d 112 57 ls st h K := tm_b o112_54 rfl rfl rfl rfl
theorem o112_57 : tm_op 112 57 = some (.iload 5, (0, 0, 0, 0)) := rfl
theorem r112_57 (d : Nat) (v : Int32) (l0 l1 l2 l3 l4 : Option Value) (st : List Value) (h : tm_H) (K : Option Value → tm_H → Prop) : tm_A d 112 57 [l0, l1, l2, l3, l4, some (.int v)] st h K ↔ tm_A d 112 59 [l0, l1, l2, l3, l4, some (.int v)] (.int v :: st) h K := tm_s o112_57 rfl rfl rfl
theorem o112_59 : tm_op 112 59 = some (.iload_n 3, (0, 0, 0, 0)) := rfl
theorem r112_59 (d : Nat) (v : Int32) (l0 l1 l2 l4 l5 : Option Value) (st : List Value) (h : tm_H) (K : Option Value → tm_H → Prop) : tm_A d 112 59 [l0, l1, l2, some (.int v), l4, l5] st h K ↔ tm_A d 112 60 [l0, l1, l2, some (.int v), l4, l5] (.int v :: st) h K := tm_s o112_59 rfl rfl rfl
theorem o112_60 : tm_op 112 60 = some (.if_icmp .eq 6, (0, 0, 0, 0)) := rfl
theorem r112_60 (d : Nat) (y x : Int32) (ls : tm_Lo) (st : List Value) (h : tm_H) (K : Option Value → tm_H → Prop) : tm_A d 112 60 ls (.int y :: .int x :: st) h K ↔ if x = y then tm_A d 112 66 ls st h K else tm_A d 112 63 ls st h K := tm_b o112_60 rfl rfl rfl rfl
theorem o112_63 : tm_op 112 63 = some (.bipush (-2), (0, 0, 0, 0)) := rfl
theorem r112_63 (d : Nat) (ls : tm_Lo) (st : List Value) (h : tm_H) (K : Option Value → tm_H → Prop) : tm_A d 112 63 ls st h K ↔ tm_A d 112 65 ls (.int (-2 : Int32) :: st) h K := tm_bp o112_63 (by decide)
theorem o112_65 : tm_op 112 65 = some (.ireturn, (0, 0, 0, 0)) := rfl
theorem r112_65 (d : Nat) (v : Int32) (ls : tm_Lo) (h : tm_H) (K : Option Value → tm_H → Prop) : tm_A d 112 65 ls [.int v] h K ↔ K (some (.int v)) h := tm_reti o112_65 rfl
theorem o112_66 : tm_op 112 66 = some (.iload 5, (0, 0, 0, 0)) := rfl
theorem r112_66 (d : Nat) (v : Int32) (l0 l1 l2 l3 l4 : Option Value) (st : List Value) (h : tm_H) (K : Option Value → tm_H → Prop) : tm_A d 112 66 [l0, l1, l2, l3, l4, some (.int v)] st h K ↔ tm_A d 112 68 [l0, l1, l2, l3, l4, some (.int v)] (.int v :: st) h K := tm_s o112_66 rfl rfl rfl
theorem o112_68 : tm_op 112 68 = some (.iconst (-1), (0, 0, 0, 0)) := rfl
theorem r112_68 (d : Nat) (ls : tm_Lo) (st : List Value) (h : tm_H) (K : Option Value → tm_H → Prop) : tm_A d 112 68 ls st h K ↔ tm_A d 112 69 ls (.int (-1 : Int32) :: st) h K := tm_ic o112_68 (by decide)
theorem o112_69 : tm_op 112 69 = some (.if_icmp .eq 6, (0, 0, 0, 0)) := rfl
theorem r112_69 (d : Nat) (y x : Int32) (ls : tm_Lo) (st : List Value) (h : tm_H) (K : Option Value → tm_H → Prop) : tm_A d 112 69 ls (.int y :: .int x :: st) h K ↔ if x = y then tm_A d 112 75 ls st h K else tm_A d 112 72 ls st h K := tm_b o112_69 rfl rfl rfl rfl
theorem o112_72 : tm_op 112 72 = some (.iload 5, (0, 0, 0, 0)) := rfl
theorem r112_72 (d : Nat) (v : Int32) (l0 l1 l2 l3 l4 : Option Value) (st : List Value) (h : tm_H) (K : Option Value → tm_H → Prop) : tm_A d 112 72 [l0, l1, l2, l3, l4, some (.int v)] st h K ↔ tm_A d 112 74 [l0, l1, l2, l3, l4, some (.int v)] (.int v :: st) h K := tm_s o112_72 rfl rfl rfl
theorem o112_74 : tm_op 112 74 = some (.istore_n 3, (0, 0, 0, 0)) := rfl
theorem r112_74 (d : Nat) (v : Int32) (l0 l1 l2 l3 l4 l5 : Option Value) (st : List Value) (h : tm_H) (K : Option Value → tm_H → Prop) : tm_A d 112 74 [l0, l1, l2, l3, l4, l5] (.int v :: st) h K ↔ tm_A d 112 75 [l0, l1, l2, some (.int v), l4, l5] st h K := tm_s o112_74 rfl rfl rfl
theorem o112_75 : tm_op 112 75 = some (.iinc 4 1, (0, 0, 0, 0)) := rfl
theorem r112_75 (d : Nat) (v : Int32) (l0 l1 l2 l3 l5 : Option Value) (st : List Value) (h : tm_H) (K : Option Value → tm_H → Prop) : tm_A d 112 75 [l0, l1, l2, l3, some (.int v), l5] st h K ↔ tm_A d 112 78 [l0, l1, l2, l3, some (.int (v + (1 : Int32))), l5] st h K := tm_s o112_75 rfl rfl rfl
theorem o112_78 : tm_op 112 78 = some (.goto (-73), (0, 0, 0, 0)) := rfl
theorem r112_78 (d : Nat) (ls : tm_Lo) (st : List Value) (h : tm_H) (K : Option Value → tm_H → Prop) : tm_A d 112 78 ls st h K ↔ tm_A d 112 5 ls st h K := tm_s o112_78 rfl rfl rfl
theorem o112_81 : tm_op 112 81 = some (.iload_n 3, (0, 0, 0, 0)) := rfl
theorem r112_81 (d : Nat) (v : Int32) (l0 l1 l2 l4 l5 : Option Value) (st : List Value) (h : tm_H) (K : Option Value → tm_H → Prop) : tm_A d 112 81 [l0, l1, l2, some (.int v), l4, l5] st h K ↔ tm_A d 112 82 [l0, l1, l2, some (.int v), l4, l5] (.int v :: st) h K := tm_s o112_81 rfl rfl rfl
theorem o112_82 : tm_op 112 82 = some (.ireturn, (0, 0, 0, 0)) := rfl
theorem r112_82 (d : Nat) (v : Int32) (ls : tm_Lo) (h : tm_H) (K : Option Value → tm_H → Prop) : tm_A d 112 82 ls [.int v] h K ↔ K (some (.int v)) h := tm_reti o112_82 rfl
theorem o113_0 : tm_op 113 0 = some (.iconst (-1), (0, 0, 0, 0)) := rfl
theorem r113_0 (d : Nat) (ls : tm_Lo) (st : List Value) (h : tm_H) (K : Option Value → tm_H → Prop) : tm_A d 113 0 ls st h K ↔ tm_A d 113 1 ls (.int (-1 : Int32) :: st) h K := tm_ic o113_0 (by decide)
theorem o113_1 : tm_op 113 1 = some (.istore_n 2, (0, 0, 0, 0)) := rfl
theorem r113_1 (d : Nat) (v : Int32) (l0 l1 l2 l3 : Option Value) (st : List Value) (h : tm_H) (K : Option Value → tm_H → Prop) : tm_A d 113 1 [l0, l1, l2, l3] (.int v :: st) h K ↔ tm_A d 113 2 [l0, l1, some (.int v), l3] st h K := tm_s o113_1 rfl rfl rfl
theorem o113_2 : tm_op 113 2 = some (.iload_n 1, (0, 0, 0, 0)) := rfl
theorem r113_2 (d : Nat) (v : Int32) (l0 l2 l3 : Option Value) (st : List Value) (h : tm_H) (K : Option Value → tm_H → Prop) : tm_A d 113 2 [l0, some (.int v), l2, l3] st h K ↔ tm_A d 113 3 [l0, some (.int v), l2, l3] (.int v :: st) h K := tm_s o113_2 rfl rfl rfl
theorem o113_3 : tm_op 113 3 = some (.istore_n 3, (0, 0, 0, 0)) := rfl
theorem r113_3 (d : Nat) (v : Int32) (l0 l1 l2 l3 : Option Value) (st : List Value) (h : tm_H) (K : Option Value → tm_H → Prop) : tm_A d 113 3 [l0, l1, l2, l3] (.int v :: st) h K ↔ tm_A d 113 4 [l0, l1, l2, some (.int v)] st h K := tm_s o113_3 rfl rfl rfl
theorem o113_4 : tm_op 113 4 = some (.iload_n 3, (0, 0, 0, 0)) := rfl
theorem r113_4 (d : Nat) (v : Int32) (l0 l1 l2 : Option Value) (st : List Value) (h : tm_H) (K : Option Value → tm_H → Prop) : tm_A d 113 4 [l0, l1, l2, some (.int v)] st h K ↔ tm_A d 113 5 [l0, l1, l2, some (.int v)] (.int v :: st) h K := tm_s o113_4 rfl rfl rfl
theorem o113_5 : tm_op 113 5 = some (.aload_n 0, (0, 0, 0, 0)) := rfl
theorem r113_5 (d : Nat) (v : Nat) (l1 l2 l3 : Option Value) (st : List Value) (h : tm_H) (K : Option Value → tm_H → Prop) : tm_A d 113 5 [some (.ref v), l1, l2, l3] st h K ↔ tm_A d 113 6 [some (.ref v), l1, l2, l3] (.ref v :: st) h K := tm_s o113_5 rfl rfl rfl
theorem o113_6 : tm_op 113 6 = some (.getfield 26, (2, 9, 2, 0)) := rfl
theorem r113_6 (d : Nat) (a : Nat) (ls : tm_Lo) (st : List Value) (G : tm_G) (I : Nat → Nat → Int32) (J : Nat → Nat → Int64) (R : Nat → Nat → Option Nat) (K : Option Value → tm_H → Prop) : tm_A d 113 6 ls (.ref a :: st) (G, I, J, R) K ↔ G.2.2 a = (0, 9) ∧ tm_A d 113 9 ls (tm_rf (R a 2) :: st) (G, I, J, R) K := tm_getR o113_6
theorem o113_9 : tm_op 113 9 = some (.invokevirtual 173, (2, 42, 1, 4)) := rfl
theorem r113_9 (d : Nat) (a : Nat) (ls : tm_Lo) (st : List Value) (h : tm_H) (K : Option Value → tm_H → Prop) : tm_A (d + 1) 113 9 ls (.ref a :: st) h K ↔ (h.1.2.2 a = (0, 4) ∧ tm_cs st) ∧ tm_R d 42 [.ref a] h (fun r h' => tm_A (d + 1) 113 12 ls (r.toList ++ st) h' K) := tm_callV (as := []) o113_9 rfl rfl rfl rfl
theorem o113_12 : tm_op 113 12 = some (.if_icmp .ge 35, (0, 0, 0, 0)) := rfl
theorem r113_12 (d : Nat) (y x : Int32) (ls : tm_Lo) (st : List Value) (h : tm_H) (K : Option Value → tm_H → Prop) : tm_A d 113 12 ls (.int y :: .int x :: st) h K ↔ if y ≤ x then tm_A d 113 47 ls st h K else tm_A d 113 15 ls st h K := tm_b o113_12 rfl rfl rfl rfl
theorem o113_15 : tm_op 113 15 = some (.aload_n 0, (0, 0, 0, 0)) := rfl
theorem r113_15 (d : Nat) (v : Nat) (l1 l2 l3 : Option Value) (st : List Value) (h : tm_H) (K : Option Value → tm_H → Prop) : tm_A d 113 15 [some (.ref v), l1, l2, l3] st h K ↔ tm_A d 113 16 [some (.ref v), l1, l2, l3] (.ref v :: st) h K := tm_s o113_15 rfl rfl rfl
theorem o113_16 : tm_op 113 16 = some (.getfield 47, (2, 9, 5, 0)) := rfl
theorem r113_16 (d : Nat) (a : Nat) (ls : tm_Lo) (st : List Value) (G : tm_G) (I : Nat → Nat → Int32) (J : Nat → Nat → Int64) (R : Nat → Nat → Option Nat) (K : Option Value → tm_H → Prop) : tm_A d 113 16 ls (.ref a :: st) (G, I, J, R) K ↔ G.2.2 a = (0, 9) ∧ tm_A d 113 19 ls (tm_rf (R a 5) :: st) (G, I, J, R) K := tm_getR o113_16
theorem o113_19 : tm_op 113 19 = some (.iload_n 3, (0, 0, 0, 0)) := rfl
theorem r113_19 (d : Nat) (v : Int32) (l0 l1 l2 : Option Value) (st : List Value) (h : tm_H) (K : Option Value → tm_H → Prop) : tm_A d 113 19 [l0, l1, l2, some (.int v)] st h K ↔ tm_A d 113 20 [l0, l1, l2, some (.int v)] (.int v :: st) h K := tm_s o113_19 rfl rfl rfl
theorem o113_20 : tm_op 113 20 = some (.invokevirtual 151, (2, 31, 2, 2)) := rfl
theorem r113_20 (d : Nat) (v1 : Int32) (a : Nat) (ls : tm_Lo) (st : List Value) (h : tm_H) (K : Option Value → tm_H → Prop) : tm_A (d + 1) 113 20 ls (.int v1 :: .ref a :: st) h K ↔ (h.1.2.2 a = (0, 2) ∧ tm_cs st) ∧ tm_R d 31 [.ref a, .int v1] h (fun r h' => tm_A (d + 1) 113 23 ls (r.toList ++ st) h' K) := tm_callV (as := [.int v1]) o113_20 rfl rfl rfl rfl
theorem o113_23 : tm_op 113 23 = some (.iload_n 1, (0, 0, 0, 0)) := rfl
theorem r113_23 (d : Nat) (v : Int32) (l0 l2 l3 : Option Value) (st : List Value) (h : tm_H) (K : Option Value → tm_H → Prop) : tm_A d 113 23 [l0, some (.int v), l2, l3] st h K ↔ tm_A d 113 24 [l0, some (.int v), l2, l3] (.int v :: st) h K := tm_s o113_23 rfl rfl rfl
theorem o113_24 : tm_op 113 24 = some (.if_icmp .ne 17, (0, 0, 0, 0)) := rfl
theorem r113_24 (d : Nat) (y x : Int32) (ls : tm_Lo) (st : List Value) (h : tm_H) (K : Option Value → tm_H → Prop) : tm_A d 113 24 ls (.int y :: .int x :: st) h K ↔ if ¬ x = y then tm_A d 113 41 ls st h K else tm_A d 113 27 ls st h K := tm_b o113_24 rfl rfl rfl rfl
theorem o113_27 : tm_op 113 27 = some (.iload_n 2, (0, 0, 0, 0)) := rfl
theorem r113_27 (d : Nat) (v : Int32) (l0 l1 l3 : Option Value) (st : List Value) (h : tm_H) (K : Option Value → tm_H → Prop) : tm_A d 113 27 [l0, l1, some (.int v), l3] st h K ↔ tm_A d 113 28 [l0, l1, some (.int v), l3] (.int v :: st) h K := tm_s o113_27 rfl rfl rfl
theorem o113_28 : tm_op 113 28 = some (.aload_n 0, (0, 0, 0, 0)) := rfl
theorem r113_28 (d : Nat) (v : Nat) (l1 l2 l3 : Option Value) (st : List Value) (h : tm_H) (K : Option Value → tm_H → Prop) : tm_A d 113 28 [some (.ref v), l1, l2, l3] st h K ↔ tm_A d 113 29 [some (.ref v), l1, l2, l3] (.ref v :: st) h K := tm_s o113_28 rfl rfl rfl
theorem o113_29 : tm_op 113 29 = some (.getfield 26, (2, 9, 2, 0)) := rfl
theorem r113_29 (d : Nat) (a : Nat) (ls : tm_Lo) (st : List Value) (G : tm_G) (I : Nat → Nat → Int32) (J : Nat → Nat → Int64) (R : Nat → Nat → Option Nat) (K : Option Value → tm_H → Prop) : tm_A d 113 29 ls (.ref a :: st) (G, I, J, R) K ↔ G.2.2 a = (0, 9) ∧ tm_A d 113 32 ls (tm_rf (R a 2) :: st) (G, I, J, R) K := tm_getR o113_29
theorem o113_32 : tm_op 113 32 = some (.iload_n 3, (0, 0, 0, 0)) := rfl
theorem r113_32 (d : Nat) (v : Int32) (l0 l1 l2 : Option Value) (st : List Value) (h : tm_H) (K : Option Value → tm_H → Prop) : tm_A d 113 32 [l0, l1, l2, some (.int v)] st h K ↔ tm_A d 113 33 [l0, l1, l2, some (.int v)] (.int v :: st) h K := tm_s o113_32 rfl rfl rfl
theorem o113_33 : tm_op 113 33 = some (.iconst 2, (0, 0, 0, 0)) := rfl
theorem r113_33 (d : Nat) (ls : tm_Lo) (st : List Value) (h : tm_H) (K : Option Value → tm_H → Prop) : tm_A d 113 33 ls st h K ↔ tm_A d 113 34 ls (.int (2 : Int32) :: st) h K := tm_ic o113_33 (by decide)
theorem o113_34 : tm_op 113 34 = some (.invokevirtual 128, (2, 44, 3, 4)) := rfl
theorem r113_34 (d : Nat) (v1 : Int32) (v2 : Int32) (a : Nat) (ls : tm_Lo) (st : List Value) (h : tm_H) (K : Option Value → tm_H → Prop) : tm_A (d + 1) 113 34 ls (.int v2 :: .int v1 :: .ref a :: st) h K ↔ (h.1.2.2 a = (0, 4) ∧ tm_cs st) ∧ tm_R d 44 [.ref a, .int v1, .int v2] h (fun r h' => tm_A (d + 1) 113 37 ls (r.toList ++ st) h' K) := tm_callV (as := [.int v1, .int v2]) o113_34 rfl rfl rfl rfl
theorem o113_37 : tm_op 113 37 = some (.invokestatic 209, (7, 0, 0, 0)) := rfl
theorem r113_37 (d : Nat) (v0 v1 : Int32) (ls : tm_Lo) (st : List Value) (h : tm_H) (K : Option Value → tm_H → Prop) : tm_A (d + 1) 113 37 ls (.int v1 :: .int v0 :: st) h K ↔ tm_cs st ∧ tm_A (d + 1) 113 40 ls (.int (if v0 < v1 then v1 else v0) :: st) h K := tm_max o113_37 rfl rfl
theorem o113_40 : tm_op 113 40 = some (.istore_n 2, (0, 0, 0, 0)) := rfl
theorem r113_40 (d : Nat) (v : Int32) (l0 l1 l2 l3 : Option Value) (st : List Value) (h : tm_H) (K : Option Value → tm_H → Prop) : tm_A d 113 40 [l0, l1, l2, l3] (.int v :: st) h K ↔ tm_A d 113 41 [l0, l1, some (.int v), l3] st h K := tm_s o113_40 rfl rfl rfl
theorem o113_41 : tm_op 113 41 = some (.iinc 3 1, (0, 0, 0, 0)) := rfl
theorem r113_41 (d : Nat) (v : Int32) (l0 l1 l2 : Option Value) (st : List Value) (h : tm_H) (K : Option Value → tm_H → Prop) : tm_A d 113 41 [l0, l1, l2, some (.int v)] st h K ↔ tm_A d 113 44 [l0, l1, l2, some (.int (v + (1 : Int32)))] st h K := tm_s o113_41 rfl rfl rfl
theorem o113_44 : tm_op 113 44 = some (.goto (-40), (0, 0, 0, 0)) := rfl
theorem r113_44 (d : Nat) (ls : tm_Lo) (st : List Value) (h : tm_H) (K : Option Value → tm_H → Prop) : tm_A d 113 44 ls st h K ↔ tm_A d 113 4 ls st h K := tm_s o113_44 rfl rfl rfl
theorem o113_47 : tm_op 113 47 = some (.iload_n 2, (0, 0, 0, 0)) := rfl
theorem r113_47 (d : Nat) (v : Int32) (l0 l1 l3 : Option Value) (st : List Value) (h : tm_H) (K : Option Value → tm_H → Prop) : tm_A d 113 47 [l0, l1, some (.int v), l3] st h K ↔ tm_A d 113 48 [l0, l1, some (.int v), l3] (.int v :: st) h K := tm_s o113_47 rfl rfl rfl
theorem o113_48 : tm_op 113 48 = some (.ireturn, (0, 0, 0, 0)) := rfl
theorem r113_48 (d : Nat) (v : Int32) (ls : tm_Lo) (h : tm_H) (K : Option Value → tm_H → Prop) : tm_A d 113 48 ls [.int v] h K ↔ K (some (.int v)) h := tm_reti o113_48 rfl
theorem o114_0 : tm_op 114 0 = some (.iconst (-1), (0, 0, 0, 0)) := rfl
theorem r114_0 (d : Nat) (ls : tm_Lo) (st : List Value) (h : tm_H) (K : Option Value → tm_H → Prop) : tm_A d 114 0 ls st h K ↔ tm_A d 114 1 ls (.int (-1 : Int32) :: st) h K := tm_ic o114_0 (by decide)
theorem o114_1 : tm_op 114 1 = some (.istore_n 2, (0, 0, 0, 0)) := rfl
theorem r114_1 (d : Nat) (v : Int32) (l0 l1 l2 l3 l4 : Option Value) (st : List Value) (h : tm_H) (K : Option Value → tm_H → Prop) : tm_A d 114 1 [l0, l1, l2, l3, l4] (.int v :: st) h K ↔ tm_A d 114 2 [l0, l1, some (.int v), l3, l4] st h K := tm_s o114_1 rfl rfl rfl
theorem o114_2 : tm_op 114 2 = some (.iload_n 1, (0, 0, 0, 0)) := rfl
theorem r114_2 (d : Nat) (v : Int32) (l0 l2 l3 l4 : Option Value) (st : List Value) (h : tm_H) (K : Option Value → tm_H → Prop) : tm_A d 114 2 [l0, some (.int v), l2, l3, l4] st h K ↔ tm_A d 114 3 [l0, some (.int v), l2, l3, l4] (.int v :: st) h K := tm_s o114_2 rfl rfl rfl
theorem o114_3 : tm_op 114 3 = some (.istore_n 3, (0, 0, 0, 0)) := rfl
theorem r114_3 (d : Nat) (v : Int32) (l0 l1 l2 l3 l4 : Option Value) (st : List Value) (h : tm_H) (K : Option Value → tm_H → Prop) : tm_A d 114 3 [l0, l1, l2, l3, l4] (.int v :: st) h K ↔ tm_A d 114 4 [l0, l1, l2, some (.int v), l4] st h K := tm_s o114_3 rfl rfl rfl
theorem o114_4 : tm_op 114 4 = some (.iload_n 3, (0, 0, 0, 0)) := rfl
theorem r114_4 (d : Nat) (v : Int32) (l0 l1 l2 l4 : Option Value) (st : List Value) (h : tm_H) (K : Option Value → tm_H → Prop) : tm_A d 114 4 [l0, l1, l2, some (.int v), l4] st h K ↔ tm_A d 114 5 [l0, l1, l2, some (.int v), l4] (.int v :: st) h K := tm_s o114_4 rfl rfl rfl
theorem o114_5 : tm_op 114 5 = some (.aload_n 0, (0, 0, 0, 0)) := rfl
theorem r114_5 (d : Nat) (v : Nat) (l1 l2 l3 l4 : Option Value) (st : List Value) (h : tm_H) (K : Option Value → tm_H → Prop) : tm_A d 114 5 [some (.ref v), l1, l2, l3, l4] st h K ↔ tm_A d 114 6 [some (.ref v), l1, l2, l3, l4] (.ref v :: st) h K := tm_s o114_5 rfl rfl rfl
theorem o114_6 : tm_op 114 6 = some (.getfield 26, (2, 9, 2, 0)) := rfl
theorem r114_6 (d : Nat) (a : Nat) (ls : tm_Lo) (st : List Value) (G : tm_G) (I : Nat → Nat → Int32) (J : Nat → Nat → Int64) (R : Nat → Nat → Option Nat) (K : Option Value → tm_H → Prop) : tm_A d 114 6 ls (.ref a :: st) (G, I, J, R) K ↔ G.2.2 a = (0, 9) ∧ tm_A d 114 9 ls (tm_rf (R a 2) :: st) (G, I, J, R) K := tm_getR o114_6
theorem o114_9 : tm_op 114 9 = some (.invokevirtual 173, (2, 42, 1, 4)) := rfl
theorem r114_9 (d : Nat) (a : Nat) (ls : tm_Lo) (st : List Value) (h : tm_H) (K : Option Value → tm_H → Prop) : tm_A (d + 1) 114 9 ls (.ref a :: st) h K ↔ (h.1.2.2 a = (0, 4) ∧ tm_cs st) ∧ tm_R d 42 [.ref a] h (fun r h' => tm_A (d + 1) 114 12 ls (r.toList ++ st) h' K) := tm_callV (as := []) o114_9 rfl rfl rfl rfl
theorem o114_12 : tm_op 114 12 = some (.if_icmp .ge 55, (0, 0, 0, 0)) := rfl
theorem r114_12 (d : Nat) (y x : Int32) (ls : tm_Lo) (st : List Value) (h : tm_H) (K : Option Value → tm_H → Prop) : tm_A d 114 12 ls (.int y :: .int x :: st) h K ↔ if y ≤ x then tm_A d 114 67 ls st h K else tm_A d 114 15 ls st h K := tm_b o114_12 rfl rfl rfl rfl
theorem o114_15 : tm_op 114 15 = some (.aload_n 0, (0, 0, 0, 0)) := rfl
theorem r114_15 (d : Nat) (v : Nat) (l1 l2 l3 l4 : Option Value) (st : List Value) (h : tm_H) (K : Option Value → tm_H → Prop) : tm_A d 114 15 [some (.ref v), l1, l2, l3, l4] st h K ↔ tm_A d 114 16 [some (.ref v), l1, l2, l3, l4] (.ref v :: st) h K := tm_s o114_15 rfl rfl rfl
theorem o114_16 : tm_op 114 16 = some (.getfield 47, (2, 9, 5, 0)) := rfl
theorem r114_16 (d : Nat) (a : Nat) (ls : tm_Lo) (st : List Value) (G : tm_G) (I : Nat → Nat → Int32) (J : Nat → Nat → Int64) (R : Nat → Nat → Option Nat) (K : Option Value → tm_H → Prop) : tm_A d 114 16 ls (.ref a :: st) (G, I, J, R) K ↔ G.2.2 a = (0, 9) ∧ tm_A d 114 19 ls (tm_rf (R a 5) :: st) (G, I, J, R) K := tm_getR o114_16
theorem o114_19 : tm_op 114 19 = some (.iload_n 3, (0, 0, 0, 0)) := rfl
theorem r114_19 (d : Nat) (v : Int32) (l0 l1 l2 l4 : Option Value) (st : List Value) (h : tm_H) (K : Option Value → tm_H → Prop) : tm_A d 114 19 [l0, l1, l2, some (.int v), l4] st h K ↔ tm_A d 114 20 [l0, l1, l2, some (.int v), l4] (.int v :: st) h K := tm_s o114_19 rfl rfl rfl
theorem o114_20 : tm_op 114 20 = some (.invokevirtual 151, (2, 31, 2, 2)) := rfl
theorem r114_20 (d : Nat) (v1 : Int32) (a : Nat) (ls : tm_Lo) (st : List Value) (h : tm_H) (K : Option Value → tm_H → Prop) : tm_A (d + 1) 114 20 ls (.int v1 :: .ref a :: st) h K ↔ (h.1.2.2 a = (0, 2) ∧ tm_cs st) ∧ tm_R d 31 [.ref a, .int v1] h (fun r h' => tm_A (d + 1) 114 23 ls (r.toList ++ st) h' K) := tm_callV (as := [.int v1]) o114_20 rfl rfl rfl rfl
theorem o114_23 : tm_op 114 23 = some (.iload_n 1, (0, 0, 0, 0)) := rfl
theorem r114_23 (d : Nat) (v : Int32) (l0 l2 l3 l4 : Option Value) (st : List Value) (h : tm_H) (K : Option Value → tm_H → Prop) : tm_A d 114 23 [l0, some (.int v), l2, l3, l4] st h K ↔ tm_A d 114 24 [l0, some (.int v), l2, l3, l4] (.int v :: st) h K := tm_s o114_23 rfl rfl rfl
theorem o114_24 : tm_op 114 24 = some (.if_icmp .ne 14, (0, 0, 0, 0)) := rfl
theorem r114_24 (d : Nat) (y x : Int32) (ls : tm_Lo) (st : List Value) (h : tm_H) (K : Option Value → tm_H → Prop) : tm_A d 114 24 ls (.int y :: .int x :: st) h K ↔ if ¬ x = y then tm_A d 114 38 ls st h K else tm_A d 114 27 ls st h K := tm_b o114_24 rfl rfl rfl rfl
theorem o114_27 : tm_op 114 27 = some (.aload_n 0, (0, 0, 0, 0)) := rfl
theorem r114_27 (d : Nat) (v : Nat) (l1 l2 l3 l4 : Option Value) (st : List Value) (h : tm_H) (K : Option Value → tm_H → Prop) : tm_A d 114 27 [some (.ref v), l1, l2, l3, l4] st h K ↔ tm_A d 114 28 [some (.ref v), l1, l2, l3, l4] (.ref v :: st) h K := tm_s o114_27 rfl rfl rfl
theorem o114_28 : tm_op 114 28 = some (.getfield 26, (2, 9, 2, 0)) := rfl
theorem r114_28 (d : Nat) (a : Nat) (ls : tm_Lo) (st : List Value) (G : tm_G) (I : Nat → Nat → Int32) (J : Nat → Nat → Int64) (R : Nat → Nat → Option Nat) (K : Option Value → tm_H → Prop) : tm_A d 114 28 ls (.ref a :: st) (G, I, J, R) K ↔ G.2.2 a = (0, 9) ∧ tm_A d 114 31 ls (tm_rf (R a 2) :: st) (G, I, J, R) K := tm_getR o114_28
theorem o114_31 : tm_op 114 31 = some (.iload_n 3, (0, 0, 0, 0)) := rfl
theorem r114_31 (d : Nat) (v : Int32) (l0 l1 l2 l4 : Option Value) (st : List Value) (h : tm_H) (K : Option Value → tm_H → Prop) : tm_A d 114 31 [l0, l1, l2, some (.int v), l4] st h K ↔ tm_A d 114 32 [l0, l1, l2, some (.int v), l4] (.int v :: st) h K := tm_s o114_31 rfl rfl rfl
theorem o114_32 : tm_op 114 32 = some (.invokevirtual 132, (2, 45, 2, 4)) := rfl
theorem r114_32 (d : Nat) (v1 : Int32) (a : Nat) (ls : tm_Lo) (st : List Value) (h : tm_H) (K : Option Value → tm_H → Prop) : tm_A (d + 1) 114 32 ls (.int v1 :: .ref a :: st) h K ↔ (h.1.2.2 a = (0, 4) ∧ tm_cs st) ∧ tm_R d 45 [.ref a, .int v1] h (fun r h' => tm_A (d + 1) 114 35 ls (r.toList ++ st) h' K) := tm_callV (as := [.int v1]) o114_32 rfl rfl rfl rfl
theorem o114_35 : tm_op 114 35 = some (.goto 4, (0, 0, 0, 0)) := rfl
theorem r114_35 (d : Nat) (ls : tm_Lo) (st : List Value) (h : tm_H) (K : Option Value → tm_H → Prop) : tm_A d 114 35 ls st h K ↔ tm_A d 114 39 ls st h K := tm_s o114_35 rfl rfl rfl
theorem o114_38 : tm_op 114 38 = some (.iconst (-1), (0, 0, 0, 0)) := rfl
theorem r114_38 (d : Nat) (ls : tm_Lo) (st : List Value) (h : tm_H) (K : Option Value → tm_H → Prop) : tm_A d 114 38 ls st h K ↔ tm_A d 114 39 ls (.int (-1 : Int32) :: st) h K := tm_ic o114_38 (by decide)
theorem o114_39 : tm_op 114 39 = some (.istore 4, (0, 0, 0, 0)) := rfl
theorem r114_39 (d : Nat) (v : Int32) (l0 l1 l2 l3 l4 : Option Value) (st : List Value) (h : tm_H) (K : Option Value → tm_H → Prop) : tm_A d 114 39 [l0, l1, l2, l3, l4] (.int v :: st) h K ↔ tm_A d 114 41 [l0, l1, l2, l3, some (.int v)] st h K := tm_s o114_39 rfl rfl rfl
theorem o114_41 : tm_op 114 41 = some (.iload 4, (0, 0, 0, 0)) := rfl
theorem r114_41 (d : Nat) (v : Int32) (l0 l1 l2 l3 : Option Value) (st : List Value) (h : tm_H) (K : Option Value → tm_H → Prop) : tm_A d 114 41 [l0, l1, l2, l3, some (.int v)] st h K ↔ tm_A d 114 43 [l0, l1, l2, l3, some (.int v)] (.int v :: st) h K := tm_s o114_41 rfl rfl rfl
theorem o114_43 : tm_op 114 43 = some (.iconst (-1), (0, 0, 0, 0)) := rfl
theorem r114_43 (d : Nat) (ls : tm_Lo) (st : List Value) (h : tm_H) (K : Option Value → tm_H → Prop) : tm_A d 114 43 ls st h K ↔ tm_A d 114 44 ls (.int (-1 : Int32) :: st) h K := tm_ic o114_43 (by decide)
theorem o114_44 : tm_op 114 44 = some (.if_icmp .eq 17, (0, 0, 0, 0)) := rfl
theorem r114_44 (d : Nat) (y x : Int32) (ls : tm_Lo) (st : List Value) (h : tm_H) (K : Option Value → tm_H → Prop) : tm_A d 114 44 ls (.int y :: .int x :: st) h K ↔ if x = y then tm_A d 114 61 ls st h K else tm_A d 114 47 ls st h K := tm_b o114_44 rfl rfl rfl rfl
theorem o114_47 : tm_op 114 47 = some (.iload_n 2, (0, 0, 0, 0)) := rfl
theorem r114_47 (d : Nat) (v : Int32) (l0 l1 l3 l4 : Option Value) (st : List Value) (h : tm_H) (K : Option Value → tm_H → Prop) : tm_A d 114 47 [l0, l1, some (.int v), l3, l4] st h K ↔ tm_A d 114 48 [l0, l1, some (.int v), l3, l4] (.int v :: st) h K := tm_s o114_47 rfl rfl rfl
theorem o114_48 : tm_op 114 48 = some (.iconst (-1), (0, 0, 0, 0)) := rfl
theorem r114_48 (d : Nat) (ls : tm_Lo) (st : List Value) (h : tm_H) (K : Option Value → tm_H → Prop) : tm_A d 114 48 ls st h K ↔ tm_A d 114 49 ls (.int (-1 : Int32) :: st) h K := tm_ic o114_48 (by decide)
theorem o114_49 : tm_op 114 49 = some (.if_icmp .eq 9, (0, 0, 0, 0)) := rfl
theorem r114_49 (d : Nat) (y x : Int32) (ls : tm_Lo) (st : List Value) (h : tm_H) (K : Option Value → tm_H → Prop) : tm_A d 114 49 ls (.int y :: .int x :: st) h K ↔ if x = y then tm_A d 114 58 ls st h K else tm_A d 114 52 ls st h K := tm_b o114_49 rfl rfl rfl rfl
theorem o114_52 : tm_op 114 52 = some (.iload 4, (0, 0, 0, 0)) := rfl
theorem r114_52 (d : Nat) (v : Int32) (l0 l1 l2 l3 : Option Value) (st : List Value) (h : tm_H) (K : Option Value → tm_H → Prop) : tm_A d 114 52 [l0, l1, l2, l3, some (.int v)] st h K ↔ tm_A d 114 54 [l0, l1, l2, l3, some (.int v)] (.int v :: st) h K := tm_s o114_52 rfl rfl rfl
theorem o114_54 : tm_op 114 54 = some (.iload_n 2, (0, 0, 0, 0)) := rfl
theorem r114_54 (d : Nat) (v : Int32) (l0 l1 l3 l4 : Option Value) (st : List Value) (h : tm_H) (K : Option Value → tm_H → Prop) : tm_A d 114 54 [l0, l1, some (.int v), l3, l4] st h K ↔ tm_A d 114 55 [l0, l1, some (.int v), l3, l4] (.int v :: st) h K := tm_s o114_54 rfl rfl rfl
theorem o114_55 : tm_op 114 55 = some (.if_icmp .ge 6, (0, 0, 0, 0)) := rfl
theorem r114_55 (d : Nat) (y x : Int32) (ls : tm_Lo) (st : List Value) (h : tm_H) (K : Option Value → tm_H → Prop) : tm_A d 114 55 ls (.int y :: .int x :: st) h K ↔ if y ≤ x then tm_A d 114 61 ls st h K else tm_A d 114 58 ls st h K := tm_b o114_55 rfl rfl rfl rfl
theorem o114_58 : tm_op 114 58 = some (.iload 4, (0, 0, 0, 0)) := rfl
theorem r114_58 (d : Nat) (v : Int32) (l0 l1 l2 l3 : Option Value) (st : List Value) (h : tm_H) (K : Option Value → tm_H → Prop) : tm_A d 114 58 [l0, l1, l2, l3, some (.int v)] st h K ↔ tm_A d 114 60 [l0, l1, l2, l3, some (.int v)] (.int v :: st) h K := tm_s o114_58 rfl rfl rfl
theorem o114_60 : tm_op 114 60 = some (.istore_n 2, (0, 0, 0, 0)) := rfl
theorem r114_60 (d : Nat) (v : Int32) (l0 l1 l2 l3 l4 : Option Value) (st : List Value) (h : tm_H) (K : Option Value → tm_H → Prop) : tm_A d 114 60 [l0, l1, l2, l3, l4] (.int v :: st) h K ↔ tm_A d 114 61 [l0, l1, some (.int v), l3, l4] st h K := tm_s o114_60 rfl rfl rfl
theorem o114_61 : tm_op 114 61 = some (.iinc 3 1, (0, 0, 0, 0)) := rfl
theorem r114_61 (d : Nat) (v : Int32) (l0 l1 l2 l4 : Option Value) (st : List Value) (h : tm_H) (K : Option Value → tm_H → Prop) : tm_A d 114 61 [l0, l1, l2, some (.int v), l4] st h K ↔ tm_A d 114 64 [l0, l1, l2, some (.int (v + (1 : Int32))), l4] st h K := tm_s o114_61 rfl rfl rfl
theorem o114_64 : tm_op 114 64 = some (.goto (-60), (0, 0, 0, 0)) := rfl
theorem r114_64 (d : Nat) (ls : tm_Lo) (st : List Value) (h : tm_H) (K : Option Value → tm_H → Prop) : tm_A d 114 64 ls st h K ↔ tm_A d 114 4 ls st h K := tm_s o114_64 rfl rfl rfl
theorem o114_67 : tm_op 114 67 = some (.iload_n 2, (0, 0, 0, 0)) := rfl
theorem r114_67 (d : Nat) (v : Int32) (l0 l1 l3 l4 : Option Value) (st : List Value) (h : tm_H) (K : Option Value → tm_H → Prop) : tm_A d 114 67 [l0, l1, some (.int v), l3, l4] st h K ↔ tm_A d 114 68 [l0, l1, some (.int v), l3, l4] (.int v :: st) h K := tm_s o114_67 rfl rfl rfl
theorem o114_68 : tm_op 114 68 = some (.ireturn, (0, 0, 0, 0)) := rfl
theorem r114_68 (d : Nat) (v : Int32) (ls : tm_Lo) (h : tm_H) (K : Option Value → tm_H → Prop) : tm_A d 114 68 ls [.int v] h K ↔ K (some (.int v)) h := tm_reti o114_68 rfl
theorem o115_0 : tm_op 115 0 = some (.aload_n 0, (0, 0, 0, 0)) := rfl
theorem r115_0 (d : Nat) (v : Nat) (l1 : Option Value) (st : List Value) (h : tm_H) (K : Option Value → tm_H → Prop) : tm_A d 115 0 [some (.ref v), l1] st h K ↔ tm_A d 115 1 [some (.ref v), l1] (.ref v :: st) h K := tm_s o115_0 rfl rfl rfl
theorem o115_1 : tm_op 115 1 = some (.iload_n 1, (0, 0, 0, 0)) := rfl
theorem r115_1 (d : Nat) (v : Int32) (l0 : Option Value) (st : List Value) (h : tm_H) (K : Option Value → tm_H → Prop) : tm_A d 115 1 [l0, some (.int v)] st h K ↔ tm_A d 115 2 [l0, some (.int v)] (.int v :: st) h K := tm_s o115_1 rfl rfl rfl
theorem o115_2 : tm_op 115 2 = some (.invokevirtual 164, (2, 113, 2, 9)) := rfl
theorem r115_2 (d : Nat) (v1 : Int32) (a : Nat) (ls : tm_Lo) (st : List Value) (h : tm_H) (K : Option Value → tm_H → Prop) : tm_A (d + 1) 115 2 ls (.int v1 :: .ref a :: st) h K ↔ (h.1.2.2 a = (0, 9) ∧ tm_cs st) ∧ tm_R d 113 [.ref a, .int v1] h (fun r h' => tm_A (d + 1) 115 5 ls (r.toList ++ st) h' K) := tm_callV (as := [.int v1]) o115_2 rfl rfl rfl rfl
theorem o115_5 : tm_op 115 5 = some (.aload_n 0, (0, 0, 0, 0)) := rfl
theorem r115_5 (d : Nat) (v : Nat) (l1 : Option Value) (st : List Value) (h : tm_H) (K : Option Value → tm_H → Prop) : tm_A d 115 5 [some (.ref v), l1] st h K ↔ tm_A d 115 6 [some (.ref v), l1] (.ref v :: st) h K := tm_s o115_5 rfl rfl rfl
theorem o115_6 : tm_op 115 6 = some (.iload_n 1, (0, 0, 0, 0)) := rfl
theorem r115_6 (d : Nat) (v : Int32) (l0 : Option Value) (st : List Value) (h : tm_H) (K : Option Value → tm_H → Prop) : tm_A d 115 6 [l0, some (.int v)] st h K ↔ tm_A d 115 7 [l0, some (.int v)] (.int v :: st) h K := tm_s o115_6 rfl rfl rfl
theorem o115_7 : tm_op 115 7 = some (.invokevirtual 167, (2, 114, 2, 9)) := rfl
theorem r115_7 (d : Nat) (v1 : Int32) (a : Nat) (ls : tm_Lo) (st : List Value) (h : tm_H) (K : Option Value → tm_H → Prop) : tm_A (d + 1) 115 7 ls (.int v1 :: .ref a :: st) h K ↔ (h.1.2.2 a = (0, 9) ∧ tm_cs st) ∧ tm_R d 114 [.ref a, .int v1] h (fun r h' => tm_A (d + 1) 115 10 ls (r.toList ++ st) h' K) := tm_callV (as := [.int v1]) o115_7 rfl rfl rfl rfl
theorem o115_10 : tm_op 115 10 = some (.if_icmp .le 7, (0, 0, 0, 0)) := rfl
theorem r115_10 (d : Nat) (y x : Int32) (ls : tm_Lo) (st : List Value) (h : tm_H) (K : Option Value → tm_H → Prop) : tm_A d 115 10 ls (.int y :: .int x :: st) h K ↔ if x ≤ y then tm_A d 115 17 ls st h K else tm_A d 115 13 ls st h K := tm_b o115_10 rfl rfl rfl rfl
theorem o115_13 : tm_op 115 13 = some (.iconst 1, (0, 0, 0, 0)) := rfl
theorem r115_13 (d : Nat) (ls : tm_Lo) (st : List Value) (h : tm_H) (K : Option Value → tm_H → Prop) : tm_A d 115 13 ls st h K ↔ tm_A d 115 14 ls (.int (1 : Int32) :: st) h K := tm_ic o115_13 (by decide)
theorem o115_14 : tm_op 115 14 = some (.goto 4, (0, 0, 0, 0)) := rfl
theorem r115_14 (d : Nat) (ls : tm_Lo) (st : List Value) (h : tm_H) (K : Option Value → tm_H → Prop) : tm_A d 115 14 ls st h K ↔ tm_A d 115 18 ls st h K := tm_s o115_14 rfl rfl rfl
theorem o115_17 : tm_op 115 17 = some (.iconst 0, (0, 0, 0, 0)) := rfl
theorem r115_17 (d : Nat) (ls : tm_Lo) (st : List Value) (h : tm_H) (K : Option Value → tm_H → Prop) : tm_A d 115 17 ls st h K ↔ tm_A d 115 18 ls (.int (0 : Int32) :: st) h K := tm_ic o115_17 (by decide)
theorem o115_18 : tm_op 115 18 = some (.ireturn, (0, 0, 0, 0)) := rfl
theorem r115_18 (d : Nat) (v : Int32) (ls : tm_Lo) (h : tm_H) (K : Option Value → tm_H → Prop) : tm_A d 115 18 ls [.int v] h K ↔ (v = 0 ∨ v = 1) ∧ K (some (.int v)) h := tm_retz o115_18 rfl
