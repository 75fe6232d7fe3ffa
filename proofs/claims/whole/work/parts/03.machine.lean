/-! A small machine over numbers: the instructions that the class, the reference and the law use, on a heap of whole numbers, longs and references. -/
abbrev tm_Lo : Type := List (Option Value)
abbrev tm_G : Type := Nat × Nat × (Nat → Nat × Nat)
abbrev tm_H : Type := tm_G × (Nat → Nat → Int32) × (Nat → Nat → Int64) × (Nat → Nat → Option Nat)
abbrev tm_X : Type := Nat × Nat × Nat × Nat
/-- one place of a table of rows -/
def up2 {α : Type} (f : Nat → Nat → α) (a i : Nat) (v : α) : Nat → Nat → α := fun b j => if b = a ∧ j = i then v else f b j
/-- a whole row -/
def upr {α : Type} (f : Nat → α) (a : Nat) (v : α) : Nat → α := fun b => if b = a then v else f b
/-- an index within an array's length -/
abbrev tm_in (i : Int32) (n : Nat) : Prop := 0 ≤ i.toInt ∧ i.toInt < (n : Int)
/-- an index as a place -/
def tm_ix (i : Int32) : Nat := (i.toInt).toNat
def tm_tg (pc : Nat) (off : Int) : Nat := ((pc : Int) + off).toNat
/-- the kinds of cells: 0 an object of a class, 1 int[], 2 long[], 3 int[][], 4 Telling[], 5 Facts[], 6 char[] -/
def tm_ldI (ls : tm_Lo) (k : Nat) : Option Value := match ls[k]? with
  | some (some (.int v)) => some (.int v)
  | _ => none
def tm_ldJ (ls : tm_Lo) (k : Nat) : Option Value := match ls[k]? with
  | some (some (.long v)) => some (.long v)
  | _ => none
def tm_ldA (ls : tm_Lo) (k : Nat) : Option Value := match ls[k]? with
  | some (some (.ref v)) => some (.ref v)
  | some (some .null) => some .null
  | _ => none
def tm_stI (ls : tm_Lo) (k : Nat) (st : List Value) : Option (tm_Lo × List Value) := match st with
  | .int v :: r => if k < ls.length then some (ls.set k (some (.int v)), r) else none
  | _ => none
def tm_stJ (ls : tm_Lo) (k : Nat) (st : List Value) : Option (tm_Lo × List Value) := match st with
  | .long v :: r => if k + 1 < ls.length then some ((ls.set k (some (.long v))).set (k + 1) none, r) else none
  | _ => none
def tm_stA (ls : tm_Lo) (k : Nat) (st : List Value) : Option (tm_Lo × List Value) := match st with
  | .ref v :: r => if k < ls.length then some (ls.set k (some (.ref v)), r) else none
  | .null :: r => if k < ls.length then some (ls.set k (some .null), r) else none
  | _ => none
def tm_bin (f : Int32 → Int32 → Option Int32) (st : List Value) : Option (List Value) := match st with
  | .int y :: .int x :: r => (f x y).map (fun z => .int z :: r)
  | _ => none
def tm_br1 (f : Int32 → Bool) (t e : Nat) (st : List Value) : Option (Nat × List Value) := match st with
  | .int x :: r => some (if f x then t else e, r)
  | _ => none
def tm_br2 (f : Int32 → Int32 → Bool) (t e : Nat) (st : List Value) : Option (Nat × List Value) := match st with
  | .int y :: .int x :: r => some (if f x y then t else e, r)
  | _ => none
def tm_brN (t e : Nat) (st : List Value) : Option (Nat × List Value) := match st with
  | .null :: r => some (t, r)
  | .ref _ :: r => some (e, r)
  | _ => none
def tm_cmp (c : Jvm.ClassFile.Cond) (x y : Int32) : Bool := match c with
  | .eq => decide (x = y)
  | .ne => decide (¬ x = y)
  | .lt => decide (x < y)
  | .ge => decide (y ≤ x)
  | .gt => decide (y < x)
  | .le => decide (x ≤ y)
def tm_tsw (d lo hi : Int) (offs : Array Int) (pc : Nat) (x : Int32) : Nat := if x.toInt < lo ∨ hi < x.toInt then tm_tg pc d else tm_tg pc (offs.toList.getD (x.toInt - lo).toNat 0)
def tm_sw (f : Int32 → Nat) (ls : tm_Lo) (st : List Value) : Option (Nat × tm_Lo × List Value) := match st with
  | .int z :: r => some (f z, ls, r)
  | _ => none
def tm_cat2 (st : List Value) : Option (List Value) := match st with
  | v :: r => if v.category = 1 then some (v :: v :: r) else none
  | _ => none
def tm_dp2 (st : List Value) : Option (List Value) := match st with
  | v :: w :: r => if v.category = 1 ∧ w.category = 1 then some (v :: w :: v :: w :: r) else none
  | _ => none
def tm_pop (st : List Value) : Option (List Value) := match st with
  | v :: r => if v.category = 1 then some r else none
  | _ => none
def tm_ladd (st : List Value) : Option (List Value) := match st with
  | .long y :: .long x :: r => some (.long (x + y) :: r)
  | _ => none
def tm_lcmp (st : List Value) : Option (List Value) := match st with
  | .long y :: .long x :: r => some (.int (lg_cmp x y) :: r)
  | _ => none
def tm_lsh (f : Int64 → Int32 → Int64) (st : List Value) : Option (List Value) := match st with
  | .int y :: .long x :: r => some (.long (f x y) :: r)
  | _ => none
def tm_i2l (st : List Value) : Option (List Value) := match st with
  | .int x :: r => some (.long x.toInt64 :: r)
  | _ => none
def tm_l2i (st : List Value) : Option (List Value) := match st with
  | .long x :: r => some (.int x.toInt32 :: r)
  | _ => none
def tm_ineg (st : List Value) : Option (List Value) := match st with
  | .int x :: r => some (.int (-x) :: r)
  | _ => none
def tm_ld (pc n : Nat) (ls : tm_Lo) (st : List Value) (v : Option Value) : Option (Nat × tm_Lo × List Value) := v.map (fun w => (pc + n, ls, w :: st))
def tm_st (pc n : Nat) (q : Option (tm_Lo × List Value)) : Option (Nat × tm_Lo × List Value) := q.map (fun w => (pc + n, w.1, w.2))
def tm_sk (pc n : Nat) (ls : tm_Lo) (q : Option (List Value)) : Option (Nat × tm_Lo × List Value) := q.map (fun w => (pc + n, ls, w))
def tm_jp (ls : tm_Lo) (q : Option (Nat × List Value)) : Option (Nat × tm_Lo × List Value) := q.map (fun w => (w.1, ls, w.2))
def tm_inc (ls : tm_Lo) (k : Nat) (c : Int) : Option tm_Lo := match ls[k]? with
  | some (some (.int v)) => some (ls.set k (some (.int (v + Int32.ofInt c))))
  | _ => none
/-- the instructions that don't look at the heap -/
def tm_q (i : Instr) (x : tm_X) (pc : Nat) (ls : tm_Lo) (st : List Value) : Option (Nat × tm_Lo × List Value) := match i with
  | .iconst n => some (pc + 1, ls, .int (Int32.ofInt n) :: st)
  | .bipush n => some (pc + 2, ls, .int (Int8.ofInt n).toInt32 :: st)
  | .sipush n => some (pc + 3, ls, .int (Int16.ofInt n).toInt32 :: st)
  | .ldc _ => some (pc + 2, ls, .int (Int32.ofNat x.2.1) :: st)
  | .ldc_w _ => some (pc + 3, ls, .int (Int32.ofNat x.2.1) :: st)
  | .ldc2_w _ => some (pc + 3, ls, .long (Int64.ofNat x.2.1) :: st)
  | .lconst n => some (pc + 1, ls, .long (Int64.ofNat (n : Nat)) :: st)
  | .aconst_null => some (pc + 1, ls, .null :: st)
  | .iload k => tm_ld pc 2 ls st (tm_ldI ls k)
  | .iload_n k => tm_ld pc 1 ls st (tm_ldI ls (k : Nat))
  | .lload k => tm_ld pc 2 ls st (tm_ldJ ls k)
  | .lload_n k => tm_ld pc 1 ls st (tm_ldJ ls (k : Nat))
  | .aload k => tm_ld pc 2 ls st (tm_ldA ls k)
  | .aload_n k => tm_ld pc 1 ls st (tm_ldA ls (k : Nat))
  | .istore k => tm_st pc 2 (tm_stI ls k st)
  | .istore_n k => tm_st pc 1 (tm_stI ls (k : Nat) st)
  | .lstore k => tm_st pc 2 (tm_stJ ls k st)
  | .lstore_n k => tm_st pc 1 (tm_stJ ls (k : Nat) st)
  | .astore k => tm_st pc 2 (tm_stA ls k st)
  | .astore_n k => tm_st pc 1 (tm_stA ls (k : Nat) st)
  | .iinc k c => (tm_inc ls k c).map (fun w => (pc + 3, w, st))
  | .iadd => tm_sk pc 1 ls (tm_bin (fun a b => some (a + b)) st)
  | .isub => tm_sk pc 1 ls (tm_bin (fun a b => some (a - b)) st)
  | .imul => tm_sk pc 1 ls (tm_bin (fun a b => some (a * b)) st)
  | .iand => tm_sk pc 1 ls (tm_bin (fun a b => some (a &&& b)) st)
  | .ior => tm_sk pc 1 ls (tm_bin (fun a b => some (a ||| b)) st)
  | .ixor => tm_sk pc 1 ls (tm_bin (fun a b => some (a ^^^ b)) st)
  | .ishl => tm_sk pc 1 ls (tm_bin (fun a b => some (a <<< (b &&& 31))) st)
  | .ishr => tm_sk pc 1 ls (tm_bin (fun a b => some (a >>> (b &&& 31))) st)
  | .iushr => tm_sk pc 1 ls (tm_bin (fun a b => some (a.toUInt32 >>> (b.toUInt32 &&& Int32.toUInt32 31)).toInt32) st)
  | .idiv => tm_sk pc 1 ls (tm_bin (fun a b => if b = 0 then none else some (a / b)) st)
  | .irem => tm_sk pc 1 ls (tm_bin (fun a b => if b = 0 then none else some (a - a / b * b)) st)
  | .ineg => tm_sk pc 1 ls (tm_ineg st)
  | .ladd => tm_sk pc 1 ls (tm_ladd st)
  | .lshl => tm_sk pc 1 ls (tm_lsh (fun a b => a <<< (b.toInt64 &&& 63)) st)
  | .lshr => tm_sk pc 1 ls (tm_lsh (fun a b => a >>> (b.toInt64 &&& 63)) st)
  | .lcmp => tm_sk pc 1 ls (tm_lcmp st)
  | .i2l => tm_sk pc 1 ls (tm_i2l st)
  | .l2i => tm_sk pc 1 ls (tm_l2i st)
  | .dup => tm_sk pc 1 ls (tm_cat2 st)
  | .dup2 => tm_sk pc 1 ls (tm_dp2 st)
  | .pop => tm_sk pc 1 ls (tm_pop st)
  | .goto off => some (tm_tg pc off, ls, st)
  | .if_icmp c off => tm_jp ls (tm_br2 (tm_cmp c) (tm_tg pc off) (pc + 3) st)
  | .ifCond c off => tm_jp ls (tm_br1 (fun z => tm_cmp c z 0) (tm_tg pc off) (pc + 3) st)
  | .ifnull off => tm_jp ls (tm_brN (tm_tg pc off) (pc + 3) st)
  | .ifnonnull off => tm_jp ls (tm_brN (pc + 3) (tm_tg pc off) st)
  | .tableswitch d lo hi offs => tm_sw (tm_tsw d lo hi offs pc) ls st
  | _ => none
def tm_rf (r : Option Nat) : Value := match r with
  | none => .null
  | some a => .ref a
/-- a field's value, by its kind: 0 int, 1 long, 2 a reference, 3 boolean -/
def tm_fv (t a k : Nat) (h : tm_H) : Value := if t = 1 then .long (h.2.2.1 a k) else if t = 2 then tm_rf (h.2.2.2 a k) else .int (h.2.1 a k)
def tm_pf (t c k : Nat) (st : List Value) (h : tm_H) : Option (List Value × tm_H) := match t, st with
  | 0, .int v :: .ref a :: r => if h.1.2.2 a = (0, c) then some (r, (h.1, up2 h.2.1 a k v, h.2.2.1, h.2.2.2)) else none
  | 1, .long v :: .ref a :: r => if h.1.2.2 a = (0, c) then some (r, (h.1, h.2.1, up2 h.2.2.1 a k v, h.2.2.2)) else none
  | 2, .ref v :: .ref a :: r => if h.1.2.2 a = (0, c) then some (r, (h.1, h.2.1, h.2.2.1, up2 h.2.2.2 a k (some v))) else none
  | 3, .int v :: .ref a :: r => if h.1.2.2 a = (0, c) ∧ (v = 0 ∨ v = 1) then some (r, (h.1, up2 h.2.1 a k v, h.2.2.1, h.2.2.2)) else none
  | _, _ => none
def tm_gf (t c k : Nat) (st : List Value) (h : tm_H) : Option (List Value) := match st with
  | .ref a :: r => if h.1.2.2 a = (0, c) then some (tm_fv t a k h :: r) else none
  | _ => none
def tm_al (q : Nat) (f : Nat → Nat → Value) (st : List Value) (h : tm_H) : Option (List Value) := match st with
  | .int i :: .ref a :: r => if (h.1.2.2 a).1 = q ∧ tm_in i (h.1.2.2 a).2 then some (f a (tm_ix i) :: r) else none
  | _ => none
def tm_ala (st : List Value) (h : tm_H) : Option (List Value) := match st with
  | .int i :: .ref a :: r => if ((h.1.2.2 a).1 = 3 ∨ (h.1.2.2 a).1 = 4 ∨ (h.1.2.2 a).1 = 5) ∧ tm_in i (h.1.2.2 a).2 then some (tm_rf (h.2.2.2 a (tm_ix i)) :: r) else none
  | _ => none
def tm_len (st : List Value) (h : tm_H) : Option (List Value) := match st with
  | .ref a :: r => if (h.1.2.2 a).1 = 1 then some (.int (Int32.ofNat (h.1.2.2 a).2) :: r) else none
  | _ => none
def tm_asI (st : List Value) (h : tm_H) : Option (List Value × tm_H) := match st with
  | .int v :: .int i :: .ref a :: r => if 3 ≤ a ∧ (h.1.2.2 a).1 = 1 ∧ tm_in i (h.1.2.2 a).2 then some (r, (h.1, up2 h.2.1 a (tm_ix i) v, h.2.2.1, h.2.2.2)) else none
  | _ => none
def tm_asJ (st : List Value) (h : tm_H) : Option (List Value × tm_H) := match st with
  | .long v :: .int i :: .ref a :: r => if 3 ≤ a ∧ (h.1.2.2 a).1 = 2 ∧ tm_in i (h.1.2.2 a).2 then some (r, (h.1, h.2.1, up2 h.2.2.1 a (tm_ix i) v, h.2.2.2)) else none
  | _ => none
def tm_asA (st : List Value) (h : tm_H) : Option (List Value × tm_H) := match st with
  | .ref v :: .int i :: .ref a :: r => if 3 ≤ a ∧ (((h.1.2.2 a).1 = 4 ∧ h.1.2.2 v = (0, 8)) ∨ ((h.1.2.2 a).1 = 5 ∧ h.1.2.2 v = (0, 0))) ∧ tm_in i (h.1.2.2 a).2 then some (r, (h.1, h.2.1, h.2.2.1, up2 h.2.2.2 a (tm_ix i) (some v))) else none
  | _ => none
/-- a new cell of a kind, n slots -/
def tm_nw (q : Nat × Nat) (n : Nat) (h : tm_H) : tm_H := ((h.1.1 + 1, h.1.2.1 + n, upr h.1.2.2 h.1.1 q), upr h.2.1 h.1.1 (fun _ => 0), upr h.2.2.1 h.1.1 (fun _ => 0), upr h.2.2.2 h.1.1 (fun _ => none))
def tm_na (q : Nat) (st : List Value) (h : tm_H) : Option (List Value × tm_H) := match st with
  | .int n :: r => if ¬ n < 0 ∧ (tm_ix n) ≤ 100000 then some (.ref h.1.1 :: r, tm_nw (q, (tm_ix n)) (tm_ix n) h) else none
  | _ => none
/-- new int[n][k]: the outer array, then its rows -/
def tm_mn (n k : Nat) (h : tm_H) : tm_H := ((h.1.1 + 1 + n, h.1.2.1 + n + n * k, fun b => if b = h.1.1 then (3, n) else if h.1.1 < b ∧ b ≤ h.1.1 + n then (1, k) else h.1.2.2 b),
  (fun b => if h.1.1 ≤ b ∧ b ≤ h.1.1 + n then (fun _ => 0) else h.2.1 b), (fun b => if h.1.1 ≤ b ∧ b ≤ h.1.1 + n then (fun _ => 0) else h.2.2.1 b),
  (fun b => if b = h.1.1 then (fun i => if i < n then some (h.1.1 + 1 + i) else none) else if h.1.1 < b ∧ b ≤ h.1.1 + n then (fun _ => none) else h.2.2.2 b))
def tm_mna (st : List Value) (h : tm_H) : Option (List Value × tm_H) := match st with
  | .int k :: .int n :: r => if ¬ n < 0 ∧ ¬ k < 0 ∧ (tm_ix n) ≤ 1000 ∧ (tm_ix k) ≤ 1000 then some (.ref h.1.1 :: r, tm_mn (tm_ix n) (tm_ix k) h) else none
  | _ => none
/-- System.arraycopy of int arrays -/
def tm_cp (st : List Value) (h : tm_H) : Option (List Value × tm_H) := match st with
  | .int n :: .int dp :: .ref a :: .int sp :: .ref b :: r => if 3 ≤ a ∧ 3 ≤ b ∧ (h.1.2.2 a).1 = 1 ∧ (h.1.2.2 b).1 = 1 ∧ ¬ sp < 0 ∧ ¬ dp < 0 ∧ ¬ n < 0 ∧ (tm_ix sp) + (tm_ix n) ≤ (h.1.2.2 b).2 ∧ (tm_ix dp) + (tm_ix n) ≤ (h.1.2.2 a).2 ∧ (r.map Value.category).sum ≤ 8 then
      some (r, (h.1, upr h.2.1 a (va_cpy (h.2.1 b) (h.2.1 a) (tm_ix sp) (tm_ix dp) (tm_ix n)), h.2.2.1, h.2.2.2)) else none
  | _ => none
def tm_oi (st : List Value) : Option (List Value) := match st with
  | .ref _ :: r => if (r.map Value.category).sum ≤ 8 then some r else none
  | _ => none
def tm_hk (pc n : Nat) (ls : tm_Lo) (h : tm_H) (q : Option (List Value)) : Option (Nat × tm_Lo × List Value × tm_H) := q.map (fun w => (pc + n, ls, w, h))
def tm_hs (pc n : Nat) (ls : tm_Lo) (q : Option (List Value × tm_H)) : Option (Nat × tm_Lo × List Value × tm_H) := q.map (fun w => (pc + n, ls, w.1, w.2))
/-- the instructions that look at the heap, or change it -/
def tm_h (i : Instr) (x : tm_X) (pc : Nat) (ls : tm_Lo) (st : List Value) (h : tm_H) : Option (Nat × tm_Lo × List Value × tm_H) := match i with
  | .getfield _ => tm_hk pc 3 ls h (tm_gf x.1 x.2.1 x.2.2.1 st h)
  | .putfield _ => tm_hs pc 3 ls (tm_pf x.1 x.2.1 x.2.2.1 st h)
  | .iaload => tm_hk pc 1 ls h (tm_al 1 (fun a k => .int (h.2.1 a k)) st h)
  | .caload => tm_hk pc 1 ls h (tm_al 6 (fun a k => .int (h.2.1 a k)) st h)
  | .laload => tm_hk pc 1 ls h (tm_al 2 (fun a k => .long (h.2.2.1 a k)) st h)
  | .aaload => tm_hk pc 1 ls h (tm_ala st h)
  | .arraylength => tm_hk pc 1 ls h (tm_len st h)
  | .iastore => tm_hs pc 1 ls (tm_asI st h)
  | .lastore => tm_hs pc 1 ls (tm_asJ st h)
  | .aastore => tm_hs pc 1 ls (tm_asA st h)
  | .new _ => some (pc + 3, ls, .ref h.1.1 :: st, tm_nw (0, x.2.1) x.2.2.1 h)
  | .newarray _ => tm_hs pc 2 ls (tm_na x.1 st h)
  | .anewarray _ => tm_hs pc 3 ls (tm_na x.1 st h)
  | .multianewarray _ _ => tm_hs pc 4 ls (tm_mna st h)
  | .getstatic _ => some (pc + 3, ls, .ref x.1 :: st, h)
  | _ => (tm_q i x pc ls st).map (fun w => (w.1, w.2.1, w.2.2, h))
/-- locals at a method's entry -/
def tm_ent (n : Nat) (as : List Value) : tm_Lo := (as.flatMap (fun v => if v.category = 2 then [some v, none] else [some v])) ++ List.replicate (n - (as.flatMap (fun v => if v.category = 2 then [some v, none] else [some v])).length) none
/-- an answer, by the method's kind: 0 void, 1 int, 2 long, 3 a reference, 4 boolean -/
def tm_ret (i : Instr) (k : Nat) (st : List Value) : Option (Option Value) := match i, k, st with
  | .return_, 0, [] => some none
  | .ireturn, 1, [.int v] => some (some (.int v))
  | .ireturn, 4, [.int v] => if v = 0 ∨ v = 1 then some (some (.int v)) else none
  | .lreturn, 2, [.long v] => some (some (.long v))
  | .areturn, 3, [.ref a] => some (some (.ref a))
  | .areturn, 3, [.null] => some (some .null)
  | _, _, _ => none
def tm_isRet (i : Instr) : Bool := match i with
  | .return_ => true
  | .ireturn => true
  | .lreturn => true
  | .areturn => true
  | _ => false
def tm_isInv (i : Instr) : Bool := match i with
  | .invokestatic _ => true
  | .invokevirtual _ => true
  | .invokespecial _ => true
  | _ => false
