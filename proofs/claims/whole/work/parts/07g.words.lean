/-! What the tables say, for every method alike. -/
def ts_G : List Jvm.Cond := lw_tbl.filter goodWord
def ts_sp : List Jvm.Cond := [.fieldLinkNest "TidingsDesk" 100 "TidingsDesk$Tape" "draft" "LTidingsDesk$Facts;" "TidingsDesk", .fieldLinkNest "TidingsDesk$Known" 25 "TidingsDesk$Telling" "report" "I" "TidingsDesk", .fieldLinkNest "TidingsDesk$Ledger" 62 "TidingsDesk$Telling" "day" "I" "TidingsDesk", .fieldLinkNest "TidingsDesk$Known" 40 "TidingsDesk$Telling" "bits" "I" "TidingsDesk", .fieldLinkNest "TidingsDesk$Known" 36 "TidingsDesk$Telling" "facts" "LTidingsDesk$Facts;" "TidingsDesk", .arrayOver (.object "TidingsDesk$Telling"), .arrayOver (.object "TidingsDesk$Facts"), .arrayOver (.array .int)]
theorem ts_G_good : GoodIn ts_G ts_G := fun w hw => ⟨hw, good_of_word (List.mem_filter.mp hw).2⟩
theorem ts_G_in {w : Jvm.Cond} (h : w ∈ ts_G) : w ∈ lw_tbl := (List.mem_filter.mp h).1
theorem ts_mem {ws : List Jvm.Cond} (ps : List Nat) (hp : ws = ps.filterMap (fun i => lw_tbl[i]?)) (hg : ws.all goodWord = true) : ∀ w ∈ ws, w ∈ ts_G := by
  intro w hw
  refine List.mem_filter.mpr ⟨?_, List.all_eq_true.mp hg w hw⟩
  rw [hp] at hw
  obtain ⟨i, -, hi⟩ := List.mem_filterMap.mp hw
  exact List.mem_of_getElem? hi
theorem ts_over_use {t : FieldType} {A : Array Value} {U : State} (h : va_Nw (.arrayOver t) U) : (Cond.arrayOver t).before A U = true := h
theorem ts_sp_warm {s U : State} (hW : s.WarmedH U.vm) (h : ∀ w ∈ ts_sp, va_Nw w s) : ∀ w ∈ ts_sp, va_Nw w U := by
  have ho : ∀ t : FieldType, va_Nw (.arrayOver t) s → va_Nw (.arrayOver t) U := fun t ht => by
    have := Cond.arrayOver_setVmC (args := #[]) hW.alike t
    have h1 : (Cond.arrayOver t).before #[] (s.setVm U.vm) = true := by rw [this]; exact ht
    exact h1
  intro w hw
  have hs := h w hw
  simp only [ts_sp, List.mem_cons, List.not_mem_nil, or_false] at hw
  rcases hw with rfl | rfl | rfl | rfl | rfl | rfl | rfl | rfl
  · exact va_Nw.warmF hW hs
  · exact va_Nw.warmF hW hs
  · exact va_Nw.warmF hW hs
  · exact va_Nw.warmF hW hs
  · exact va_Nw.warmF hW hs
  · exact ho _ hs
  · exact ho _ hs
  · exact ho _ hs
theorem ts_sp_same {s U : State} (hv : s.vm = U.vm) (h : ∀ w ∈ ts_sp, va_Nw w s) : ∀ w ∈ ts_sp, va_Nw w U := by
  intro w hw
  have hs := h w hw
  have ho : ∀ t : FieldType, va_Nw (.arrayOver t) s → va_Nw (.arrayOver t) U := fun t ht => by
    have h1 : (Cond.arrayOver t).before #[] (s.setVm U.vm) = true := by rw [← hv]; exact ht
    exact h1
  simp only [ts_sp, List.mem_cons, List.not_mem_nil, or_false] at hw
  rcases hw with rfl | rfl | rfl | rfl | rfl | rfl | rfl | rfl
  · exact va_Nw.same rfl hv hs
  · exact va_Nw.same rfl hv hs
  · exact va_Nw.same rfl hv hs
  · exact va_Nw.same rfl hv hs
  · exact va_Nw.same rfl hv hs
  · exact ho _ hs
  · exact ho _ hs
  · exact ho _ hs
def ts_cn (ci : Nat) : String := ((ts_cl[ci]?).map (fun q => q.1)).getD ""
def ts_ct (ci k : Nat) : String × String × String × Bool := ((ts_cl[ci]?).map (fun q => q.2.1 k)).getD ("", "", "", false)
def ts_mt (k : Nat) : String × MethodName × ByteArray × Nat × Option FieldType := (ts_me[k]?).getD ("", ⟨"", "", ""⟩, ⟨#[]⟩, 0, none)
def ts_lL (k : Nat) : List Nat := (ts_LL[k]?).getD []
def ts_wi (own : String) (k : Nat) (x : tm_X) : List Jvm.Cond := [.methodLink own k (ts_mt x.2.1).2.1, .initialized (ts_mt x.2.1).2.1.cls]
def ts_my (t : Nat) : MethodName × ByteArray × Nat × Option FieldType := if t = 6 then (Lib.Math.abs.name, Lib.Math.abs.code, 1, some .int) else if t = 7 then (Lib.Math.max.name, Lib.Math.max.code, 2, some .int) else if t = 8 then (Lib.Math.min.name, Lib.Math.min.code, 2, some .int) else (Lib.MathLoose.min_long.x, Lib.MathLoose.min_long.code, 4, some .long)
def ts_wh (own : String) (i : Instr) (x : tm_X) : List Jvm.Cond := match i with
  | .getfield k => if x.2.2.2 = 1 then [] else [.fieldLink own k (ts_ct x.2.1 x.2.2.1).1 (ts_ct x.2.1 x.2.2.1).2.1 (ts_ct x.2.1 x.2.2.1).2.2.1]
  | .putfield k => [.fieldLink own k (ts_ct x.2.1 x.2.2.1).1 (ts_ct x.2.1 x.2.2.1).2.1 (ts_ct x.2.1 x.2.2.1).2.2.1]
  | .getstatic k => [.fieldLink own k "TidingsDesk$Tape" (if x.1 = 1 then "MARKS" else "HIGHEST") (if x.1 = 1 then "[C" else "[I")]
  | .new k => [.classLink own k (ts_cn x.2.1), .instantiable (ts_cn x.2.1) x.2.2.1, .initialized (ts_cn x.2.1)]
  | .newarray t => [.arrayClass (newarray.typeOf t)]
  | .anewarray k => [.classLink own k (if x.1 = 4 then "TidingsDesk$Telling" else "TidingsDesk$Facts")]
  | .multianewarray k _ => [.classLink own k ("[" ++ (FieldType.array .int).toString), .arrayClass .int]
  | .invokestatic k => if x.1 = 5 then [.methodLink own k arraycopyName, .native arraycopyName, .static arraycopyName, .initialized "java/lang/System"] else if 6 ≤ x.1 then [.methodLink own k (ts_my x.1).1, .static (ts_my x.1).1, .initialized "java/lang/Math", .code (ts_my x.1).1 (ts_my x.1).2.1 (ts_my x.1).2.2.1 (ts_my x.1).2.2.2] else ts_wi own k x ++ [.static (ts_mt x.2.1).2.1]
  | .invokevirtual k => ts_wi own k x ++ [.instanceMethod (ts_mt x.2.1).2.1, .selects (ts_cn x.2.2.2) (ts_mt x.2.1).2.1 (ts_mt x.2.1).2.1]
  | .invokespecial k => if x.1 = 4 then [.methodLink own k objectInit, .instanceMethod objectInit, .code objectInit ⟨#[0xb1]⟩ 1 none] else ts_wi own k x ++ [.instanceMethod (ts_mt x.2.1).2.1]
  | _ => ts_wq own i x
def ts_wn (own : String) (i : Instr) (x : tm_X) : List Jvm.Cond := match i with
  | .getfield k => if x.2.2.2 = 1 then [.fieldLinkNest own k (ts_ct x.2.1 x.2.2.1).1 (ts_ct x.2.1 x.2.2.1).2.1 (ts_ct x.2.1 x.2.2.1).2.2.1 "TidingsDesk"] else []
  | .anewarray _ => [.arrayOver (.object (if x.1 = 4 then "TidingsDesk$Telling" else "TidingsDesk$Facts"))]
  | .multianewarray _ _ => [.arrayOver (.array .int)]
  | _ => []
/-- is this field there, of this kind -/
def ts_fk (ci k t : Nat) : Bool := decide (ci < 11) && decide (k < ts_N ci) && decide (ts_kd (ts_ty ci k) = t)
def ts_pn (k : Nat) : Option Nat := (parseMethodDescriptor (ts_mt k).2.1.desc).map (fun q => q.parameters.length)
/-- are an instruction's numbers those of the tables -/
def ts_xk (own : String) (ini : Bool) (i : Instr) (x : tm_X) : Bool := match i with
  | .getfield _ => ts_fk x.2.1 x.2.2.1 x.1
  | .putfield _ => ts_fk x.2.1 x.2.2.1 x.1 && (decide ((ts_ct x.2.1 x.2.2.1).2.2.2 = false) || (decide ((ts_ct x.2.1 x.2.2.1).2.2.2 = true) && ini && decide ((ts_ct x.2.1 x.2.2.1).1 = own)))
  | .getstatic _ => decide (x.1 = 1 ∨ x.1 = 2)
  | .new _ => decide (x.2.1 < 11) && decide (ts_N x.2.1 = x.2.2.1)
  | .newarray t => decide ((t = .int ∧ x.1 = 1) ∨ (t = .long ∧ x.1 = 2))
  | .anewarray _ => decide (x.1 = 4 ∨ x.1 = 5)
  | .multianewarray _ n => decide (n = 2)
  | .invokestatic _ => decide (x.1 = 5) || decide (6 ≤ x.1 ∧ x.1 ≤ 9) || (decide (x.1 = 1) && decide (x.2.1 < 175) && decide (ts_pn x.2.1 = some x.2.2.1))
  | .invokevirtual _ => decide (x.1 = 2) && decide (x.2.1 < 175) && decide (0 < x.2.2.1) && decide (ts_pn x.2.1 = some (x.2.2.1 - 1)) && decide (x.2.2.2 < 11) && decide ((ts_mt x.2.1).2.1.cls = ts_cn x.2.2.2)
  | .invokespecial _ => decide (x.1 = 4) || (decide (x.1 = 3) && decide (x.2.1 < 175) && decide (0 < x.2.2.1) && decide (ts_pn x.2.1 = some (x.2.2.1 - 1)) && decide ((ts_mt x.2.1).2.1.name = "<init>") && decide ((ts_mt x.2.1).2.2.2.2 = none))
  | _ => true
/-- where longs lie among a method's arguments -/
def ts_lp : Nat → List Nat → List Nat
  | _, [] => []
  | n, k :: r => if k = 1 then n :: ts_lp (n + 2) r else ts_lp (n + 1) r
def ts_ls : List Nat → Nat
  | [] => 0
  | k :: r => (if k = 1 then 2 else 1) + ts_ls r
def ts_rt (k : Nat) (r : Option FieldType) : Bool := match k, r with
  | 0, none => true
  | 1, some .int => true
  | 2, some .long => true
  | 4, some .boolean => true
  | 3, some (.object _) => true
  | _, _ => false
/-- all that is asked of a method's table -/
def ts_jok (j : Nat) : Prop :=
  (∀ pc i x, tm_op j pc = some (i, x) → decode (ts_mt j).2.2.1 pc = .ok (i, ts_ln i x) ∧ (∀ w ∈ ts_wh (ts_mt j).1 i x, w ∈ ts_G) ∧ (∀ w ∈ ts_wn (ts_mt j).1 i x, w ∈ ts_sp) ∧ ts_ck (ts_lL j) pc i = true ∧ ts_xk (ts_mt j).1 (decide ((ts_mt j).2.1.name = "<init>")) i x = true)
  ∧ tm_ml j = (ts_mt j).2.2.2.1 ∧ ts_rt (tm_rk j) (ts_mt j).2.2.2.2 = true ∧ plainName (ts_mt j).2.1.cls = true ∧ (ts_mt j).1 = (ts_mt j).2.1.cls ∧ (ts_mt j).2.1.cls ≠ "java/lang/invoke/MethodHandle" ∧ (ts_mt j).2.1.cls ≠ "java/lang/invoke/VarHandle"
  ∧ tm_ml j ≤ 45 ∧ ts_ls (tm_ak j) ≤ tm_ml j ∧ (∀ k ∈ tm_ak j, k ≠ 9) ∧ (∀ k ∈ ts_lp 0 (tm_ak j), k ∈ ts_lL j)
theorem ts_jok_of {j : Nat} {ops : List (Nat × Instr × tm_X)} {ml rk : Nat} {ak : List Nat} {own : String} {y : MethodName} {bytes : ByteArray} {ret : Option FieldType} {LL : List Nat} (h1 : tm_all[j]? = some (ops, ml, rk, ak)) (h2 : ts_me[j]? = some (own, y, bytes, ml, ret)) (h3 : ts_LL[j]? = some LL)
    (d1 : ops.all (fun q => decide (decode bytes q.1 = .ok (q.2.1, ts_ln q.2.1 q.2.2))) = true) (ps : List Nat) (d2 : ops.flatMap (fun q => ts_wh own q.2.1 q.2.2) = ps.filterMap (fun i => lw_tbl[i]?)) (d3 : (ops.flatMap (fun q => ts_wh own q.2.1 q.2.2)).all goodWord = true)
    (d4 : ops.all (fun q => (ts_wn own q.2.1 q.2.2).all (fun w => decide (w ∈ ts_sp)) && ts_ck LL q.1 q.2.1 && ts_xk own (decide (y.name = "<init>")) q.2.1 q.2.2) = true)
    (d5 : (ts_rt rk ret && plainName y.cls && decide (own = y.cls) && decide (y.cls ≠ "java/lang/invoke/MethodHandle") && decide (y.cls ≠ "java/lang/invoke/VarHandle") && decide (ml ≤ 45) && decide (ts_ls ak ≤ ml) && ak.all (fun k => decide (k ≠ 9)) && (ts_lp 0 ak).all (fun k => decide (k ∈ LL))) = true) : ts_jok j := by
  have e1 : ts_mt j = (own, y, bytes, ml, ret) := by unfold ts_mt; rw [h2]; rfl
  have e2 : ts_lL j = LL := by unfold ts_lL; rw [h3]; rfl
  have e3 : tm_ml j = ml := by unfold tm_ml; rw [h1]; rfl
  have e4 : tm_rk j = rk := by unfold tm_rk; rw [h1]; rfl
  have e5 : tm_ak j = ak := by unfold tm_ak; rw [h1]; rfl
  have key : ∀ pc i x, tm_op j pc = some (i, x) → (pc, i, x) ∈ ops := by
    intro pc i x ho
    unfold tm_op at ho
    rw [h1] at ho
    have ho' : ops.lookup pc = some (i, x) := ho
    clear ho h1 d1 d2 d3 d4
    induction ops with
    | nil => cases ho'
    | cons q r ih =>
      obtain ⟨k, v⟩ := q
      rw [List.lookup_cons] at ho'
      by_cases hk : pc = k
      · subst hk
        simp only [BEq.rfl] at ho'
        cases ho'
        exact List.mem_cons_self
      · have : (pc == k) = false := by simp [hk]
        rw [this] at ho'
        exact List.mem_cons_of_mem _ (ih ho')
  unfold ts_jok
  rw [e1, e2, e3, e4, e5]
  simp only [Bool.and_eq_true, decide_eq_true_eq, List.all_eq_true] at d5
  obtain ⟨⟨⟨⟨⟨⟨⟨⟨c1, c2⟩, c3⟩, c4⟩, c5⟩, c6⟩, c7⟩, c8⟩, c9⟩ := d5
  refine ⟨fun pc i x ho => ?_, rfl, c1, c2, c3, c4, c5, c6, c7, c8, c9⟩
  have hm := key pc i x ho
  have g1 := List.all_eq_true.mp d1 _ hm
  have g4 := List.all_eq_true.mp d4 _ hm
  simp only [Bool.and_eq_true, decide_eq_true_eq, List.all_eq_true] at g1 g4
  exact ⟨g1, fun w hw => ts_mem ps d2 d3 w (List.mem_flatMap.mpr ⟨_, hm, hw⟩), g4.1.1, g4.1.2, g4.2⟩
