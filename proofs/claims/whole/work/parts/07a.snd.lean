/-! The small machine is true to the real one. First: the locals, and the instructions that don't look at the heap. -/
def ts_v (ad : Nat → Nat) (v : Value) : Value := match v with
  | .ref k => .ref (ad k)
  | w => w
theorem ts_v_cat (ad : Nat → Nat) (v : Value) : (ts_v ad v).category = v.category := by cases v <;> rfl
def ts_L (ad : Nat → Nat) (nL : Nat) (LL : List Nat) (ls : tm_Lo) (la : Array Slot) : Prop :=
  ls.length = nL ∧ la.size = nL ∧ lv_wf la ∧ (∀ (i : Nat) (v : Value), ls[i]? = some (some v) → la[i]? = some (.val (ts_v ad v))) ∧ ∀ (i : Nat) (v : Value), ls[i]? = some (some v) → v.category = 2 → i ∈ LL
def ts_as (ad : Nat → Nat) (ls : tm_Lo) : List (Nat × Value) := (List.range ls.length).filterMap (fun i => (ls[i]?.join).map (fun v => (i, ts_v ad v)))
theorem ts_as_mem {ad : Nat → Nat} {ls : tm_Lo} {q : Nat × Value} : q ∈ ts_as ad ls ↔ ∃ (i : Nat) (v : Value), ls[i]? = some (some v) ∧ q = (i, ts_v ad v) := by
  unfold ts_as
  rw [List.mem_filterMap]
  constructor
  · rintro ⟨i, hi, e⟩
    obtain ⟨v, e1, e2⟩ := Option.map_eq_some_iff.mp e
    cases h : ls[i]? with
    | none => rw [h] at e1; cases e1
    | some o =>
      rw [h] at e1
      cases o with
      | none => cases e1
      | some w => cases e1; exact ⟨i, v, h, e2.symm⟩
  · rintro ⟨i, v, e1, rfl⟩
    refine ⟨i, List.mem_range.mpr (List.getElem?_eq_some_iff.mp e1).1, ?_⟩
    rw [e1]
    rfl
theorem ts_L.has {ad : Nat → Nat} {nL : Nat} {LL : List Nat} {ls : tm_Lo} {la : Array Slot} (h : ts_L ad nL LL ls la) : lv_has la nL (ts_as ad ls) := by
  refine ⟨h.2.1, h.2.2.1, fun q hq => ?_⟩
  obtain ⟨i, v, e1, rfl⟩ := ts_as_mem.mp hq
  exact h.2.2.2.1 i v e1
theorem ts_L.get {ad : Nat → Nat} {nL : Nat} {LL : List Nat} {ls : tm_Lo} {la : Array Slot} (h : ts_L ad nL LL ls la) {i : Nat} {v : Value} (e : ls[i]? = some (some v)) : la[i]? = some (.val (ts_v ad v)) := h.2.2.2.1 i v e
theorem ts_L.set1 {ad : Nat → Nat} {nL : Nat} {LL : List Nat} {ls : tm_Lo} {la la' : Array Slot} {i : Nat} {v : Value} (h : ts_L ad nL LL ls la) (hi : i < nL) (hc : v.category = 1) (hk : ∀ k, k + 1 = i → k ∉ LL)
    (h' : lv_has la' nL ((i, ts_v ad v) :: (ts_as ad ls).filter (fun q => !(q.1 == i) && !(q.1 + 1 == i && q.2.category == 2)))) : ts_L ad nL LL (ls.set i (some v)) la' := by
  refine ⟨by rw [List.length_set]; exact h.1, h'.1, h'.2.1, fun k w e => ?_, fun k w e hw => ?_⟩
  · by_cases hki : k = i
    · subst hki
      rw [List.getElem?_set_self (by rw [h.1]; exact hi)] at e
      cases e
      exact h'.2.2 _ List.mem_cons_self
    · rw [List.getElem?_set_ne (Ne.symm hki)] at e
      refine h'.2.2 (k, ts_v ad w) (List.mem_cons_of_mem _ (List.mem_filter.mpr ⟨ts_as_mem.mpr ⟨k, w, e, rfl⟩, ?_⟩))
      by_cases h2 : w.category = 2
      · have hn : ¬ k + 1 = i := fun z => hk k z (h.2.2.2.2 k w e h2)
        simp [hki, hn]
      · simp [hki, ts_v_cat, h2]
  · by_cases hki : k = i
    · subst hki
      rw [List.getElem?_set_self (by rw [h.1]; exact hi)] at e
      cases e
      omega
    · rw [List.getElem?_set_ne (Ne.symm hki)] at e
      exact h.2.2.2.2 k w e hw
theorem ts_L.set2 {ad : Nat → Nat} {nL : Nat} {LL : List Nat} {ls : tm_Lo} {la la' : Array Slot} {i : Nat} {v : Value} (h : ts_L ad nL LL ls la) (hi : i + 1 < nL) (hL : i ∈ LL) (hk : ∀ k, k + 1 = i → k ∉ LL)
    (h' : lv_has la' nL ((i, ts_v ad v) :: (ts_as ad ls).filter (fun q => !(q.1 == i) && (!(q.1 == i + 1) && !(q.1 + 1 == i && q.2.category == 2))))) : ts_L ad nL LL ((ls.set i (some v)).set (i + 1) none) la' := by
  refine ⟨by rw [List.length_set, List.length_set]; exact h.1, h'.1, h'.2.1, fun k w e => ?_, fun k w e hw => ?_⟩
  · by_cases hk1 : k = i + 1
    · subst hk1
      rw [List.getElem?_set_self (by rw [List.length_set, h.1]; exact hi)] at e
      cases e
    · rw [List.getElem?_set_ne (Ne.symm hk1)] at e
      by_cases hki : k = i
      · subst hki
        rw [List.getElem?_set_self (by rw [h.1]; omega)] at e
        cases e
        exact h'.2.2 _ List.mem_cons_self
      · rw [List.getElem?_set_ne (Ne.symm hki)] at e
        refine h'.2.2 (k, ts_v ad w) (List.mem_cons_of_mem _ (List.mem_filter.mpr ⟨ts_as_mem.mpr ⟨k, w, e, rfl⟩, ?_⟩))
        by_cases h2 : w.category = 2
        · have hn : ¬ k + 1 = i := fun z => hk k z (h.2.2.2.2 k w e h2)
          simp [hki, hn, hk1]
        · simp [hki, ts_v_cat, h2, hk1]
  · by_cases hk1 : k = i + 1
    · subst hk1
      rw [List.getElem?_set_self (by rw [List.length_set, h.1]; exact hi)] at e
      cases e
    · rw [List.getElem?_set_ne (Ne.symm hk1)] at e
      by_cases hki : k = i
      · subst hki; exact hL
      · rw [List.getElem?_set_ne (Ne.symm hki)] at e
        exact h.2.2.2.2 k w e hw
/-- what an instruction's own numbers must keep to -/
def ts_lk (LL : List Nat) (k : Nat) : Bool := decide (k = 0 ∨ k - 1 ∉ LL)
def ts_ck (LL : List Nat) (pc : Nat) (i : Instr) : Bool := match i with
  | .istore k => ts_lk LL k
  | .istore_n k => ts_lk LL (k : Nat)
  | .astore k => ts_lk LL k
  | .astore_n k => ts_lk LL (k : Nat)
  | .iinc k _ => ts_lk LL k
  | .lstore k => ts_lk LL k && decide (k ∈ LL)
  | .lstore_n k => ts_lk LL (k : Nat) && decide ((k : Nat) ∈ LL)
  | .goto o => decide (0 ≤ (pc : Int) + o)
  | .if_icmp _ o => decide (0 ≤ (pc : Int) + o)
  | .ifCond _ o => decide (0 ≤ (pc : Int) + o)
  | .ifnull o => decide (0 ≤ (pc : Int) + o)
  | .ifnonnull o => decide (0 ≤ (pc : Int) + o)
  | .tableswitch d lo hi offs => decide (0 ≤ (pc : Int) + d) && decide (offs.toList.length = (hi - lo + 1).toNat) && offs.toList.all (fun o => decide (0 ≤ (pc : Int) + o))
  | _ => true
/-- an instruction's length -/
def ts_ln (i : Instr) (x : tm_X) : Nat := match i with
  | .bipush _ => 2
  | .sipush _ => 3
  | .ldc _ => 2
  | .ldc_w _ => 3
  | .ldc2_w _ => 3
  | .iload _ => 2
  | .lload _ => 2
  | .aload _ => 2
  | .istore _ => 2
  | .lstore _ => 2
  | .astore _ => 2
  | .iinc _ _ => 3
  | .goto _ => 3
  | .if_icmp _ _ => 3
  | .ifCond _ _ => 3
  | .ifnull _ => 3
  | .ifnonnull _ => 3
  | .tableswitch _ _ _ _ => x.1
  | .getfield _ => 3
  | .putfield _ => 3
  | .getstatic _ => 3
  | .new _ => 3
  | .newarray _ => 2
  | .anewarray _ => 3
  | .multianewarray _ _ => 4
  | .invokestatic _ => 3
  | .invokevirtual _ => 3
  | .invokespecial _ => 3
  | _ => 1
theorem ts_lk_spec {LL : List Nat} {k : Nat} (h : ts_lk LL k = true) : ∀ q, q + 1 = k → q ∉ LL := by
  intro q hq
  unfold ts_lk at h
  rw [decide_eq_true_eq] at h
  rcases h with h | h
  · omega
  · have : q = k - 1 := by omega
    rw [this]; exact h
theorem ts_tg {pc : Nat} {o : Int} (h : 0 ≤ (pc : Int) + o) : (pc : Int) + o = ((tm_tg pc o : Nat) : Int) := by
  unfold tm_tg
  omega
section TSQ
variable {p : Program} {l : Launch} {e : Env} {R : Room} {s : State} {m : MethodId} {args : Array Value} {below : List Frame} {meth : Method} {c : Code} {H : Heap} {locs : List Loc} {cells slots : Nat} {Q : State → Prop}
variable {cc : ByteArray} {pc pc' nL : Nat} {ls ls' : tm_Lo} {st st' : List Value} {la : Array Slot} {ad : Nat → Nat} {LL : List Nat} {x : tm_X} {own : String}
theorem ts_inv_ld {v : Option Value} {n : Nat} (h : tm_ld pc n ls st v = some (pc', ls', st')) : ∃ w, v = some w ∧ pc' = pc + n ∧ ls' = ls ∧ st' = w :: st := by
  obtain ⟨w, e1, e2⟩ := Option.map_eq_some_iff.mp h
  cases e2
  exact ⟨w, e1, rfl, rfl, rfl⟩
theorem ts_inv_ldI {k : Nat} {w : Value} (h : tm_ldI ls k = some w) : ∃ v, w = .int v ∧ ls[k]? = some (some (.int v)) := by
  unfold tm_ldI at h
  split at h
  next v hv => cases h; exact ⟨v, rfl, hv⟩
  next => cases h
theorem ts_inv_ldJ {k : Nat} {w : Value} (h : tm_ldJ ls k = some w) : ∃ v, w = .long v ∧ ls[k]? = some (some (.long v)) := by
  unfold tm_ldJ at h
  split at h
  next v hv => cases h; exact ⟨v, rfl, hv⟩
  next => cases h
theorem ts_inv_ldA {k : Nat} {w : Value} (h : tm_ldA ls k = some w) : (∃ v, w = .ref v ∧ ls[k]? = some (some (.ref v))) ∨ (w = .null ∧ ls[k]? = some (some .null)) := by
  unfold tm_ldA at h
  split at h
  next v hv => cases h; exact Or.inl ⟨v, rfl, hv⟩
  next hv => cases h; exact Or.inr ⟨rfl, hv⟩
  next => cases h
theorem ts_inv_st {q : Option (tm_Lo × List Value)} {n : Nat} (h : tm_st pc n q = some (pc', ls', st')) : q = some (ls', st') ∧ pc' = pc + n := by
  obtain ⟨w, e1, e2⟩ := Option.map_eq_some_iff.mp h
  cases e2
  exact ⟨e1, rfl⟩
theorem ts_inv_stI {k : Nat} (h : tm_stI ls k st = some (ls', st')) : ∃ v, st = .int v :: st' ∧ k < ls.length ∧ ls' = ls.set k (some (.int v)) := by
  unfold tm_stI at h
  split at h
  next v r =>
    split at h
    next hk => cases h; exact ⟨v, rfl, hk, rfl⟩
    next => cases h
  next => cases h
theorem ts_inv_stJ {k : Nat} (h : tm_stJ ls k st = some (ls', st')) : ∃ v, st = .long v :: st' ∧ k + 1 < ls.length ∧ ls' = (ls.set k (some (.long v))).set (k + 1) none := by
  unfold tm_stJ at h
  split at h
  next v r =>
    split at h
    next hk => cases h; exact ⟨v, rfl, hk, rfl⟩
    next => cases h
  next => cases h
theorem ts_inv_stA {k : Nat} (h : tm_stA ls k st = some (ls', st')) : (∃ v, st = .ref v :: st' ∧ k < ls.length ∧ ls' = ls.set k (some (.ref v))) ∨ (st = .null :: st' ∧ k < ls.length ∧ ls' = ls.set k (some .null)) := by
  unfold tm_stA at h
  split at h
  next v r =>
    split at h
    next hk => cases h; exact Or.inl ⟨v, rfl, hk, rfl⟩
    next => cases h
  next r =>
    split at h
    next hk => cases h; exact Or.inr ⟨rfl, hk, rfl⟩
    next => cases h
  next => cases h
theorem ts_inv_sk {q : Option (List Value)} {n : Nat} (h : tm_sk pc n ls q = some (pc', ls', st')) : q = some st' ∧ pc' = pc + n ∧ ls' = ls := by
  obtain ⟨w, e1, e2⟩ := Option.map_eq_some_iff.mp h
  cases e2
  exact ⟨e1, rfl, rfl⟩
theorem ts_inv_jp {q : Option (Nat × List Value)} (h : tm_jp ls q = some (pc', ls', st')) : q = some (pc', st') ∧ ls' = ls := by
  obtain ⟨w, e1, e2⟩ := Option.map_eq_some_iff.mp h
  cases e2
  exact ⟨e1, rfl⟩
theorem ts_inv_bin {f : Int32 → Int32 → Option Int32} (h : tm_bin f st = some st') : ∃ a b r z, st = .int b :: .int a :: r ∧ f a b = some z ∧ st' = .int z :: r := by
  unfold tm_bin at h
  split at h
  next y z r =>
    obtain ⟨w, e1, e2⟩ := Option.map_eq_some_iff.mp h
    exact ⟨_, _, _, w, rfl, e1, e2.symm⟩
  next => cases h
theorem ts_inv_br2 {f : Int32 → Int32 → Bool} {t g : Nat} (h : tm_br2 f t g st = some (pc', st')) : ∃ a b, st = .int b :: .int a :: st' ∧ pc' = if f a b then t else g := by
  unfold tm_br2 at h
  split at h
  next y z r => cases h; exact ⟨_, _, rfl, rfl⟩
  next => cases h
theorem ts_inv_br1 {f : Int32 → Bool} {t g : Nat} (h : tm_br1 f t g st = some (pc', st')) : ∃ a, st = .int a :: st' ∧ pc' = if f a then t else g := by
  unfold tm_br1 at h
  split at h
  next y r => cases h; exact ⟨_, rfl, rfl⟩
  next => cases h
theorem ts_inv_brN {t g : Nat} (h : tm_brN t g st = some (pc', st')) : (st = .null :: st' ∧ pc' = t) ∨ ∃ a, st = .ref a :: st' ∧ pc' = g := by
  unfold tm_brN at h
  split at h
  next r => cases h; exact Or.inl ⟨rfl, rfl⟩
  next a r => cases h; exact Or.inr ⟨a, rfl, rfl⟩
  next => cases h
end TSQ
