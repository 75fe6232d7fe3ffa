/-! One step of the small machine, and a whole run of it, as the real machine does them. -/
theorem ts_cl_get {ci : Nat} (h : ci < 11) : ∃ (C : String) (T : u_T) (N : Nat), ts_cl[ci]? = some (C, T, N) ∧ ts_N ci = N ∧ (∀ k, ts_ct ci k = T k) ∧ ts_cn ci = C := by
  obtain ⟨⟨C, T, N⟩, hq⟩ : ∃ q, ts_cl[ci]? = some q := ⟨_, List.getElem?_eq_getElem (show ci < ts_cl.length from h)⟩
  exact ⟨C, T, N, hq, by unfold ts_N; rw [hq]; rfl, fun k => by unfold ts_ct; rw [hq]; rfl, by unfold ts_cn; rw [hq]; rfl⟩
def ts_Z (b0 : Nat) (ad : Nat → Nat) (U : State) (H : Heap) : Prop := va_Z "TidingsDesk$Tape" "MARKS" "[C" (.ref (ad 1)) (fun q => b0 ≤ q) U H ∧ va_Z "TidingsDesk$Tape" "HIGHEST" "[I" (.ref (ad 2)) (fun q => b0 ≤ q) U H
def ts_C (b0 : Nat) (ad : Nat → Nat) (D : va_G) (cA : Nat → ClassId) (p : Program) (R : Room) (s : State) (m : MethodId) (args : Array Value) (meth : Method) (c : Code) (j d : Nat) : Prop :=
  p.tables.exec = Jvm.exec ∧ c.code = (ts_mt j).2.2.1 ∧ meth.sig.returnType = (ts_mt j).2.2.2.2 ∧ c.maxLocals = tm_ml j ∧ s.vm.findClass (ts_mt j).1 = some m.cls ∧ (∀ w ∈ ts_G, w.before args s = true) ∧ meth.locks = false ∧ ((ts_mt j).2.1.name = "<init>" → meth.name = "<init>") ∧ va_K D ts_cl (ts_tys cA) s ∧ (∀ w ∈ ts_sp, va_Nw w s) ∧ d ≤ R.frames ∧ 64 * d ≤ R.locals ∧ b0 ≤ s.heap.size ∧ ts_Z b0 ad s s.heap
section TSS
variable {p : Program} {l : Launch} {e : Env} {R : Room} {s : State} {m : MethodId} {args : Array Value} {below : List Frame} {meth : Method} {c : Code} {H : Heap} {locs : List Loc} {cells slots : Nat} {Q : State → Prop}
variable {b0 : Nat} {ad : Nat → Nat} {D : va_G} {cA : Nat → ClassId}
theorem ts_fvI {t a k : Nat} {h : tm_H} (ht : t ≠ 1 ∧ t ≠ 2) : tm_fv t a k h = .int (h.2.1 a k) := by unfold tm_fv; rw [if_neg ht.1, if_neg ht.2]
set_option maxHeartbeats 4000000 in
theorem ts_h {j d pc pc' : Nat} {ls ls' : tm_Lo} {st st' : List Value} {h h' : tm_H} {la : Array Slot} {x : tm_X} {i : Instr} (hA3 : ∀ k, 3 ≤ k → ad k = b0 + (k - 3)) (hj : ts_jok j) (hC : ts_C b0 ad D cA p R s m args meth c j d) (ho : tm_op j pc = some (i, x)) (hR : ts_R b0 ad D cA h s H) (hS : va_S (fun q => b0 ≤ q) s.heap H locs) (hl : ts_L ad (tm_ml j) (ts_lL j) ls la) (hq : tm_h i x pc ls st h = some (pc', ls', st', h')) (hcells : cells + (h'.1.1 - h.1.1) ≤ R.cells) (hslots : slots + (h'.1.2.1 - h.1.2.1) ≤ R.slots)
    (kk : ∀ (H1 : Heap) (locs1 : List Loc) (la' : Array Slot), ts_R b0 ad D cA h' s H1 → va_S (fun q => b0 ≤ q) s.heap H1 locs1 → ts_L ad (tm_ml j) (ts_lL j) ls' la' → W p l e R s m args below meth c H1 locs1 (cells + (h'.1.1 - h.1.1)) (slots + (h'.1.2.1 - h.1.2.1)) Q (F0 m pc' la' (st'.map (ts_v ad)))) : W p l e R s m args below meth c H locs cells slots Q (F0 m pc la (st.map (ts_v ad))) := by
  obtain ⟨hx, hb, hr, hml, hown, hG, hlk, hini, hK, hN, hfr, hlo, hb0, hZ⟩ := hC
  obtain ⟨hd, hw, hwn, hck, hxk⟩ := hj.1 pc i x ho
  have pure : ∀ (w : Nat × tm_Lo × List Value), tm_q i x pc ls st = some w → pc' = w.1 → ls' = w.2.1 → st' = w.2.2 → h' = h → (∀ w9 ∈ ts_wq (ts_mt j).1 i x, w9 ∈ ts_G) → W p l e R s m args below meth c H locs cells slots Q (F0 m pc la (st.map (ts_v ad))) := by
    intro w e1 e2 e3 e4 e5 hwq
    obtain ⟨w1, w2, w3⟩ := w
    dsimp only at e2 e3 e4
    subst e2; subst e3; subst e4; subst e5
    refine ts_q hx hb hown (fun w9 h9 => hG w9 (hwq w9 h9)) hd hck hl e1 (fun la' hl' => ?_)
    have := kk H locs la' hR hS hl'
    rw [Nat.sub_self, Nat.sub_self] at this
    exact this
  have pure' : (tm_q i x pc ls st).map (fun w => (w.1, w.2.1, w.2.2, h)) = some (pc', ls', st', h') → (∀ w9 ∈ ts_wq (ts_mt j).1 i x, w9 ∈ ts_G) → W p l e R s m args below meth c H locs cells slots Q (F0 m pc la (st.map (ts_v ad))) := by
    intro e1 hwq
    obtain ⟨w, f1, f2⟩ := Option.map_eq_some_iff.mp e1
    cases f2
    exact pure w f1 rfl rfl rfl rfl hwq
  have same : ∀ {la1 : Array Slot} {pc1 : Nat} {ls1 : tm_Lo} {st1 : List Value}, h' = h → pc' = pc1 → ls' = ls1 → st' = st1 → ts_L ad (tm_ml j) (ts_lL j) ls1 la1 → W p l e R s m args below meth c H locs cells slots Q (F0 m pc1 la1 (st1.map (ts_v ad))) := by
    intro la1 pc1 ls1 st1 e1 e2 e3 e4 hl1
    subst e1; subst e2; subst e3; subst e4
    have := kk H locs la1 hR hS hl1
    rw [Nat.sub_self, Nat.sub_self] at this
    exact this
  have writ : ∀ (H1 : Heap) (locs1 : List Loc) {pc1 : Nat} {st1 : List Value}, h'.1 = h.1 → pc' = pc1 → ls' = ls → st' = st1 → ts_R b0 ad D cA h' s H1 → va_S (fun q => b0 ≤ q) s.heap H1 locs1 → W p l e R s m args below meth c H1 locs1 cells slots Q (F0 m pc1 la (st1.map (ts_v ad))) := by
    intro H1 locs1 pc1 st1 e1 e2 e3 e4 hR1 hS1
    subst e2; subst e3; subst e4
    have := kk H1 locs1 la hR1 hS1 hl
    rw [e1, Nat.sub_self, Nat.sub_self] at this
    exact this
  cases i with
  | getfield k =>
    obtain ⟨w, e1, e2⟩ := Option.map_eq_some_iff.mp hq
    cases e2
    unfold tm_gf at e1
    split at e1
    next a r =>
      split at e1
      next hsh =>
        cases e1
        simp only [ts_xk, ts_fk, Bool.and_eq_true, decide_eq_true_eq] at hxk
        obtain ⟨C, T, N, hc, eN, eT, eC⟩ := ts_cl_get hxk.1.1
        obtain ⟨c1, c2, c3, c4⟩ := ts_cl_ok _ _ _ _ hc
        refine ts_get hx hb hG c1 hown hK hR hc (by rw [← eN]; exact hxk.1.2) hxk.2 ?_ hd hsh (same rfl rfl rfl rfl hl)
        by_cases hz : x.2.2.2 = 1
        · right
          refine ⟨"TidingsDesk", va_Nw.use rfl (hN _ (hwn _ ?_))⟩
          simp only [ts_wn, hz, if_true, eT]
          exact List.mem_cons_self
        · left
          refine hG _ (hw _ ?_)
          simp only [ts_wh, hz, if_false, eT]
          exact List.mem_cons_self
      next => cases e1
    next => cases e1
  | putfield k =>
    obtain ⟨w, e1, e2⟩ := Option.map_eq_some_iff.mp hq
    cases e2
    simp only [ts_xk, ts_fk, Bool.and_eq_true, Bool.or_eq_true, decide_eq_true_eq] at hxk
    obtain ⟨C, T, N, hc, eN, eT, eC⟩ := ts_cl_get hxk.1.1.1
    obtain ⟨c1, c2, c3, c4⟩ := ts_cl_ok _ _ _ _ hc
    have hf : x.2.2.1 < N := by rw [← eN]; exact hxk.1.1.2
    have hlink : (Cond.fieldLink (ts_mt j).1 k (T x.2.2.1).1 (T x.2.2.1).2.1 (T x.2.2.1).2.2.1).before args s = true := by
      refine hG _ (hw _ ?_)
      simp only [ts_wh, eT]
      exact List.mem_cons_self
    have hfin : (T x.2.2.1).2.2.2 = false ∨ ((T x.2.2.1).2.2.2 = true ∧ meth.name = "<init>" ∧ (T x.2.2.1).1 = (ts_mt j).1) := by
      rcases hxk.2 with q | q
      · left; rw [← eT]; exact q
      · right; rw [← eT]; exact ⟨q.1.1, hini q.1.2, q.2⟩
    have hkd := hxk.1.2
    unfold tm_pf at e1
    split at e1
    next v a r ht =>
      split at e1
      next hsh =>
        cases e1
        rw [ht] at hkd
        have hty : ts_ty x.2.1 x.2.2.1 = .int := by revert hkd; cases ts_ty x.2.1 x.2.2.1 <;> simp [ts_kd]
        refine ts_put (v := .int v) (h' := (h.1, up2 h.2.1 a x.2.2.1 v, h.2.2.1, h.2.2.2)) hA3 hx hb hG c1 c2 c3 hown hK hR hS hc hf hlink hfin (by rw [hty]; rfl) (by rw [hty]; rfl) hd hsh rfl (fun _ hk9 => up2_row hk9) (fun _ _ => rfl) (fun _ _ => rfl) (by rw [hkd]; exact congrArg Value.int up2_at) (fun g hg => ?_) (fun H1 locs1 hR1 hS1 => writ H1 locs1 rfl rfl rfl rfl hR1 hS1)
        unfold tm_fv
        dsimp only
        rw [up2_ne hg]
      next => cases e1
    next v a r ht =>
      split at e1
      next hsh =>
        cases e1
        rw [ht] at hkd
        have hty : ts_ty x.2.1 x.2.2.1 = .long := by revert hkd; cases ts_ty x.2.1 x.2.2.1 <;> simp [ts_kd]
        refine ts_put (v := .long v) (h' := (h.1, h.2.1, up2 h.2.2.1 a x.2.2.1 v, h.2.2.2)) hA3 hx hb hG c1 c2 c3 hown hK hR hS hc hf hlink hfin (by rw [hty]; rfl) (by rw [hty]; rfl) hd hsh rfl (fun _ _ => rfl) (fun _ hk9 => up2_row hk9) (fun _ _ => rfl) (by rw [hkd]; exact congrArg Value.long up2_at) (fun g hg => ?_) (fun H1 locs1 hR1 hS1 => writ H1 locs1 rfl rfl rfl rfl hR1 hS1)
        unfold tm_fv
        dsimp only
        rw [up2_ne hg]
      next => cases e1
    next v a r ht =>
      split at e1
      next hsh =>
        cases e1
        rw [ht] at hkd
        have hty : narrow (ts_ty x.2.1 x.2.2.1) (.ref (ad v)) = .ref (ad v) ∧ fits (ts_ty x.2.1 x.2.2.1) (.ref (ad v)) = true := by
          revert hkd
          cases ts_ty x.2.1 x.2.2.1 <;> simp [ts_kd, narrow, fits]
        refine ts_put (v := .ref v) (h' := (h.1, h.2.1, h.2.2.1, up2 h.2.2.2 a x.2.2.1 (some v))) hA3 hx hb hG c1 c2 c3 hown hK hR hS hc hf hlink hfin hty.1 hty.2 hd hsh rfl (fun _ _ => rfl) (fun _ _ => rfl) (fun _ hk9 => up2_row hk9) (by rw [hkd]; exact congrArg tm_rf up2_at) (fun g hg => ?_) (fun H1 locs1 hR1 hS1 => writ H1 locs1 rfl rfl rfl rfl hR1 hS1)
        unfold tm_fv
        dsimp only
        rw [up2_ne hg]
      next => cases e1
    next v a r ht =>
      split at e1
      next hsh =>
        cases e1
        rw [ht] at hkd
        have hty : ts_ty x.2.1 x.2.2.1 = .boolean := by revert hkd; cases ts_ty x.2.1 x.2.2.1 <;> simp [ts_kd]
        refine ts_put (v := .int v) (h' := (h.1, up2 h.2.1 a x.2.2.1 v, h.2.2.1, h.2.2.2)) hA3 hx hb hG c1 c2 c3 hown hK hR hS hc hf hlink hfin (by rw [hty]; rcases hsh.2 with q | q <;> rw [q] <;> rfl) (by rw [hty]; rcases hsh.2 with q | q <;> rw [q] <;> rfl) hd hsh.1 rfl (fun _ hk9 => up2_row hk9) (fun _ _ => rfl) (fun _ _ => rfl) (by rw [hkd]; exact congrArg Value.int up2_at) (fun g hg => ?_) (fun H1 locs1 hR1 hS1 => writ H1 locs1 rfl rfl rfl rfl hR1 hS1)
        unfold tm_fv
        dsimp only
        rw [up2_ne hg]
      next => cases e1
    next => cases e1
  | iaload =>
    obtain ⟨w, e1, e2⟩ := Option.map_eq_some_iff.mp hq
    cases e2
    unfold tm_al at e1
    split at e1
    next v a r =>
      split at e1
      next hsh => cases e1; exact ts_iald hx hb hK hR hd hsh.1 hsh.2 (same rfl rfl rfl rfl hl)
      next => cases e1
    next => cases e1
  | caload =>
    obtain ⟨w, e1, e2⟩ := Option.map_eq_some_iff.mp hq
    cases e2
    unfold tm_al at e1
    split at e1
    next v a r =>
      split at e1
      next hsh => cases e1; exact ts_cald hx hb hR hd hsh.1 hsh.2 (same rfl rfl rfl rfl hl)
      next => cases e1
    next => cases e1
  | laload =>
    obtain ⟨w, e1, e2⟩ := Option.map_eq_some_iff.mp hq
    cases e2
    unfold tm_al at e1
    split at e1
    next v a r =>
      split at e1
      next hsh => cases e1; exact ts_lald hx hb hK hR hd hsh.1 hsh.2 (same rfl rfl rfl rfl hl)
      next => cases e1
    next => cases e1
  | aaload =>
    obtain ⟨w, e1, e2⟩ := Option.map_eq_some_iff.mp hq
    cases e2
    unfold tm_ala at e1
    split at e1
    next v a r =>
      split at e1
      next hsh => cases e1; exact ts_aald hx hb hK hR hd hsh.1 hsh.2 (same rfl rfl rfl rfl hl)
      next => cases e1
    next => cases e1
  | arraylength =>
    obtain ⟨w, e1, e2⟩ := Option.map_eq_some_iff.mp hq
    cases e2
    unfold tm_len at e1
    split at e1
    next a r =>
      split at e1
      next hsh => cases e1; exact ts_alen hx hb hK hR hd hsh (same rfl rfl rfl rfl hl)
      next => cases e1
    next => cases e1
  | iastore =>
    obtain ⟨w, e1, e2⟩ := Option.map_eq_some_iff.mp hq
    cases e2
    unfold tm_asI at e1
    split at e1
    next u v a r =>
      split at e1
      next hsh => cases e1; exact ts_iast hA3 hx hb hK hR hS hd hsh.1 hsh.2.1 hsh.2.2 (fun H1 locs1 hR1 hS1 => writ H1 locs1 rfl rfl rfl rfl hR1 hS1)
      next => cases e1
    next => cases e1
  | lastore =>
    obtain ⟨w, e1, e2⟩ := Option.map_eq_some_iff.mp hq
    cases e2
    unfold tm_asJ at e1
    split at e1
    next u v a r =>
      split at e1
      next hsh => cases e1; exact ts_last hA3 hx hb hK hR hS hd hsh.1 hsh.2.1 hsh.2.2 (fun H1 locs1 hR1 hS1 => writ H1 locs1 rfl rfl rfl rfl hR1 hS1)
      next => cases e1
    next => cases e1
  | aastore =>
    obtain ⟨w, e1, e2⟩ := Option.map_eq_some_iff.mp hq
    cases e2
    unfold tm_asA at e1
    split at e1
    next u v a r =>
      split at e1
      next hsh =>
        cases e1
        rcases hsh.2.1 with q | q
        · exact ts_aast (ci := 8) (t0 := 3) hA3 hx hb hK hR hS hd hsh.1 (Or.inl q.1) q.2 rfl (by rw [q.1]; rfl) hsh.2.2 (fun H1 locs1 hR1 hS1 => writ H1 locs1 rfl rfl rfl rfl hR1 hS1)
        · exact ts_aast (ci := 0) (t0 := 4) hA3 hx hb hK hR hS hd hsh.1 (Or.inr q.1) q.2 rfl (by rw [q.1]; rfl) hsh.2.2 (fun H1 locs1 hR1 hS1 => writ H1 locs1 rfl rfl rfl rfl hR1 hS1)
      next => cases e1
    next => cases e1
  | new k =>
    cases hq
    simp only [ts_xk, Bool.and_eq_true, decide_eq_true_eq] at hxk
    obtain ⟨C, T, N, hc, eN, eT, eC⟩ := ts_cl_get hxk.1
    obtain ⟨c1, c2, c3, c4⟩ := ts_cl_ok _ _ _ _ hc
    have eN2 : x.2.2.1 = N := by rw [← eN]; exact hxk.2.symm
    have n1 : (tm_nw (0, x.2.1) x.2.2.1 h).1.1 - h.1.1 = 1 := by show h.1.1 + 1 - h.1.1 = 1; omega
    have n2 : (tm_nw (0, x.2.1) x.2.2.1 h).1.2.1 - h.1.2.1 = N := by show h.1.2.1 + x.2.2.1 - h.1.2.1 = N; omega
    rw [n1] at hcells
    rw [n2] at hslots
    have w1 : (Cond.classLink (ts_mt j).1 k C).before args s = true := hG _ (hw _ (by simp [ts_wh, eC]))
    have w2 : (Cond.instantiable C N).before args s = true := hG _ (hw _ (by simp [ts_wh, eC, eN2]))
    have w3 : (Cond.initialized C).before args s = true := hG _ (hw _ (by simp [ts_wh, eC]))
    refine ts_new hA3 hx hb hG c1 c2 c4 hown w1 w2 w3 hK hR hS hc hcells hslots hd (fun H1 hR1 hS1 => ?_)
    rw [eN2] at kk n1 n2
    have := kk H1 locs la hR1 hS1 hl
    rw [n1, n2] at this
    exact this
  | newarray t =>
    obtain ⟨w, e1, e2⟩ := Option.map_eq_some_iff.mp hq
    cases e2
    unfold tm_na at e1
    split at e1
    next v r =>
      split at e1
      next hv =>
        cases e1
        have n1 : (tm_nw (x.1, tm_ix v) (tm_ix v) h).1.1 - h.1.1 = 1 := by show h.1.1 + 1 - h.1.1 = 1; omega
        have n2 : (tm_nw (x.1, tm_ix v) (tm_ix v) h).1.2.1 - h.1.2.1 = tm_ix v := by show h.1.2.1 + tm_ix v - h.1.2.1 = tm_ix v; omega
        dsimp only at hcells hslots kk
        rw [n1] at hcells
        rw [n2] at hslots
        simp only [ts_xk, decide_eq_true_eq] at hxk
        have w1 : (Cond.arrayClass (newarray.typeOf t)).before args s = true := hG _ (hw _ (by simp [ts_wh]))
        refine ts_newa (q := x.1) (t0 := if x.1 = 1 then 0 else 1) hA3 hx hb w1 (by rcases hxk with ⟨q1, q2⟩ | ⟨q1, q2⟩ <;> simp [q1, q2]) hK hR hS hv hcells hslots hd (fun H1 hR1 hS1 => ?_)
        have := kk H1 locs la hR1 hS1 hl
        rw [n1, n2] at this
        exact this
      next => cases e1
    next => cases e1
  | anewarray k =>
    obtain ⟨w, e1, e2⟩ := Option.map_eq_some_iff.mp hq
    cases e2
    unfold tm_na at e1
    split at e1
    next v r =>
      split at e1
      next hv =>
        cases e1
        have n1 : (tm_nw (x.1, tm_ix v) (tm_ix v) h).1.1 - h.1.1 = 1 := by show h.1.1 + 1 - h.1.1 = 1; omega
        have n2 : (tm_nw (x.1, tm_ix v) (tm_ix v) h).1.2.1 - h.1.2.1 = tm_ix v := by show h.1.2.1 + tm_ix v - h.1.2.1 = tm_ix v; omega
        dsimp only at hcells hslots kk
        rw [n1] at hcells
        rw [n2] at hslots
        simp only [ts_xk, decide_eq_true_eq] at hxk
        have w1 := hG _ (hw _ (by simp only [ts_wh]; exact List.mem_cons_self))
        have w2 := hN _ (hwn _ (by simp only [ts_wn]; exact List.mem_cons_self))
        refine ts_anew (q := x.1) (t0 := if x.1 = 4 then 3 else 4) hA3 hx hb hown w1 (ts_over_use w2) hxk (by rcases hxk with q | q <;> simp [q, ts_tys]) hK hR hS hv hcells hslots hd (fun H1 hR1 hS1 => ?_)
        have := kk H1 locs la hR1 hS1 hl
        rw [n1, n2] at this
        exact this
      next => cases e1
    next => cases e1
  | multianewarray k dm =>
    obtain ⟨w, e1, e2⟩ := Option.map_eq_some_iff.mp hq
    cases e2
    unfold tm_mna at e1
    split at e1
    next v u r =>
      split at e1
      next hv =>
        cases e1
        have n1 : (tm_mn (tm_ix u) (tm_ix v) h).1.1 - h.1.1 = 1 + tm_ix u := by show h.1.1 + 1 + tm_ix u - h.1.1 = 1 + tm_ix u; omega
        have n2 : (tm_mn (tm_ix u) (tm_ix v) h).1.2.1 - h.1.2.1 = tm_ix u + tm_ix u * tm_ix v := by show h.1.2.1 + tm_ix u + tm_ix u * tm_ix v - h.1.2.1 = _; omega
        dsimp only at hcells hslots kk
        rw [n1] at hcells
        rw [n2] at hslots
        simp only [ts_xk, decide_eq_true_eq] at hxk
        subst hxk
        have w1 := hG _ (hw (.classLink (ts_mt j).1 k ("[" ++ (FieldType.array .int).toString)) (by simp only [ts_wh]; exact List.mem_cons_self))
        have w3 := hG _ (hw (.arrayClass .int) (by simp only [ts_wh]; exact List.mem_cons_of_mem _ List.mem_cons_self))
        have w2 := hN _ (hwn (.arrayOver (.array .int)) (by simp only [ts_wn]; exact List.mem_cons_self))
        refine ts_mna hA3 hx hb hown w1 (ts_over_use w2) w3 hK hR hS hv.1 hv.2.1 hv.2.2.1 hv.2.2.2 hcells hslots hd (fun H1 hR1 hS1 => ?_)
        have := kk H1 locs la hR1 hS1 hl
        rw [n1, n2, ← Nat.add_assoc, ← Nat.add_assoc] at this
        exact this
      next => cases e1
    next => cases e1
  | getstatic k =>
    cases hq
    simp only [ts_xk, decide_eq_true_eq] at hxk
    have w1 := hG _ (hw _ (by simp only [ts_wh]; exact List.mem_cons_self))
    rcases hxk with q | q
    · simp only [q, if_true] at w1
      have k9 := same (la1 := la) (pc1 := pc + 3) (ls1 := ls) (st1 := .ref x.1 :: st) rfl rfl rfl rfl hl
      rw [q] at k9
      exact va_gets hx hb hZ.1 hS hown w1 (fun _ h9 => h9) hd k9
    · simp only [q] at w1
      have k9 := same (la1 := la) (pc1 := pc + 3) (ls1 := ls) (st1 := .ref x.1 :: st) rfl rfl rfl rfl hl
      rw [q] at k9
      exact va_gets hx hb hZ.2 hS hown w1 (fun _ h9 => h9) hd k9
  | ldc k => exact pure' hq (fun w9 h9 => hw w9 h9)
  | ldc_w k => exact pure' hq (fun w9 h9 => hw w9 h9)
  | ldc2_w k => exact pure' hq (fun w9 h9 => hw w9 h9)
  | _ => exact pure' hq (fun w9 h9 => by cases h9)
end TSS
