section TSH
variable {p : Program} {l : Launch} {e : Env} {R : Room} {s : State} {m : MethodId} {args : Array Value} {below : List Frame} {meth : Method} {c : Code} {H : Heap} {locs : List Loc} {cells slots : Nat} {Q : State → Prop}
variable {cc : ByteArray} {pc : Nat} {la : Array Slot} {rest : List Value} {b0 : Nat} {ad : Nat → Nat} {D : va_G} {cA : Nat → ClassId} {h : tm_H} {a : Nat} {own : String} {Ts : List Jvm.Cond}
theorem ts_P1 {cl : List vw_C} {q : Nat × va_E} (hq : va_at D cl q H) : va_P D cl [q] H := by
  intro k r hk
  have h0 : k < 1 := (List.getElem?_eq_some_iff.mp hk).1
  rw [show k = 0 by omega] at hk
  cases hk
  exact hq
theorem ts_in {v : Int32} {n : Nat} (hv : tm_in v n) : vp_in v n := vp_in_iff.mpr hv
theorem ts_obj {ci : Nat} (hR : ts_R b0 ad D cA h s H) (hsh : h.1.2.2 a = (0, ci)) : 3 ≤ a ∧ va_at D ts_cl (ad a, .inr (ci, ts_fs ad ci a h)) H := by
  have h3 : 3 ≤ a := hR.ge3 (by simp [hsh])
  have hlt : a < h.1.1 := hR.lt (by simp [hsh])
  have hat := (hR.2.2.2.1 a h3 hlt).2
  have e1 : ts_e ad cA h a = .inr (ci, ts_fs ad ci a h) := by simp [ts_e, hsh]
  rw [e1] at hat
  exact ⟨h3, hat⟩
theorem ts_get {w ci f t : Nat} {C : String} {T : u_T} {N : Nat} (hx : p.tables.exec = Jvm.exec) (hb : c.code = cc) (hts : ∀ w ∈ Ts, w.before args s = true) (hin : ∀ w ∈ u_ws C T N, w ∈ Ts) (hown : s.vm.findClass own = some m.cls) (hK : va_K D ts_cl (ts_tys cA) s) (hR : ts_R b0 ad D cA h s H)
    (hc : ts_cl[ci]? = some (C, T, N)) (hf : f < N) (ht : ts_kd (ts_ty ci f) = t) (hlink : (Cond.fieldLink own w (T f).1 (T f).2.1 (T f).2.2.1).before args s = true ∨ ∃ host, (Cond.fieldLinkNest own w (T f).1 (T f).2.1 (T f).2.2.1 host).before args s = true) (hd : decode cc pc = .ok (.getfield w, 3)) (hsh : h.1.2.2 a = (0, ci))
    (kk : W p l e R s m args below meth c H locs cells slots Q (F0 m (pc + 3) la (ts_v ad (tm_fv t a f h) :: rest))) : W p l e R s m args below meth c H locs cells slots Q (F0 m pc la (.ref (ad a) :: rest)) := by
  obtain ⟨h3, hat⟩ := ts_obj hR hsh
  have hN : f < ts_N ci := by unfold ts_N; rw [hc]; exact hf
  subst ht
  rcases hlink with hl | ⟨host, hl⟩
  · exact va_get hx hb hts hin hown hK (ts_P1 hat) 0 rfl hc f hf hl (fun _ h9 => h9) (ts_fs_get hN) hd kk
  · exact va_getN hx hb hts hin hown hK (ts_P1 hat) 0 rfl hc f hf hl (fun _ h9 => h9) (ts_fs_get hN) hd kk
/-- a field is written: its cell alone changes -/
theorem ts_wput {w ci f : Nat} {C : String} {T : u_T} {N : Nat} {v : Value} {fs : List Value} {a : Nat} (hx : p.tables.exec = Jvm.exec) (hb : c.code = cc) (hts : ∀ w ∈ Ts, w.before args s = true) (hin : ∀ w ∈ u_ws C T N, w ∈ Ts) (ty0 : Nat → FieldType) (hty : ∀ k, k < N → parseFieldDescriptor (T k).2.2.1 = some (ty0 k)) (hnm : ∀ a, a < N → ∀ b, b < N → a ≠ b → (T a).2.1 ≠ (T b).2.1) (hown : s.vm.findClass own = some m.cls) (hK : va_K D ts_cl (ts_tys cA) s) (hat : va_at D ts_cl (a, .inr (ci, fs)) H)
    (hc : ts_cl[ci]? = some (C, T, N)) (hf : f < N) (hlen : f < fs.length) (hlink : (Cond.fieldLink own w (T f).1 (T f).2.1 (T f).2.2.1).before args s = true) (hfin : (T f).2.2.2 = false ∨ ((T f).2.2.2 = true ∧ meth.name = "<init>" ∧ (T f).1 = own)) (hn : narrow (ty0 f) v = v) (hfit : fits (ty0 f) v = true) (hd : decode cc pc = .ok (.putfield w, 3))
    (kk : ∀ (H1 : Heap) (k9 : Nat), va_at D ts_cl (a, .inr (ci, fs.set f v)) H1 → H1.size = H.size → (∀ q, q ≠ a → H1[q]? = H[q]?) → W p l e R s m args below meth c H1 (locs ++ [⟨a, k9⟩]) cells slots Q (F0 m (pc + 3) la rest)) : W p l e R s m args below meth c H locs cells slots Q (F0 m pc la (v :: .ref a :: rest)) := by
  have hap := va_apart (own := own) hts hin ty0 hty hnm hK hc
  obtain ⟨r, h1, cell, q1, q2, q3, q4⟩ := hat
  have hr : r = (C, T, N) := Option.some.inj (h1.symm.trans hc)
  subst hr
  obtain ⟨hS, hfc, kC, hkC, hkind⟩ := hK.1 ci _ hc
  obtain ⟨cf, kf, fi, fd, hi, hsl⟩ := hS f hf
  have hlay := hts _ (hin _ (u_in_lay hf))
  unfold u_lay at hlay
  have hst := (u_facts hfc hkC (u_lays hts hin hf) hi).1
  have hty' := hty f hf
  rcases hfin with hfin | ⟨hfin, hini, hdecl⟩
  · rw [if_neg (by rw [hfin]; decide)] at hlay
    have h6 := u_store hfc hkC hkind hlay hi hty' hn hfit
    refine W.putK hx hb (f := fd) ⟨hown, hlink, ⟨_, _, _, hi⟩, hst⟩ (by rw [q2]; exact h6) q1 q3 (by rw [hsl]; exact k2_hasslot (q4 f hf)) rfl rfl hd fun H' e1 e2 e3 => ?_
    rw [hsl] at e1 ⊢
    exact kk H' _ ⟨_, hc, t_OB.to (V := updV (vp_V fs) f v) ⟨_, e1, q2, q3, t_set q4 hap hf v⟩ (fun j _ => vp_updV_set hlen v j)⟩ e2 e3
  · rw [if_pos hfin] at hlay
    have hcf : m.cls = cf := by
      obtain ⟨_, _, c', _, _, _, -, -, hf', -, -, -, hown2, -⟩ := Cond.laysFinal_spec hlay
      have e1 : c' = cf := by have := hi.symm.trans hf'; simp at this; exact this.1.symm
      rw [hdecl] at hown2
      rw [← e1]; exact Option.some.inj (hown.symm.trans hown2)
    have h6 := u_fits hfc hkC hkind (Or.inr hlay) hi hty' hn hfit
    refine W.putFinK hx hb hown hlink hi hst hcf hini (by rw [q2]; exact h6) q1 q3 (by rw [hsl]; exact k2_hasslot (q4 f hf)) rfl rfl hd fun H' e1 e2 e3 => ?_
    rw [hsl] at e1 ⊢
    exact kk H' _ ⟨_, hc, t_OB.to (V := updV (vp_V fs) f v) ⟨_, e1, q2, q3, t_set q4 hap hf v⟩ (fun j _ => vp_updV_set hlen v j)⟩ e2 e3
/-- what a step that writes leaves of the heap's frame -/
theorem ts_Sput {H0 H1 : Heap} {k9 : Nat} (hA3 : ∀ k, 3 ≤ k → ad k = b0 + (k - 3)) (h3 : 3 ≤ a) (hS : va_S (fun q => b0 ≤ q) H0 H locs) (z : H1.size = H.size) (oq : ∀ q : Nat, q ≠ ad a → H1[q]? = H[q]?) : va_S (fun q => b0 ≤ q) H0 H1 (locs ++ [⟨ad a, k9⟩]) :=
  hS.put z oq (by show b0 ≤ ad a; rw [hA3 a h3]; omega)
theorem ts_put {w ci f : Nat} {C : String} {T : u_T} {N : Nat} {v : Value} {h' : tm_H} (hA3 : ∀ k, 3 ≤ k → ad k = b0 + (k - 3)) (hx : p.tables.exec = Jvm.exec) (hb : c.code = cc) (hts : ∀ w ∈ Ts, w.before args s = true) (hin : ∀ w ∈ u_ws C T N, w ∈ Ts) (hty : ∀ k, k < N → parseFieldDescriptor (T k).2.2.1 = some (ts_ty ci k)) (hnm : ∀ a, a < N → ∀ b, b < N → a ≠ b → (T a).2.1 ≠ (T b).2.1) (hown : s.vm.findClass own = some m.cls) (hK : va_K D ts_cl (ts_tys cA) s) (hR : ts_R b0 ad D cA h s H) (hS : va_S (fun q => b0 ≤ q) s.heap H locs)
    (hc : ts_cl[ci]? = some (C, T, N)) (hf : f < N) (hlink : (Cond.fieldLink own w (T f).1 (T f).2.1 (T f).2.2.1).before args s = true) (hfin : (T f).2.2.2 = false ∨ ((T f).2.2.2 = true ∧ meth.name = "<init>" ∧ (T f).1 = own)) (hn : narrow (ts_ty ci f) (ts_v ad v) = ts_v ad v) (hfit : fits (ts_ty ci f) (ts_v ad v) = true) (hd : decode cc pc = .ok (.putfield w, 3)) (hsh : h.1.2.2 a = (0, ci))
    (eG : h'.1 = h.1) (e1 : ∀ k, k ≠ a → h'.2.1 k = h.2.1 k) (e2 : ∀ k, k ≠ a → h'.2.2.1 k = h.2.2.1 k) (e3 : ∀ k, k ≠ a → h'.2.2.2 k = h.2.2.2 k) (hv : tm_fv (ts_kd (ts_ty ci f)) a f h' = v) (ho : ∀ g, g ≠ f → tm_fv (ts_kd (ts_ty ci g)) a g h' = tm_fv (ts_kd (ts_ty ci g)) a g h)
    (kk : ∀ (H1 : Heap) (locs1 : List Loc), ts_R b0 ad D cA h' s H1 → va_S (fun q => b0 ≤ q) s.heap H1 locs1 → W p l e R s m args below meth c H1 locs1 cells slots Q (F0 m (pc + 3) la rest)) : W p l e R s m args below meth c H locs cells slots Q (F0 m pc la (ts_v ad v :: .ref (ad a) :: rest)) := by
  obtain ⟨h3, hat⟩ := ts_obj hR hsh
  have hN : f < ts_N ci := by unfold ts_N; rw [hc]; exact hf
  refine ts_wput hx hb hts hin (ts_ty ci) hty hnm hown hK hat hc hf (by rw [ts_fs_len]; exact hN) hlink hfin hn hfit hd (fun H1 k9 hat1 z oq => ?_)
  refine kk H1 _ (hR.set hA3 h3 eG e1 e2 e3 z oq ?_) (ts_Sput hA3 h3 hS z oq)
  have e9 : ts_e ad cA h' a = .inr (ci, ts_fs ad ci a h') := by simp [ts_e, eG, hsh]
  rw [e9, ts_fs_set (h := h) hN (by rw [hv]) ho]
  exact hat1
/-- an array among the new cells -/
theorem ts_arr {q n : Nat} (hR : ts_R b0 ad D cA h s H) (hsh : h.1.2.2 a = (q, n)) (hq : q ≠ 99) (h3 : 3 ≤ a) : va_at D ts_cl (ad a, ts_e ad cA h a) H := (hR.2.2.2.1 a h3 (hR.lt (by rw [hsh]; exact hq))).2
theorem ts_iald {v : Int32} (hx : p.tables.exec = Jvm.exec) (hb : c.code = cc) (hK : va_K D ts_cl (ts_tys cA) s) (hR : ts_R b0 ad D cA h s H) (hd : decode cc pc = .ok (.iaload, 1)) (hsh : (h.1.2.2 a).1 = 1) (hi : tm_in v (h.1.2.2 a).2)
    (kk : W p l e R s m args below meth c H locs cells slots Q (F0 m (pc + 1) la (.int (h.2.1 a (tm_ix v)) :: rest))) : W p l e R s m args below meth c H locs cells slots Q (F0 m pc la (.int v :: .ref (ad a) :: rest)) := by
  rcases Nat.lt_or_ge a 3 with q | q
  · obtain ⟨h1, h2, cell, h3, h4, h5, h6, h7, h8⟩ := hR.2.2.2.2 a q
    rw [if_pos hsh] at h4
    have hvi := ts_in hi
    have hlt : v.toNatClampNeg < (h.1.2.2 a).2 := Nat.not_le.mp fun z => hvi (Or.inr z)
    exact W.iald (v := .int (h.2.1 a (tm_ix v))) hx hb h3 h4 h5 (fun z => hvi (z.imp id (fun z => Nat.le_trans h6 z))) (h8 _ hlt) rfl rfl hd kk
  · have hat := ts_arr (q := 1) (n := (h.1.2.2 a).2) hR (Prod.ext hsh rfl) (by decide) q
    have e1 : ts_e ad cA h a = .inl (cA 1, (h.1.2.2 a).2, .inl (h.2.1 a)) := by simp [ts_e, hsh]
    rw [e1] at hat
    exact va_iald hx hb hK (ts_P1 hat) 0 0 rfl rfl (ts_in hi) hd kk
theorem ts_cald {v : Int32} (hx : p.tables.exec = Jvm.exec) (hb : c.code = cc) (hR : ts_R b0 ad D cA h s H) (hd : decode cc pc = .ok (.caload, 1)) (hsh : (h.1.2.2 a).1 = 6) (hi : tm_in v (h.1.2.2 a).2)
    (kk : W p l e R s m args below meth c H locs cells slots Q (F0 m (pc + 1) la (.int (h.2.1 a (tm_ix v)) :: rest))) : W p l e R s m args below meth c H locs cells slots Q (F0 m pc la (.int v :: .ref (ad a) :: rest)) := by
  have h3 : a < 3 := by
    rcases Nat.lt_or_ge a 3 with q | q
    · exact q
    · exact absurd hsh (hR.2.2.2.1 a q (hR.lt (by rw [hsh]; decide))).1
  obtain ⟨h1, h2, cell, h3, h4, h5, h6, h7, h8⟩ := hR.2.2.2.2 a h3
  rw [if_neg (by rw [hsh]; decide)] at h4
  have hvi := ts_in hi
  have hlt : v.toNatClampNeg < (h.1.2.2 a).2 := Nat.not_le.mp fun z => hvi (Or.inr z)
  exact W.cald (v := .int (h.2.1 a (tm_ix v))) hx hb h3 h4 h5 (fun z => hvi (z.imp id (fun z => Nat.le_trans h6 z))) (h8 _ hlt) rfl rfl hd kk
theorem ts_alen (hx : p.tables.exec = Jvm.exec) (hb : c.code = cc) (hK : va_K D ts_cl (ts_tys cA) s) (hR : ts_R b0 ad D cA h s H) (hd : decode cc pc = .ok (.arraylength, 1)) (hsh : (h.1.2.2 a).1 = 1)
    (kk : W p l e R s m args below meth c H locs cells slots Q (F0 m (pc + 1) la (.int (Int32.ofNat (h.1.2.2 a).2) :: rest))) : W p l e R s m args below meth c H locs cells slots Q (F0 m pc la (.ref (ad a) :: rest)) := by
  rcases Nat.lt_or_ge a 3 with q | q
  · obtain ⟨h1, h2, cell, h3, h4, h5, h6, h7, h8⟩ := hR.2.2.2.2 a q
    exact W.alen hx hb h3 h4 h7 rfl rfl hd kk
  · have hat := ts_arr (q := 1) (n := (h.1.2.2 a).2) hR (Prod.ext hsh rfl) (by decide) q
    have e1 : ts_e ad cA h a = .inl (cA 1, (h.1.2.2 a).2, .inl (h.2.1 a)) := by simp [ts_e, hsh]
    rw [e1] at hat
    exact va_alen hx hb hK (ts_P1 hat) 0 0 rfl rfl rfl hd kk
theorem ts_lald {v : Int32} (hx : p.tables.exec = Jvm.exec) (hb : c.code = cc) (hK : va_K D ts_cl (ts_tys cA) s) (hR : ts_R b0 ad D cA h s H) (hd : decode cc pc = .ok (.laload, 1)) (hsh : (h.1.2.2 a).1 = 2) (hi : tm_in v (h.1.2.2 a).2)
    (kk : W p l e R s m args below meth c H locs cells slots Q (F0 m (pc + 1) la (.long (h.2.2.1 a (tm_ix v)) :: rest))) : W p l e R s m args below meth c H locs cells slots Q (F0 m pc la (.int v :: .ref (ad a) :: rest)) := by
  have hat := ts_arr (q := 2) (n := (h.1.2.2 a).2) hR (Prod.ext hsh rfl) (by decide) (hR.ge3 (by rw [hsh]; decide))
  have e1 : ts_e ad cA h a = .inl (cA 2, (h.1.2.2 a).2, .inr (.inl (h.2.2.1 a))) := by simp [ts_e, hsh]
  rw [e1] at hat
  exact va_lald hx hb hK (ts_P1 hat) 0 1 rfl rfl (ts_in hi) hd kk
theorem ts_aald {v : Int32} (hx : p.tables.exec = Jvm.exec) (hb : c.code = cc) (hK : va_K D ts_cl (ts_tys cA) s) (hR : ts_R b0 ad D cA h s H) (hd : decode cc pc = .ok (.aaload, 1)) (hsh : (h.1.2.2 a).1 = 3 ∨ (h.1.2.2 a).1 = 4 ∨ (h.1.2.2 a).1 = 5) (hi : tm_in v (h.1.2.2 a).2)
    (kk : W p l e R s m args below meth c H locs cells slots Q (F0 m (pc + 1) la (ts_v ad (tm_rf (h.2.2.2 a (tm_ix v))) :: rest))) : W p l e R s m args below meth c H locs cells slots Q (F0 m pc la (.int v :: .ref (ad a) :: rest)) := by
  have hvi := ts_in hi
  have hlt : v.toNatClampNeg < (h.1.2.2 a).2 := Nat.not_le.mp fun z => hvi (Or.inr z)
  have hne : (h.1.2.2 a).1 ≠ 99 := by rcases hsh with q | q | q <;> rw [q] <;> decide
  have hat := ts_arr (q := (h.1.2.2 a).1) (n := (h.1.2.2 a).2) hR rfl hne (hR.ge3 (by rcases hsh with q | q | q <;> rw [q] <;> decide))
  have e1 : ts_e ad cA h a = .inl (cA (h.1.2.2 a).1, (h.1.2.2 a).2, .inr (.inr (.inr (.inr (fun i => (h.2.2.2 a i).map ad))))) := by rcases hsh with q | q | q <;> simp [ts_e, q]
  rw [e1] at hat
  have hty : ∃ ty : FieldType, ty.isReference = true ∧ ArrOfT s (cA (h.1.2.2 a).1) ty := by
    rcases hsh with q | q | q <;> rw [q]
    · exact ⟨.array .int, rfl, (hK.2 2 _ rfl).1⟩
    · exact ⟨.object "TidingsDesk$Telling", rfl, (hK.2 3 _ rfl).1⟩
    · exact ⟨.object "TidingsDesk$Facts", rfl, (hK.2 4 _ rfl).1⟩
  obtain ⟨ty, ht1, ht2⟩ := hty
  refine W.aald (v := ts_v ad (tm_rf (h.2.2.2 a (tm_ix v)))) (ty := ty) hx hb hat (ht2 _ (fun j => va_rf ((h.2.2.2 a j).map ad))) ht1 (fun q => by cases q) (by show ¬ (v < 0 ∨ (arrV _ _ _).slots.size ≤ _); rw [arrV_size]; exact hvi) (by show (arrV _ _ _).slots[_]? = _; rw [arrV_read _ _ hlt, ts_rf]; rfl) rfl rfl hd kk
theorem ts_iast {v u : Int32} (hA3 : ∀ k, 3 ≤ k → ad k = b0 + (k - 3)) (hx : p.tables.exec = Jvm.exec) (hb : c.code = cc) (hK : va_K D ts_cl (ts_tys cA) s) (hR : ts_R b0 ad D cA h s H) (hS : va_S (fun q => b0 ≤ q) s.heap H locs) (hd : decode cc pc = .ok (.iastore, 1)) (h3 : 3 ≤ a) (hsh : (h.1.2.2 a).1 = 1) (hi : tm_in v (h.1.2.2 a).2)
    (kk : ∀ (H1 : Heap) (locs1 : List Loc), ts_R b0 ad D cA (h.1, up2 h.2.1 a (tm_ix v) u, h.2.2.1, h.2.2.2) s H1 → va_S (fun q => b0 ≤ q) s.heap H1 locs1 → W p l e R s m args below meth c H1 locs1 cells slots Q (F0 m (pc + 1) la rest)) : W p l e R s m args below meth c H locs cells slots Q (F0 m pc la (.int u :: .int v :: .ref (ad a) :: rest)) := by
  have hat := ts_arr (q := 1) (n := (h.1.2.2 a).2) hR (Prod.ext hsh rfl) (by decide) h3
  have e1 : ts_e ad cA h a = .inl (cA 1, (h.1.2.2 a).2, .inl (h.2.1 a)) := by simp [ts_e, hsh]
  rw [e1] at hat
  refine W.iast hx hb hat ((hK.2 0 _ rfl).1 _ (fun j => .int (h.2.1 a j))) (fun q => by cases q) (by show ¬ (v < 0 ∨ (arrV _ _ _).slots.size ≤ _); rw [arrV_size]; exact ts_in hi) rfl rfl hd fun H1 e9 z oq => ?_
  refine kk H1 _ (hR.set hA3 h3 rfl (fun k hk => up2_row hk) (fun _ _ => rfl) (fun _ _ => rfl) z oq ?_) (ts_Sput hA3 h3 hS z oq)
  have e2 : ts_e ad cA (h.1, up2 h.2.1 a (tm_ix v) u, h.2.2.1, h.2.2.2) a = .inl (cA 1, (h.1.2.2 a).2, .inl (up2 h.2.1 a (tm_ix v) u a)) := by simp [ts_e, hsh]
  rw [e2]
  show H1[ad a]? = some (vp_cell _ _)
  rw [e9, vp_cell_i, vp_cell_i, arrV_store]
  congr 2
  funext q
  have ei : v.toNatClampNeg = tm_ix v := rfl
  by_cases hq : q = tm_ix v
  · subst hq
    simp [updV, up2, ei]
  · simp [updV, up2, hq, ei]
theorem ts_last {v : Int32} {u : Int64} (hA3 : ∀ k, 3 ≤ k → ad k = b0 + (k - 3)) (hx : p.tables.exec = Jvm.exec) (hb : c.code = cc) (hK : va_K D ts_cl (ts_tys cA) s) (hR : ts_R b0 ad D cA h s H) (hS : va_S (fun q => b0 ≤ q) s.heap H locs) (hd : decode cc pc = .ok (.lastore, 1)) (h3 : 3 ≤ a) (hsh : (h.1.2.2 a).1 = 2) (hi : tm_in v (h.1.2.2 a).2)
    (kk : ∀ (H1 : Heap) (locs1 : List Loc), ts_R b0 ad D cA (h.1, h.2.1, up2 h.2.2.1 a (tm_ix v) u, h.2.2.2) s H1 → va_S (fun q => b0 ≤ q) s.heap H1 locs1 → W p l e R s m args below meth c H1 locs1 cells slots Q (F0 m (pc + 1) la rest)) : W p l e R s m args below meth c H locs cells slots Q (F0 m pc la (.long u :: .int v :: .ref (ad a) :: rest)) := by
  have hat := ts_arr (q := 2) (n := (h.1.2.2 a).2) hR (Prod.ext hsh rfl) (by decide) h3
  have e1 : ts_e ad cA h a = .inl (cA 2, (h.1.2.2 a).2, .inr (.inl (h.2.2.1 a))) := by simp [ts_e, hsh]
  rw [e1] at hat
  refine W.last hx hb hat ((hK.2 1 _ rfl).1 _ (fun j => .long (h.2.2.1 a j))) (fun q => by cases q) (by show ¬ (v < 0 ∨ (arrV _ _ _).slots.size ≤ _); rw [arrV_size]; exact ts_in hi) rfl rfl hd fun H1 e9 z oq => ?_
  refine kk H1 _ (hR.set hA3 h3 rfl (fun _ _ => rfl) (fun k hk => up2_row hk) (fun _ _ => rfl) z oq ?_) (ts_Sput hA3 h3 hS z oq)
  have e2 : ts_e ad cA (h.1, h.2.1, up2 h.2.2.1 a (tm_ix v) u, h.2.2.2) a = .inl (cA 2, (h.1.2.2 a).2, .inr (.inl (up2 h.2.2.1 a (tm_ix v) u a))) := by simp [ts_e, hsh]
  rw [e2]
  show H1[ad a]? = some (vp_cell _ _)
  rw [e9, vp_cell_l, vp_cell_l, arrV_store]
  congr 2
  funext q
  have ei : v.toNatClampNeg = tm_ix v := rfl
  by_cases hq : q = tm_ix v
  · subst hq
    simp [updV, up2, ei]
  · simp [updV, up2, hq, ei]
theorem ts_aast {v : Int32} {u t0 ci : Nat} {r : vw_C} (hA3 : ∀ k, 3 ≤ k → ad k = b0 + (k - 3)) (hx : p.tables.exec = Jvm.exec) (hb : c.code = cc) (hK : va_K D ts_cl (ts_tys cA) s) (hR : ts_R b0 ad D cA h s H) (hS : va_S (fun q => b0 ≤ q) s.heap H locs) (hd : decode cc pc = .ok (.aastore, 1)) (h3 : 3 ≤ a) (hsh : (h.1.2.2 a).1 = 4 ∨ (h.1.2.2 a).1 = 5) (hsu : h.1.2.2 u = (0, ci)) (hc : ts_cl[ci]? = some r) (ht : (ts_tys cA)[t0]? = some (cA (h.1.2.2 a).1, .object r.1)) (hi : tm_in v (h.1.2.2 a).2)
    (kk : ∀ (H1 : Heap) (locs1 : List Loc), ts_R b0 ad D cA (h.1, h.2.1, h.2.2.1, up2 h.2.2.2 a (tm_ix v) (some u)) s H1 → va_S (fun q => b0 ≤ q) s.heap H1 locs1 → W p l e R s m args below meth c H1 locs1 cells slots Q (F0 m (pc + 1) la rest)) : W p l e R s m args below meth c H locs cells slots Q (F0 m pc la (.ref (ad u) :: .int v :: .ref (ad a) :: rest)) := by
  have hvi := ts_in hi
  have hlt : v.toNatClampNeg < (h.1.2.2 a).2 := Nat.not_le.mp fun z => hvi (Or.inr z)
  have h0 : ¬ v < 0 := fun q => hvi (Or.inl q)
  have hne : (h.1.2.2 a).1 ≠ 99 := by rcases hsh with q | q <;> rw [q] <;> decide
  have hat := ts_arr (q := (h.1.2.2 a).1) (n := (h.1.2.2 a).2) hR rfl hne h3
  have e1 : ∀ h' : tm_H, h'.1 = h.1 → ts_e ad cA h' a = .inl (cA (h.1.2.2 a).1, (h.1.2.2 a).2, .inr (.inr (.inr (.inr (fun i => (h'.2.2.2 a i).map ad))))) := fun h' e => by rcases hsh with q | q <;> simp [ts_e, e, q]
  rw [e1 h rfl] at hat
  obtain ⟨-, r', hr', cellV, g1, g2, g3, -⟩ := ts_obj hR hsu
  have hcls := (hK.1 ci r hc).2
  obtain ⟨kA, comp, k1, k2, k3, -⟩ := (hK.2 t0 _ ht).2
  have hcomp : comp = D.1 ci := Option.some.inj (k3.symm.trans hcls.1)
  subst hcomp
  obtain ⟨kC, hkC, -⟩ := hcls.2
  refine W.aast hx hb hat (fun q h => by cases h) (fun h => by cases h) k1 k2 rfl hkC ⟨h0, by show _ < (arrV _ _ _).slots.size; rw [arrV_size]; exact hlt⟩ g1 (fun q h => by rw [g3] at h; cases h) (by rw [g2]; exact hkC) (by rw [g2]; exact va_assign hcls) rfl rfl hd fun H1 e9 z oq => ?_
  refine kk H1 _ (hR.set hA3 h3 rfl (fun _ _ => rfl) (fun _ _ => rfl) (fun k hk => up2_row hk) z oq ?_) (ts_Sput hA3 h3 hS z oq)
  rw [e1 (h.1, h.2.1, h.2.2.1, up2 h.2.2.2 a (tm_ix v) (some u)) rfl]
  show H1[ad a]? = some (vp_cell _ _)
  rw [e9, vp_cell_q, vp_cell_q, arrV_store]
  congr 2
  funext q
  have ei : v.toNatClampNeg = tm_ix v := rfl
  by_cases hq : q = tm_ix v
  · subst hq
    simp [updV, up2, va_rf, ei]
  · simp [updV, up2, hq, ei]
end TSH
