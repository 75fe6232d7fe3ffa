section TSN
variable {p : Program} {l : Launch} {e : Env} {R : Room} {s : State} {m : MethodId} {args : Array Value} {below : List Frame} {meth : Method} {c : Code} {H : Heap} {locs : List Loc} {cells slots : Nat} {Q : State → Prop}
variable {cc : ByteArray} {pc : Nat} {la : Array Slot} {rest : List Value} {b0 : Nat} {ad : Nat → Nat} {D : va_G} {cA : Nat → ClassId} {h : tm_H} {a : Nat} {own : String} {Ts : List Jvm.Cond}
theorem ts_nw_at {q : Nat × Nat} {n : Nat} : (tm_nw q n h).1.2.2 h.1.1 = q ∧ (tm_nw q n h).2.1 h.1.1 = (fun _ => 0) ∧ (tm_nw q n h).2.2.1 h.1.1 = (fun _ => 0) ∧ (tm_nw q n h).2.2.2 h.1.1 = (fun _ => none) := ⟨upr_at, upr_at, upr_at, upr_at⟩
theorem ts_Spush {H0 H1 : Heap} (hS : va_S (fun q => b0 ≤ q) H0 H locs) (z : H1.size = H.size + 1) (o1 : ∀ q : Nat, q < H.size → H1[q]? = H[q]?) : va_S (fun q => b0 ≤ q) H0 H1 locs :=
  ⟨Nat.le_trans hS.1 (by omega), fun x h1 h2 => (o1 x (Nat.lt_of_lt_of_le h1 hS.1)).trans (hS.2.1 x h1 h2), hS.2.2⟩
theorem ts_size (hA3 : ∀ k, 3 ≤ k → ad k = b0 + (k - 3)) (hR : ts_R b0 ad D cA h s H) : H.size = ad h.1.1 := by
  rw [hA3 _ hR.1]
  have := hR.2.1
  have := hR.1
  omega
theorem ts_def (ad : Nat → Nat) (t : FieldType) (k f : Nat) (h : tm_H) (ht : ts_kd t ≠ 9) (e1 : h.2.1 k = fun _ => 0) (e2 : h.2.2.1 k = fun _ => 0) (e3 : h.2.2.2 k = fun _ => none) : defaultValue t = ts_v ad (tm_fv (ts_kd t) k f h) := by
  unfold tm_fv
  rw [e1, e2, e3]
  cases t <;> first | rfl | exact absurd rfl ht
theorem ts_new {w ci : Nat} {C : String} {T : u_T} {N : Nat} (hA3 : ∀ k, 3 ≤ k → ad k = b0 + (k - 3)) (hx : p.tables.exec = Jvm.exec) (hb : c.code = cc) (hts : ∀ w ∈ Ts, w.before args s = true) (hin : ∀ w ∈ u_ws C T N, w ∈ Ts) (hty : ∀ k, k < N → parseFieldDescriptor (T k).2.2.1 = some (ts_ty ci k)) (hkd : ∀ k, k < N → ts_kd (ts_ty ci k) ≠ 9) (hown : s.vm.findClass own = some m.cls) (hcl : (Cond.classLink own w C).before args s = true) (hinst : (Cond.instantiable C N).before args s = true) (hini : (Cond.initialized C).before args s = true)
    (hK : va_K D ts_cl (ts_tys cA) s) (hR : ts_R b0 ad D cA h s H) (hS : va_S (fun q => b0 ≤ q) s.heap H locs) (hc : ts_cl[ci]? = some (C, T, N)) (hcells : cells + 1 ≤ R.cells) (hslots : slots + N ≤ R.slots) (hd : decode cc pc = .ok (.new w, 3))
    (kk : ∀ (H1 : Heap), ts_R b0 ad D cA (tm_nw (0, ci) N h) s H1 → va_S (fun q => b0 ≤ q) s.heap H1 locs → W p l e R s m args below meth c H1 locs (cells + 1) (slots + N) Q (F0 m (pc + 3) la (.ref (ad h.1.1) :: rest))) : W p l e R s m args below meth c H locs cells slots Q (F0 m pc la rest) := by
  have hKn := hK.1 ci _ hc
  refine W.newcK hx hb hown hcl hinst hini rfl hd hcells hslots hKn.2.1 rfl fun H1 kC hkC e1 z1 o1 => ?_
  obtain ⟨n1, n2, n3, n4⟩ := ts_nw_at (h := h) (q := (0, ci)) (n := N)
  rw [ts_size hA3 hR]
  refine kk H1 (hR.push hA3 (by simp) z1 o1 ?_) (ts_Spush hS z1 o1)
  have e9 : ts_e ad cA (tm_nw (0, ci) N h) h.1.1 = .inr (ci, ts_fs ad ci h.1.1 (tm_nw (0, ci) N h)) := by simp [ts_e, n1]
  rw [e9]
  refine ⟨_, hc, (u_born (ts_ty ci) hts hin hKn hkC e1 hty).to (fun j hj => ?_)⟩
  have hN : j < ts_N ci := by unfold ts_N; rw [hc]; exact hj
  show _ = vp_V _ j
  unfold vp_V
  rw [List.getD_eq_getElem?_getD, ts_fs_get hN]
  exact ts_def ad (ts_ty ci j) h.1.1 j _ (hkd j hj) n2 n3 n4
theorem ts_newa {t : ArrayType} {v : Int32} {q t0 : Nat} (hA3 : ∀ k, 3 ≤ k → ad k = b0 + (k - 3)) (hx : p.tables.exec = Jvm.exec) (hb : c.code = cc) (harr : (Cond.arrayClass (newarray.typeOf t)).before args s = true) (hq : (t = .int ∧ q = 1 ∧ t0 = 0) ∨ (t = .long ∧ q = 2 ∧ t0 = 1))
    (hK : va_K D ts_cl (ts_tys cA) s) (hR : ts_R b0 ad D cA h s H) (hS : va_S (fun q => b0 ≤ q) s.heap H locs) (hv : ¬ v < 0 ∧ (tm_ix v) ≤ 100000) (hcells : cells + 1 ≤ R.cells) (hslots : slots + (tm_ix v) ≤ R.slots) (hd : decode cc pc = .ok (.newarray t, 2))
    (kk : ∀ (H1 : Heap), ts_R b0 ad D cA (tm_nw (q, (tm_ix v)) (tm_ix v) h) s H1 → va_S (fun q => b0 ≤ q) s.heap H1 locs → W p l e R s m args below meth c H1 locs (cells + 1) (slots + (tm_ix v)) Q (F0 m (pc + 2) la (.ref (ad h.1.1) :: rest))) : W p l e R s m args below meth c H locs cells slots Q (F0 m pc la (.int v :: rest)) := by
  obtain ⟨n1, n2, n3, n4⟩ := ts_nw_at (h := h) (q := (q, (tm_ix v))) (n := (tm_ix v))
  refine va_newaK hx hb harr rfl hd rfl hv.1 rfl ?_ hcells hslots rfl fun H1 cB e1 z1 o1 hAr hNm => ?_
  · show (tm_ix v) * _ ≤ _
    rcases hq with ⟨rfl, -, -⟩ | ⟨rfl, -, -⟩
    · show (tm_ix v) * 4 ≤ _; omega
    · show (tm_ix v) * 8 ≤ _; omega
  rw [ts_size hA3 hR]
  refine kk H1 (hR.push hA3 (by rcases hq with ⟨-, rfl, -⟩ | ⟨-, rfl, -⟩ <;> simp) z1 o1 ?_) (ts_Spush hS z1 o1)
  rcases hq with ⟨rfl, rfl, rfl⟩ | ⟨rfl, rfl, rfl⟩
  · have e9 : ts_e ad cA (tm_nw (1, (tm_ix v)) (tm_ix v) h) h.1.1 = .inl (cA 1, (tm_ix v), .inl (fun _ => 0)) := by unfold ts_e; rw [n1, n2]; rfl
    have e8 : cB = cA 1 := Option.some.inj (hNm.symm.trans (hK.2 0 _ rfl).2)
    rw [e9, ← e8]
    exact e1
  · have e9 : ts_e ad cA (tm_nw (2, (tm_ix v)) (tm_ix v) h) h.1.1 = .inl (cA 2, (tm_ix v), .inr (.inl (fun _ => 0))) := by unfold ts_e; rw [n1, n3]; rfl
    have e8 : cB = cA 2 := Option.some.inj (hNm.symm.trans (hK.2 1 _ rfl).2)
    rw [e9, ← e8]
    exact e1
theorem ts_anew {w : Nat} {v : Int32} {q t0 : Nat} {C : String} (hA3 : ∀ k, 3 ≤ k → ad k = b0 + (k - 3)) (hx : p.tables.exec = Jvm.exec) (hb : c.code = cc) (hown : s.vm.findClass own = some m.cls) (hcl : (Cond.classLink own w C).before args s = true) (hover : (Cond.arrayOver (.object C)).before args s = true) (hq : q = 4 ∨ q = 5) (ht : (ts_tys cA)[t0]? = some (cA q, .object C))
    (hK : va_K D ts_cl (ts_tys cA) s) (hR : ts_R b0 ad D cA h s H) (hS : va_S (fun q => b0 ≤ q) s.heap H locs) (hv : ¬ v < 0 ∧ (tm_ix v) ≤ 100000) (hcells : cells + 1 ≤ R.cells) (hslots : slots + (tm_ix v) ≤ R.slots) (hd : decode cc pc = .ok (.anewarray w, 3))
    (kk : ∀ (H1 : Heap), ts_R b0 ad D cA (tm_nw (q, (tm_ix v)) (tm_ix v) h) s H1 → va_S (fun q => b0 ≤ q) s.heap H1 locs → W p l e R s m args below meth c H1 locs (cells + 1) (slots + (tm_ix v)) Q (F0 m (pc + 3) la (.ref (ad h.1.1) :: rest))) : W p l e R s m args below meth c H locs cells slots Q (F0 m pc la (.int v :: rest)) := by
  obtain ⟨n1, n2, n3, n4⟩ := ts_nw_at (h := h) (q := (q, (tm_ix v))) (n := (tm_ix v))
  refine W.anew hx hb hown hcl hover rfl hd rfl hv.1 (by show (tm_ix v) * 4 ≤ _; omega) hcells hslots fun cB kA comp f1 f2 f3 f4 => ?_
  generalize hH1 : H.push ({ cls := cB, slots := Array.replicate v.toNatClampNeg .null, vm := .none } : Cell) = H1
  have z1 : H1.size = H.size + 1 := by rw [← hH1, Array.size_push]
  have e1 : H1[H.size]? = some (arrV cB v.toNatClampNeg (fun _ => .null)) := by rw [← hH1, Array.getElem?_push_size, ← arrV_new]
  have o1 : ∀ q : Nat, q < H.size → H1[q]? = H[q]? := fun q hq => by rw [← hH1, Array.getElem?_push, if_neg (Nat.ne_of_lt hq)]
  rw [ts_size hA3 hR]
  refine kk H1 (hR.push hA3 (by rcases hq with rfl | rfl <;> simp) z1 o1 ?_) (ts_Spush hS z1 o1)
  have e9 : ts_e ad cA (tm_nw (q, (tm_ix v)) (tm_ix v) h) h.1.1 = .inl (cA q, (tm_ix v), .inr (.inr (.inr (.inr (fun _ => none))))) := by rcases hq with rfl | rfl <;> (unfold ts_e; rw [n1, n4]; rfl)
  obtain ⟨-, kA', comp', g1, g2, g3, g4⟩ := hK.2 t0 _ ht
  have e8 : cB = cA q := Option.some.inj (f1.symm.trans g4)
  rw [e9, ← e8]
  show H1[H.size]? = some (vp_cell _ _)
  rw [vp_cell_q]
  exact e1
theorem ts_cp {w : Nat} {a a2 : Nat} {n dp sp : Int32} (hA3 : ∀ k, 3 ≤ k → ad k = b0 + (k - 3)) (hx : p.tables.exec = Jvm.exec) (hb : c.code = cc) (hml : c.maxLocals = la.size) (hown : s.vm.findClass own = some m.cls) (hlink : (Cond.methodLink own w arraycopyName).before args s = true) (hnat : (Cond.native arraycopyName).before args s = true) (hstat : (Cond.static arraycopyName).before args s = true) (hini : (Cond.initialized "java/lang/System").before args s = true)
    (hK : va_K D ts_cl (ts_tys cA) s) (hR : ts_R b0 ad D cA h s H) (hS : va_S (fun q => b0 ≤ q) s.heap H locs) (h3 : 3 ≤ a) (h32 : 3 ≤ a2) (hsh : (h.1.2.2 a).1 = 1) (hsh2 : (h.1.2.2 a2).1 = 1) (hsp : ¬ sp < 0) (hdp : ¬ dp < 0) (hn : ¬ n < 0) (h4 : (tm_ix sp) + (tm_ix n) ≤ (h.1.2.2 a2).2) (h5 : (tm_ix dp) + (tm_ix n) ≤ (h.1.2.2 a).2)
    (hframes : 1 ≤ R.frames) (hlocals : (rest.map fun v => v.category).sum + (nativeFrameWords "java/lang/System" "arraycopy" 5 + 11) ≤ R.locals) (hd : decode cc pc = .ok (.invokestatic w, 3))
    (kk : ∀ (H1 : Heap) (locs1 : List Loc), ts_R b0 ad D cA (h.1, upr h.2.1 a (va_cpy (h.2.1 a2) (h.2.1 a) (tm_ix sp) (tm_ix dp) (tm_ix n)), h.2.2.1, h.2.2.2) s H1 → va_S (fun q => b0 ≤ q) s.heap H1 locs1 → W p l e R s m args below meth c H1 locs1 cells slots Q (F0 m (pc + 3) la rest)) : W p l e R s m args below meth c H locs cells slots Q (F0 m pc la (.int n :: .int dp :: .ref (ad a) :: .int sp :: .ref (ad a2) :: rest)) := by
  have nn : ∀ z : Int32, ¬ z < 0 → z.toInt = (z.toNatClampNeg : Int) := by
    intro z hz
    have hz0 : (0 : Int) ≤ z.toInt := by
      have := Int32.not_lt.mp hz
      simpa using Int32.le_iff_toInt_le.mp this
    show z.toInt = (((z.toInt).toNat : Nat) : Int)
    omega
  have hat1 := ts_arr (q := 1) (n := (h.1.2.2 a).2) hR (Prod.ext hsh rfl) (by decide) h3
  have hat0 := ts_arr (q := 1) (n := (h.1.2.2 a2).2) hR (Prod.ext hsh2 rfl) (by decide) h32
  have e1 : ts_e ad cA h a = .inl (cA 1, (h.1.2.2 a).2, .inl (h.2.1 a)) := by simp [ts_e, hsh]
  have e0 : ts_e ad cA h a2 = .inl (cA 1, (h.1.2.2 a2).2, .inl (h.2.1 a2)) := by simp [ts_e, hsh2]
  rw [e1] at hat1
  rw [e0] at hat0
  intro T hT X
  generalize hn0 : (h.1.2.2 a2).2 = n0 at *
  generalize hn1 : (h.1.2.2 a).2 = n1 at *
  generalize hf : h.2.1 a2 = f at *
  generalize hg : h.2.1 a = g at *
  have hc0 : H[ad a2]? = some (vp_cell (cA 1) (n0, .inl f)) := hat0
  have hc1 : H[ad a]? = some (vp_cell (cA 1) (n1, .inl g)) := hat1
  obtain ⟨-, k0, hk0, cm0, hkk0⟩ := (hK.2 0 _ rfl).1 n0 (fun j => .int (f j))
  obtain ⟨-, k1, hk1, cm1, hkk1⟩ := (hK.2 0 _ rfl).1 n1 (fun j => .int (g j))
  have h4' : sp.toNatClampNeg + n.toNatClampNeg ≤ n0 := h4
  have h5' : dp.toNatClampNeg + n.toNatClampNeg ≤ n1 := h5
  obtain ⟨vm', X', step⟩ := X.arraycopy hx hown hlink hnat hstat hini (src := ad a2) (dst := ad a) (cs := vp_cell (cA 1) (n0, .inl f)) (cd := vp_cell (cA 1) (n1, .inl g)) (srcPos := sp) (destPos := dp) (n := n) (by rw [hT]; exact hc0) (by rw [hT]; exact hc1)
    (fun _ h => by cases h) (fun _ h => by cases h) (fun h => by cases h) (fun h => by cases h) hk0 hk1 hkk0 hkk1 (by simp [refKind]) hsp hdp hn
    (by rw [nn sp hsp, nn n hn]; show ¬ _ > ((arrV (cA 1) n0 (fun j => .int (f j))).slots.size : Int); rw [arrV_size]; omega)
    (by rw [nn dp hdp, nn n hn]; show ¬ _ > ((arrV (cA 1) n1 (fun j => .int (g j))).slots.size : Int); rw [arrV_size]; omega)
    (fun vm₁ _ i hi => by
      have e : (vp_cell (cA 1) (n0, .inl f)).slots.getD (sp.toNatClampNeg + i) .null = .int (f (sp.toNatClampNeg + i)) := by
        show (arrV (cA 1) n0 (fun j => .int (f j))).slots.getD _ _ = _
        rw [Array.getD_eq_getD_getElem?, arrV_read _ _ (by omega)]
        rfl
      refine ⟨?_, ?_⟩
      · rw [e]
        rfl
      · rw [e]
        exact trivial)
    (g := F0 m pc la (.int n :: .int dp :: .ref (ad a) :: .int sp :: .ref (ad a2) :: rest)) rfl (by rw [hml]) (rest := rest) rfl (by rw [hb]; exact hd) hframes (by show 2 * 0 + _ + _ ≤ _; omega)
  have e9 : copied (vp_cell (cA 1) (n0, .inl f)) (vp_cell (cA 1) (n1, .inl g)) sp dp n = vp_cell (cA 1) (n1, .inl (va_cpy f g sp.toNatClampNeg dp.toNatClampNeg n.toNatClampNeg)) := va_copied (fun z => .int z) (cA 1) (cA 1) f g h4'
  rw [e9] at X' step
  have hl : ad a < H.size := (Array.getElem?_eq_some_iff.mp hc1).1
  have hheap : ((T.setVm vm').setCell (ad a) (vp_cell (cA 1) (n1, .inl (va_cpy f g sp.toNatClampNeg dp.toNatClampNeg n.toNatClampNeg)))).heap = H.setIfInBounds (ad a) (vp_cell (cA 1) (n1, .inl (va_cpy f g sp.toNatClampNeg dp.toNatClampNeg n.toNatClampNeg))) := by rw [← hT]; rfl
  have oq : ∀ q : Nat, q ≠ ad a → (H.setIfInBounds (ad a) (vp_cell (cA 1) (n1, .inl (va_cpy f g sp.toNatClampNeg dp.toNatClampNeg n.toNatClampNeg))))[q]? = H[q]? := fun q hq => by simp [Array.getElem?_setIfInBounds, Ne.symm hq]
  have hA : b0 ≤ ad a := by rw [hA3 a h3]; omega
  obtain ⟨t, a1, b1⟩ := kk _ _ (hR.set (h' := (h.1, upr h.2.1 a (va_cpy f g (tm_ix sp) (tm_ix dp) (tm_ix n)), h.2.2.1, h.2.2.2)) (H1 := H.setIfInBounds (ad a) (vp_cell (cA 1) (n1, .inl (va_cpy f g sp.toNatClampNeg dp.toNatClampNeg n.toNatClampNeg)))) hA3 h3 rfl (fun k hk => upr_ne hk) (fun _ _ => rfl) (fun _ _ => rfl) (by simp) oq (by
      have e2 : ts_e ad cA (h.1, upr h.2.1 a (va_cpy f g (tm_ix sp) (tm_ix dp) (tm_ix n)), h.2.2.1, h.2.2.2) a = .inl (cA 1, n1, .inl (va_cpy f g (tm_ix sp) (tm_ix dp) (tm_ix n))) := by simp [ts_e, hsh, upr_at, hn1]
      rw [e2]
      show (H.setIfInBounds (ad a) _)[ad a]? = some _
      simp only [Array.getElem?_setIfInBounds, hl, if_true]
      rfl)) ⟨by simp; exact hS.1, fun q g1 g2 => by
      rw [oq q (fun e => g2 (by rw [e]; exact hA))]
      exact hS.2.1 q g1 g2, fun q hq => by
      rcases List.mem_append.mp hq with h | h
      · exact hS.2.2 q h
      · obtain ⟨z, -, hz⟩ := List.mem_map.mp h
        rw [← hz]
        exact hA⟩ _ hheap X'
  exact ⟨t, step t a1, b1⟩
end TSN
