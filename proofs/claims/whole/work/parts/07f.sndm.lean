section TSM
variable {p : Program} {l : Launch} {e : Env} {R : Room} {s : State} {m : MethodId} {args : Array Value} {below : List Frame} {meth : Method} {c : Code} {H : Heap} {locs : List Loc} {cells slots : Nat} {Q : State → Prop}
variable {cc : ByteArray} {pc : Nat} {la : Array Slot} {rest : List Value} {b0 : Nat} {ad : Nat → Nat} {D : va_G} {cA : Nat → ClassId} {h : tm_H} {a : Nat} {own : String} {Ts : List Jvm.Cond}
theorem ts_outer (c : ClassId) (N h0 : Nat) : ∀ i : Nat, Jvm.Free.Multi.outerC c N h0 i = arrV c N (fun j => va_rf (if j < i then some (h0 + 1 + j) else none))
  | 0 => by
    show ({ cls := c, slots := Array.replicate N .null, vm := .none } : Cell) = _
    rw [arrV_new]
    refine congrArg (arrV c N) (funext fun j => ?_)
    simp [va_rf]
  | i + 1 => by
    show (Jvm.Free.Multi.outerC c N h0 i).setSlot i (.ref (h0 + 1 + i)) = _
    rw [ts_outer c N h0 i, arrV_store]
    refine congrArg (arrV c N) (funext fun j => ?_)
    by_cases e : j = i
    · subst e
      simp [updV, va_rf]
    · by_cases h : j < i
      · simp [updV, e, h, Nat.lt_succ_of_lt h]
      · simp [updV, e, h, show ¬ j < i + 1 by omega]
theorem ts_mna {w : Nat} {v u : Int32} (hA3 : ∀ k, 3 ≤ k → ad k = b0 + (k - 3)) (hx : p.tables.exec = Jvm.exec) (hb : c.code = cc) (hown : s.vm.findClass own = some m.cls) (hcl : (Cond.classLink own w ("[" ++ (FieldType.array .int).toString)).before args s = true) (hover : (Cond.arrayOver (.array .int)).before args s = true) (harr : (Cond.arrayClass .int).before args s = true)
    (hK : va_K D ts_cl (ts_tys cA) s) (hR : ts_R b0 ad D cA h s H) (hS : va_S (fun q => b0 ≤ q) s.heap H locs) (hn : ¬ u < 0) (hk : ¬ v < 0) (hn2 : tm_ix u ≤ 1000) (hk2 : tm_ix v ≤ 1000) (hcells : cells + (1 + tm_ix u) ≤ R.cells) (hslots : slots + (tm_ix u + tm_ix u * tm_ix v) ≤ R.slots) (hd : decode cc pc = .ok (.multianewarray w 2, 4))
    (kk : ∀ (H1 : Heap), ts_R b0 ad D cA (tm_mn (tm_ix u) (tm_ix v) h) s H1 → va_S (fun q => b0 ≤ q) s.heap H1 locs → W p l e R s m args below meth c H1 locs (cells + 1 + tm_ix u) (slots + tm_ix u + tm_ix u * tm_ix v) Q (F0 m (pc + 4) la (.ref (ad h.1.1) :: rest))) : W p l e R s m args below meth c H locs cells slots Q (F0 m pc la (.int v :: .int u :: rest)) := by
  intro T hT Xs
  have hN : u.toNatClampNeg = tm_ix u := rfl
  have hM : v.toNatClampNeg = tm_ix v := rfl
  obtain ⟨vm₁, cB, comp, -, fA, fC, hO, -, X', step⟩ := Xs.multianewarray2F (ty := .int) hx hown hcl hover harr (g := F0 m pc la (.int v :: .int u :: rest)) rfl (by rw [hb]; exact hd) rfl hn hk (by rw [hN]; omega) (by rw [hM]; show tm_ix v * 4 ≤ _; omega) (by rw [hM]; omega) rfl rfl hcells hslots
  have ec : cA 1 = comp := Option.some.inj ((hK.2 0 _ rfl).2.symm.trans fC)
  have eB : cB = cA 3 := Option.some.inj (fA.symm.trans (hK.2 2 _ rfl).2)
  rw [hN, hM] at *
  subst ec
  subst eB
  generalize hF : Jvm.Free.Multi.fill (T.setVm vm₁) (cA 3) (cA 1) (tm_ix u) (tm_ix v) (defaultValue .int) (tm_ix u) = F at X' step
  have hTh : (T.setVm vm₁).heap = H := hT
  obtain ⟨f1, f2, -, -⟩ := Jvm.Free.Multi.fill_facts (T.setVm vm₁) (cA 3) (cA 1) (tm_ix u) (tm_ix v) (defaultValue .int) (tm_ix u)
  rw [hF, hTh] at f1 f2
  have hold : ∀ x : Nat, x < H.size → F.heap[x]? = H[x]? := fun x hx => by
    have := Jvm.Free.Multi.fill_old (T.setVm vm₁) (cA 3) (cA 1) (tm_ix u) (tm_ix v) (defaultValue .int) (a := x) (by rw [hTh]; exact hx) (tm_ix u)
    rw [hF, hTh] at this
    exact this
  have hrow : ∀ j : Nat, j < tm_ix u → F.heap[H.size + 1 + j]? = some (vp_cell (cA 1) (tm_ix v, .inl (fun _ => 0))) := fun j hj => by
    have := Jvm.Free.Multi.fill_inner (T.setVm vm₁) (cA 3) (cA 1) (tm_ix u) (tm_ix v) (defaultValue .int) (tm_ix u) j hj
    rw [hF, hTh] at this
    rw [this, vp_cell_i, ← arrV_new]
    rfl
  have hout : Jvm.Free.Multi.outerC (cA 3) (tm_ix u) H.size (tm_ix u) = vp_cell (cA 3) (tm_ix u, .inr (.inr (.inr (.inr (fun i => if i < tm_ix u then some (H.size + 1 + i) else none))))) := by
    rw [vp_cell_q]
    exact ts_outer (cA 3) (tm_ix u) H.size (tm_ix u)
  rw [hout] at f2
  have hsz := ts_size hA3 hR
  have hRn : ts_R b0 ad D cA (tm_mn (tm_ix u) (tm_ix v) h) s F.heap := by
    obtain ⟨r1, r2, r3, r4, r5⟩ := hR
    refine ⟨by show 3 ≤ h.1.1 + 1 + tm_ix u; omega, by show F.heap.size + 3 = b0 + (h.1.1 + 1 + tm_ix u); rw [f1]; omega, fun k hk => ?_, fun k h3 hk => ?_, fun k hk => ?_⟩
    · have hk' : h.1.1 + 1 + tm_ix u ≤ k := hk
      show (if k = h.1.1 then (3, tm_ix u) else if h.1.1 < k ∧ k ≤ h.1.1 + tm_ix u then (1, tm_ix v) else h.1.2.2 k).1 = 99
      rw [if_neg (by omega), if_neg (by omega)]
      exact r3 k (by omega)
    · have hk' : k < h.1.1 + 1 + tm_ix u := hk
      refine ⟨?_, ?_⟩
      · show (if k = h.1.1 then (3, tm_ix u) else if h.1.1 < k ∧ k ≤ h.1.1 + tm_ix u then (1, tm_ix v) else h.1.2.2 k).1 ≠ 6
        by_cases e0 : k = h.1.1
        · rw [if_pos e0]; simp
        · rw [if_neg e0]
          by_cases e1 : h.1.1 < k ∧ k ≤ h.1.1 + tm_ix u
          · rw [if_pos e1]; simp
          · rw [if_neg e1]; exact (r4 k h3 (by omega)).1
      by_cases e0 : k = h.1.1
      · subst e0
        have e9 : ts_e ad cA (tm_mn (tm_ix u) (tm_ix v) h) h.1.1 = .inl (cA 3, tm_ix u, .inr (.inr (.inr (.inr (fun i => if i < tm_ix u then some (H.size + 1 + i) else none))))) := by
          have g1 : (tm_mn (tm_ix u) (tm_ix v) h).1.2.2 h.1.1 = (3, tm_ix u) := if_pos rfl
          have g2 : (tm_mn (tm_ix u) (tm_ix v) h).2.2.2 h.1.1 = (fun i => if i < tm_ix u then some (h.1.1 + 1 + i) else none) := if_pos rfl
          unfold ts_e
          rw [g1, g2]
          show Sum.inl (cA 3, tm_ix u, Sum.inr (Sum.inr (Sum.inr (Sum.inr (fun i => (if i < tm_ix u then some (h.1.1 + 1 + i) else none).map ad))))) = _
          congr 7
          funext i
          by_cases hi : i < tm_ix u
          · simp only [hi, if_true, Option.map_some]
            rw [hA3 _ (by omega)]
            congr 1
            omega
          · simp only [hi, if_false, Option.map_none]
        rw [e9, ← hsz]
        exact f2
      · by_cases e1 : h.1.1 < k
        · have e9 : ts_e ad cA (tm_mn (tm_ix u) (tm_ix v) h) k = .inl (cA 1, tm_ix v, .inl (fun _ => 0)) := by
            have g1 : (tm_mn (tm_ix u) (tm_ix v) h).1.2.2 k = (1, tm_ix v) := by
              show (if k = h.1.1 then (3, tm_ix u) else if h.1.1 < k ∧ k ≤ h.1.1 + tm_ix u then (1, tm_ix v) else h.1.2.2 k) = _
              rw [if_neg e0, if_pos (by omega)]
            have g2 : (tm_mn (tm_ix u) (tm_ix v) h).2.1 k = (fun _ => 0) := if_pos (by omega)
            unfold ts_e
            rw [g1, g2]
            rfl
          rw [e9]
          have := hrow (k - h.1.1 - 1) (by omega)
          show F.heap[ad k]? = _
          rw [← this]
          congr 1
          rw [hA3 k h3]
          omega
        · have hk2 : k < h.1.1 := by omega
          have e9 : ts_e ad cA (tm_mn (tm_ix u) (tm_ix v) h) k = ts_e ad cA h k := by
            refine ts_e_congr ?_ ?_ ?_ ?_
            · show (if k = h.1.1 then (3, tm_ix u) else if h.1.1 < k ∧ k ≤ h.1.1 + tm_ix u then (1, tm_ix v) else h.1.2.2 k) = _
              rw [if_neg e0, if_neg (by omega)]
            · exact if_neg (by omega)
            · exact if_neg (by omega)
            · show (if k = h.1.1 then _ else if h.1.1 < k ∧ k ≤ h.1.1 + tm_ix u then _ else h.2.2.2 k) = _
              rw [if_neg e0, if_neg (by omega)]
          rw [e9]
          refine (r4 k h3 hk2).2.kept (hold _ ?_)
          show ad k < H.size
          rw [hA3 k h3]
          omega
    · refine ts_S_congr (h := h) ?_ ?_ (fun x hx => hold x (by omega)) (r5 k hk)
      · show (if k = h.1.1 then (3, tm_ix u) else if h.1.1 < k ∧ k ≤ h.1.1 + tm_ix u then (1, tm_ix v) else h.1.2.2 k) = _
        rw [if_neg (by omega), if_neg (by omega)]
      · exact if_neg (by omega)
  obtain ⟨t, a1, b1⟩ := kk F.heap hRn ⟨by rw [f1]; have := hS.1; omega, fun x h1 h2 => (hold x (Nat.lt_of_lt_of_le h1 hS.1)).trans (hS.2.1 x h1 h2), hS.2.2⟩ F rfl X'
  refine ⟨t, step t ?_, b1⟩
  have e : T.heap.size = H.size := by rw [hT]
  rw [e, hsz]
  exact a1
end TSM
