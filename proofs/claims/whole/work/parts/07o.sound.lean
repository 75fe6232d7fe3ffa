def ts_Q (b0 : Nat) (ad : Nat → Nat) (D : va_G) (cA : Nat → ClassId) (r : Option Value) (h' : tm_H) : Array Value → State → Outcome → State → Prop := fun _ s o t => o = .returned (r.map (ts_v ad)) ∧ ts_R b0 ad D cA h' t t.heap ∧ va_F (fun q => b0 ≤ q) s t
def ts_Pc (b0 : Nat) (ad : Nat → Nat) (D : va_G) (cA : Nat → ClassId) (as : List Value) (h : tm_H) : Array Value → State → Prop := fun v U => v = (as.map (ts_v ad)).toArray ∧ ts_R b0 ad D cA h U U.heap ∧ b0 ≤ U.heap.size ∧ va_K D ts_cl (ts_tys cA) U ∧ (∀ w ∈ ts_sp, va_Nw w U) ∧ ts_Z b0 ad U U.heap
theorem ts_Pc_blind {b0 : Nat} {ad : Nat → Nat} {D : va_G} {cA : Nat → ClassId} {as : List Value} {h : tm_H} : FrameBlind (ts_Pc b0 ad D cA as h) := fun a U g mk q => by
  obtain ⟨q0, q1, q2, q3, q4, q5⟩ := q
  have hv : U.vm.Alike (U.calling g mk a).vm := Vm.Alike.refl U.vm
  exact ⟨q0, ts_R.moved hv q1, q2, va_K.moved (u := U) hv q3, ts_sp_same (s := U) (U := U.calling g mk a) rfl q4, ⟨va_Z.moved hv q5.1, va_Z.moved hv q5.2⟩⟩
section TSF
variable {p : Program} {l : Launch} {e : Env} {R : Room} {s : State} {m : MethodId} {args : Array Value} {below : List Frame} {meth : Method} {c : Code} {H : Heap} {locs : List Loc} {cells slots : Nat} {Q : State → Prop}
variable {b0 : Nat} {ad : Nat → Nat} {D : va_G} {cA : Nat → ClassId}
theorem ts_cont {pc mc ms : Nat} {la : Array Slot} {st0 rest : List Value} {a : Array Value} {r1 : Option Value} {h1 : tm_H} (hr : va_Run p l e R s m args below meth c H locs cells slots mc ms (F0 m pc la st0) rest (ts_Q b0 ad D cA r1 h1 a) (fun q => b0 ≤ q)) (hS : va_S (fun q => b0 ≤ q) s.heap H locs)
    (kk : ∀ (H1 : Heap) (locs1 : List Loc), ts_R b0 ad D cA h1 s H1 → va_S (fun q => b0 ≤ q) s.heap H1 locs1 → W p l e R s m args below meth c H1 locs1 (cells + mc) (slots + ms) Q (F0 m (pc + 3) la ((r1.map (ts_v ad)).toList ++ rest))) : W p l e R s m args below meth c H locs cells slots Q (F0 m pc la st0) := by
  intro T hT X
  obtain ⟨v, st₀, t, T', L, h0, X', hL, e1, e2, ⟨hv, hR1, hz, hk⟩, st⟩ := hr T hT X
  cases hv
  rw [h0] at hz hk
  have hal : s.vm.Alike t.vm := by rw [← e2]; exact X'.warmed.alike
  obtain ⟨t2, a1, b1⟩ := kk T'.heap (locs ++ L) (by rw [e1]; exact hR1.moved hal.symm)
    ⟨Nat.le_trans hS.1 (by rw [e1]; exact hz), fun q h1 h2 => by rw [e1, hk q (Nat.lt_of_lt_of_le h1 hS.1) h2]; exact hS.2.1 q h1 h2, fun q hq => by
      rcases List.mem_append.mp hq with h | h
      · exact hS.2.2 q h
      · exact hL q h⟩ T' rfl X'
  exact ⟨t2, st t2 a1, b1⟩
theorem ts_Pc_now {as : List Value} {h : tm_H} (hR : ts_R b0 ad D cA h s H) (hS : va_S (fun q => b0 ≤ q) s.heap H locs) (hK : va_K D ts_cl (ts_tys cA) s) (hN : ∀ w ∈ ts_sp, va_Nw w s) (hb0 : b0 ≤ s.heap.size) (hZ : ts_Z b0 ad s s.heap) : ∀ U : State, U.heap = H → s.WarmedH U.vm → ts_Pc b0 ad D cA as h (as.map (ts_v ad)).toArray U := by
  intro U hU hW
  refine ⟨rfl, by rw [hU]; exact hR.moved hW.alike, by rw [hU]; exact Nat.le_trans hb0 hS.1, va_K.moved hW.alike hK, ts_sp_warm hW hN, ?_⟩
  rw [hU]
  exact ⟨va_Z.moved hW.alike (hZ.1.kept (fun a h1 h2 => hS.2.1 a h1 h2)), va_Z.moved hW.alike (hZ.2.kept (fun a h1 h2 => hS.2.1 a h1 h2))⟩
theorem ts_cats (st : List Value) : ((st.map (ts_v ad)).map (fun v => v.category)).sum = (st.map Value.category).sum := by
  rw [List.map_map]
  congr 1
  apply List.map_congr_left
  intro v _
  exact ts_v_cat ad v
theorem ts_inv_oi {st st' : List Value} (h : tm_oi st = some st') : ∃ a, st = .ref a :: st' ∧ (st'.map Value.category).sum ≤ 8 := by
  unfold tm_oi at h
  split at h
  · split at h
    next hc => cases h; exact ⟨_, rfl, hc⟩
    next => cases h
  · cases h
theorem ts_inv_cp {st : List Value} {h : tm_H} {w : List Value × tm_H} (e : tm_cp st h = some w) : ∃ n dp a sp b r, st = .int n :: .int dp :: .ref a :: .int sp :: .ref b :: r ∧ (3 ≤ a ∧ 3 ≤ b ∧ (h.1.2.2 a).1 = 1 ∧ (h.1.2.2 b).1 = 1 ∧ ¬ sp < 0 ∧ ¬ dp < 0 ∧ ¬ n < 0 ∧ tm_ix sp + tm_ix n ≤ (h.1.2.2 b).2 ∧ tm_ix dp + tm_ix n ≤ (h.1.2.2 a).2 ∧ (r.map Value.category).sum ≤ 8) ∧ w = (r, (h.1, upr h.2.1 a (va_cpy (h.2.1 b) (h.2.1 a) (tm_ix sp) (tm_ix dp) (tm_ix n)), h.2.2.1, h.2.2.2)) := by
  unfold tm_cp at e
  split at e
  · split at e
    next hc => cases e; exact ⟨_, _, _, _, _, _, rfl, hc, rfl⟩
    next => cases e
  · cases e
theorem ts_inv_mp {t : Nat} {st st' : List Value} (e : tm_mp t st = some st') : (∃ x r, t = 6 ∧ st = .int x :: r ∧ (r.map Value.category).sum ≤ 8 ∧ st' = .int (if 0 ≤ x then x else 0 - x) :: r) ∨ (∃ y x r, t = 7 ∧ st = .int y :: .int x :: r ∧ (r.map Value.category).sum ≤ 8 ∧ st' = .int (if x < y then y else x) :: r) ∨ (∃ y x r, t = 8 ∧ st = .int y :: .int x :: r ∧ (r.map Value.category).sum ≤ 8 ∧ st' = .int (if y < x then y else x) :: r) ∨ (∃ y x r, t = 9 ∧ st = .long y :: .long x :: r ∧ (r.map Value.category).sum ≤ 8 ∧ st' = .long (if y < x then y else x) :: r) := by
  unfold tm_mp at e
  split at e
  · split at e
    next hc => cases e; exact Or.inl ⟨_, _, rfl, rfl, hc, rfl⟩
    next => cases e
  · split at e
    next hc => cases e; exact Or.inr (Or.inl ⟨_, _, _, rfl, rfl, hc, rfl⟩)
    next => cases e
  · split at e
    next hc => cases e; exact Or.inr (Or.inr (Or.inl ⟨_, _, _, rfl, rfl, hc, rfl⟩))
    next => cases e
  · split at e
    next hc => cases e; exact Or.inr (Or.inr (Or.inr ⟨_, _, _, rfl, rfl, hc, rfl⟩))
    next => cases e
  · cases e
theorem ts_inv_ret {i : Instr} {k : Nat} {st : List Value} {v : Option Value} (h : tm_ret i k st = some v) : (i = .return_ ∧ k = 0 ∧ st = [] ∧ v = none) ∨ (∃ u, i = .ireturn ∧ k = 1 ∧ st = [.int u] ∧ v = some (.int u)) ∨ (∃ u, i = .ireturn ∧ k = 4 ∧ st = [.int u] ∧ v = some (.int u) ∧ (u = 0 ∨ u = 1)) ∨ (∃ u, i = .lreturn ∧ k = 2 ∧ st = [.long u] ∧ v = some (.long u)) ∨ (∃ u, i = .areturn ∧ k = 3 ∧ st = [.ref u] ∧ v = some (.ref u)) ∨ (i = .areturn ∧ k = 3 ∧ st = [.null] ∧ v = some .null) := by
  unfold tm_ret at h
  split at h
  · cases h; exact Or.inl ⟨rfl, rfl, rfl, rfl⟩
  · cases h; exact Or.inr (Or.inl ⟨_, rfl, rfl, rfl, rfl⟩)
  · split at h
    next h01 => cases h; exact Or.inr (Or.inr (Or.inl ⟨_, rfl, rfl, rfl, rfl, h01⟩))
    next => cases h
  · cases h; exact Or.inr (Or.inr (Or.inr (Or.inl ⟨_, rfl, rfl, rfl, rfl⟩)))
  · cases h; exact Or.inr (Or.inr (Or.inr (Or.inr (Or.inl ⟨_, rfl, rfl, rfl, rfl⟩))))
  · cases h; exact Or.inr (Or.inr (Or.inr (Or.inr (Or.inr ⟨rfl, rfl, rfl, rfl⟩))))
  · cases h
theorem ts_rt0 {r : Option FieldType} (h : ts_rt 0 r = true) : r = none := by cases r <;> simp [ts_rt] at h ⊢
theorem ts_rt1 {r : Option FieldType} (h : ts_rt 1 r = true) : r = some .int := by
  cases r with
  | none => simp [ts_rt] at h
  | some t => cases t <;> simp [ts_rt] at h ⊢
theorem ts_rt2 {r : Option FieldType} (h : ts_rt 2 r = true) : r = some .long := by
  cases r with
  | none => simp [ts_rt] at h
  | some t => cases t <;> simp [ts_rt] at h ⊢
theorem ts_rt4 {r : Option FieldType} (h : ts_rt 4 r = true) : r = some .boolean := by
  cases r with
  | none => simp [ts_rt] at h
  | some t => cases t <;> simp [ts_rt] at h ⊢
theorem ts_rt3 {r : Option FieldType} (h : ts_rt 3 r = true) : ∃ C, r = some (.object C) := by
  cases r with
  | none => simp [ts_rt] at h
  | some t => cases t <;> simp [ts_rt] at h ⊢
set_option maxHeartbeats 4000000 in
theorem ts_sound (hA3 : ∀ k, 3 ≤ k → ad k = b0 + (k - 3)) : ∀ (n d j pc : Nat) (ls : tm_Lo) (st : List Value) (h : tm_H) (q : Option Value × tm_H), j < 176 → tm_run n d j pc ls st h = some q → ∀ {p : Program} {e : Env} {R : Room} {s : State} {m : MethodId} {args : Array Value} {below : List Frame} {meth : Method} {c : Code} {H : Heap} {locs : List Loc} {cells slots : Nat} {la : Array Slot},
    ts_C b0 ad D cA p R s m args meth c j d → ts_R b0 ad D cA h s H → va_S (fun q => b0 ≤ q) s.heap H locs → ts_L ad (tm_ml j) (ts_lL j) ls la → cells + (q.2.1.1 - h.1.1) ≤ R.cells → slots + (q.2.1.2.1 - h.1.2.1) ≤ R.slots →
    W p l e R s m args below meth c H locs cells slots (MQ below (ts_Q b0 ad D cA q.1 q.2) args s (cells + (q.2.1.1 - h.1.1)) (slots + (q.2.1.2.1 - h.1.2.1)) (fun q => b0 ≤ q)) (F0 m pc la (st.map (ts_v ad)))
  | 0, _, _, _, _, _, _, _, _ => fun e1 => by cases e1
  | n + 1, d, j, pc, ls, st, h, q, hj176 => fun e1 => by
    intro p e R s m args below meth c H locs cells slots la hC hR hS hl hcells hslots
    have ih := ts_sound hA3 n
    have hj := ts_all_ok j hj176
    rw [tm_run] at e1
    obtain ⟨⟨i, x⟩, ho, e1⟩ := Option.bind_eq_some_iff.mp e1
    dsimp only at e1
    obtain ⟨hx, hb, hr, hml, hown, hG, hlk, hini, hK, hN, hfr, hlo, hb0, hZ⟩ := id hC
    obtain ⟨hd, hw, hwn, hck, hxk⟩ := hj.1 pc i x ho
    by_cases hret : tm_isRet i = true
    · rw [if_pos hret] at e1
      obtain ⟨v, f1, f2⟩ := Option.map_eq_some_iff.mp e1
      subst f2
      dsimp only at hcells hslots ⊢
      rw [Nat.sub_self, Nat.sub_self, Nat.add_zero, Nat.add_zero]
      have hrt := hj.2.2.1
      have fin : ∀ v9 : Option Value, ∀ t : State, t.heap = H → s.WarmedH t.vm → ts_Q b0 ad D cA v9 h args s (.returned (v9.map (ts_v ad))) t := fun v9 t ht hW => ⟨rfl, by rw [ht]; exact hR.moved hW.alike, hS.F ht⟩
      rcases ts_inv_ret f1 with ⟨rfl, hk, rfl, rfl⟩ | ⟨v1, rfl, hk, rfl, rfl⟩ | ⟨v1, rfl, hk, rfl, rfl, h01⟩ | ⟨v1, rfl, hk, rfl, rfl⟩ | ⟨v1, rfl, hk, rfl, rfl⟩ | ⟨rfl, hk, rfl, rfl⟩
      · rw [hk] at hrt
        exact W.vret hx hb (by rw [hr]; exact ts_rt0 hrt) (fin none) hS.2.2 hd
      · rw [hk] at hrt
        exact W.iret hx hb (by rw [hr]; exact ts_rt1 hrt) (fin (some (.int v1))) hS.2.2 hd
      · rw [hk] at hrt
        exact W.zret (ty := .boolean) hx hb (by rw [hr]; exact ts_rt4 hrt) (by rcases h01 with q9 | q9 <;> rw [q9] <;> rfl) (fin (some (.int v1))) hS.2.2 hd
      · rw [hk] at hrt
        exact W.lret hx hb (by rw [hr]; exact ts_rt2 hrt) (fin (some (.long v1))) hS.2.2 hd
      · rw [hk] at hrt
        obtain ⟨C9, hC9⟩ := ts_rt3 hrt
        exact W.aret (v := .ref (ad v1)) hx hb (by rw [hr, hC9]) (Or.inl ⟨C9, rfl⟩) (Or.inr ⟨_, rfl⟩) (fin (some (.ref v1))) hS.2.2 hd
      · rw [hk] at hrt
        obtain ⟨C9, hC9⟩ := ts_rt3 hrt
        exact W.aret (v := .null) hx hb (by rw [hr, hC9]) (Or.inl ⟨C9, rfl⟩) (Or.inl rfl) (fin (some .null)) hS.2.2 hd
    · rw [if_neg hret] at e1
      by_cases hinv : tm_isInv i = true
      · rw [if_pos hinv] at e1
        split at e1
        next => cases e1
        next hd0 =>
          have hd1 : 1 ≤ d := Nat.one_le_iff_ne_zero.mpr hd0
          split at e1
          next hx4 =>
            obtain ⟨st1, f1, f2⟩ := Option.bind_eq_some_iff.mp e1
            obtain ⟨a, rfl, hcs⟩ := ts_inv_oi f1
            cases i with
            | invokespecial k =>
              have w1 := hG _ (hw (.methodLink (ts_mt j).1 k objectInit) (by simp only [ts_wh, hx4, if_true]; simp))
              have w2 := hG _ (hw (.instanceMethod objectInit) (by simp only [ts_wh, hx4, if_true]; simp))
              have w3 := hG _ (hw (.code objectInit ⟨#[0xb1]⟩ 1 none) (by simp only [ts_wh, hx4, if_true]; simp))
              refine W.objInit hx hb hown w1 w2 w3 rfl (by rw [hml]; exact hl.2.1) rfl hd (Nat.le_trans hd1 hfr) ?_ ?_
              · have h9 : ((st1.map (ts_v ad)).map (fun v => v.category)).sum ≤ 8 := by rw [ts_cats]; exact hcs
                have h8 := lv_room (m := m) (pc := pc) (ls := la) (rest := (Value.ref a :: st1).map (ts_v ad)) h9
                have : (2 * (F0 m pc la ((Value.ref a :: st1).map (ts_v ad))).monitorRoom + ((st1.map (ts_v ad)).map (fun v => v.category)).sum) + 12 ≤ 64 := by omega
                exact Nat.le_trans this (by omega)
              · exact ih d j (pc + 3) ls st1 h q hj176 f2 hC hR hS hl hcells hslots
            | invokestatic k => simp [ts_xk, hx4] at hxk
            | invokevirtual k => simp [ts_xk, hx4] at hxk
            | _ => cases hinv
          next hx4 =>
            split at e1
            next hx5 =>
              obtain ⟨w, f1, f2⟩ := Option.bind_eq_some_iff.mp e1
              obtain ⟨n1, dp, a, sp, b, r, rfl, hc, rfl⟩ := ts_inv_cp f1
              cases i with
              | invokestatic k =>
                have w1 := hG _ (hw (.methodLink (ts_mt j).1 k arraycopyName) (by simp only [ts_wh, hx5, if_true]; simp))
                have w2 := hG _ (hw (.native arraycopyName) (by simp only [ts_wh, hx5, if_true]; simp))
                have w3 := hG _ (hw (.static arraycopyName) (by simp only [ts_wh, hx5, if_true]; simp))
                have w4 := hG _ (hw (.initialized "java/lang/System") (by simp only [ts_wh, hx5, if_true]; simp))
                obtain ⟨k1, k2, k3, k4, k5, k6, k7, k8, k9, k10⟩ := hc
                refine ts_cp hA3 hx hb (by rw [hml]; exact hl.2.1.symm) hown w1 w2 w3 w4 hK hR hS k1 k2 k3 k4 k5 k6 k7 k8 k9 (Nat.le_trans hd1 hfr) ?_ hd (fun H1 locs1 hR1 hS1 => ?_)
                · rw [ts_cats]
                  have h7 : nativeFrameWords "java/lang/System" "arraycopy" 5 ≤ 40 := by decide +kernel
                  exact Nat.le_trans (Nat.add_le_add k10 (Nat.add_le_add_right h7 11)) (by omega)
                · exact ih d j (pc + 3) ls r _ q hj176 f2 hC hR1 hS1 hl hcells hslots
              | invokespecial k => simp [ts_xk, hx5] at hxk
              | invokevirtual k => simp [ts_xk, hx5] at hxk
              | _ => cases hinv
            next hx5 =>
             split at e1
             next hx6 =>
              obtain ⟨st1, f1, f2⟩ := Option.bind_eq_some_iff.mp e1
              have hlo1 : 64 ≤ R.locals := by omega
              have hfr1 : 1 ≤ R.frames := Nat.le_trans hd1 hfr
              have hc9 : cells ≤ R.cells := by omega
              have hs9 : slots ≤ R.slots := by omega
              have hml9 : c.maxLocals = la.size := by rw [hml]; exact hl.2.1.symm
              cases i with
              | invokestatic k =>
                have w1 := hG _ (hw (.methodLink (ts_mt j).1 k (ts_my x.1).1) (by simp only [ts_wh, hx5, hx6, if_false, if_true]; simp))
                have w2 := hG _ (hw (.static (ts_my x.1).1) (by simp only [ts_wh, hx5, hx6, if_false, if_true]; simp))
                have w3 := hG _ (hw (.initialized "java/lang/Math") (by simp only [ts_wh, hx5, hx6, if_false, if_true]; simp))
                have w4 := hG _ (hw (.code (ts_my x.1).1 (ts_my x.1).2.1 (ts_my x.1).2.2.1 (ts_my x.1).2.2.2) (by simp only [ts_wh, hx5, hx6, if_false, if_true]; simp))
                rcases ts_inv_mp f1 with ⟨v, r, heq, rfl, hcs, rfl⟩ | ⟨u, v, r, heq, rfl, hcs, rfl⟩ | ⟨u, v, r, heq, rfl, hcs, rfl⟩ | ⟨u, v, r, heq, rfl, hcs, rfl⟩
                · rw [heq] at w1 w2 w4
                  exact va_mabs hx hb hml9 hown w1 w2 w3 w4 hfr1 (by rw [ts_cats]; omega) hc9 hs9 hd (ih d j (pc + 3) ls _ h q hj176 f2 hC hR hS hl hcells hslots)
                · rw [heq] at w1 w2 w4
                  exact va_mmax hx hb hml9 hown w1 w2 w3 w4 hfr1 (by rw [ts_cats]; omega) hc9 hs9 hd (ih d j (pc + 3) ls _ h q hj176 f2 hC hR hS hl hcells hslots)
                · rw [heq] at w1 w2 w4
                  exact va_mmin hx hb hml9 hown w1 w2 w3 w4 hfr1 (by rw [ts_cats]; omega) hc9 hs9 hd (ih d j (pc + 3) ls _ h q hj176 f2 hC hR hS hl hcells hslots)
                · rw [heq] at w1 w2 w4
                  exact va_mmin_long hx hb hml9 hown w1 w2 w3 w4 hfr1 (by rw [ts_cats]; omega) hc9 hs9 hd (ih d j (pc + 3) ls _ h q hj176 f2 hC hR hS hl hcells hslots)
              | invokespecial k => simp [ts_xk] at hxk; omega
              | invokevirtual k => simp [ts_xk] at hxk; omega
              | _ => cases hinv
             next hx6 =>
              split at e1
              next hc =>
                obtain ⟨hc1, hck9, hrcv, hcs⟩ := hc
                obtain ⟨q1, f1, f2⟩ := Option.bind_eq_some_iff.mp e1
                have g1 := ts_grow _ _ _ _ _ _ _ _ f1
                have g2 := ts_grow _ _ _ _ _ _ _ _ f2
                generalize has : (st.take x.2.2.1).reverse = as at *
                generalize hre : st.drop x.2.2.1 = rest at *
                have hst : st = as.reverse ++ rest := by rw [← has, ← hre, List.reverse_reverse, List.take_append_drop]
                have hlen : as.length = x.2.2.1 := by rw [← has, List.length_reverse, List.length_take]; omega
                have hk175 : x.2.1 < 175 := by
                  cases i with
                  | invokestatic k => simp [ts_xk, hx5, hx6] at hxk; omega
                  | invokevirtual k => simp [ts_xk] at hxk; omega
                  | invokespecial k => simp [ts_xk, hx4] at hxk; omega
                  | _ => cases hinv
                have hjk := ts_all_ok x.2.1 (by omega)
                obtain ⟨-, m1, m2, m3, m4, m5, m6, m7, m8, m9, m10⟩ := hjk
                have hcode := ts_code_ok x.2.1 hk175
                have hGd : GoodIn ts_G (Cond.code (ts_mt x.2.1).2.1 (ts_mt x.2.1).2.2.1 (ts_mt x.2.1).2.2.2.1 (ts_mt x.2.1).2.2.2.2 :: ts_G) := fun w9 h9 => (List.mem_cons.mp h9).elim (fun e9 => by rw [e9]; exact ts_G_good _ hcode) (fun e9 => ts_G_good _ e9)
                have hM : Met l (ts_mt x.2.1).2.1 (Cond.code (ts_mt x.2.1).2.1 (ts_mt x.2.1).2.2.1 (ts_mt x.2.1).2.2.2.1 (ts_mt x.2.1).2.2.2.2 :: ts_G) { frames := d - 1, cells := q1.2.1.1 - h.1.1, slots := q1.2.1.2.1 - h.1.2.1, locals := 64 * (d - 1) } (ts_Pc b0 ad D cA as h) (ts_Q b0 ad D cA q1.1 q1.2) (q1.2.1.1 - h.1.1) (q1.2.1.2.1 - h.1.2.1) (fun q => b0 ≤ q) := by
                  refine Met.ofW (cc := (ts_mt x.2.1).2.2.1) (maxL := (ts_mt x.2.1).2.2.2.1) (ret := (ts_mt x.2.1).2.2.2.2) m3 rfl ?_
                  intro p e s m args below meth c s₁ B hml hv
                  obtain ⟨rfl, hR, hb0, hK, hN, hZ⟩ := hv
                  rw [lg_entry_eq]
                  have hts := atoms_spec (ws := Cond.code (ts_mt x.2.1).2.1 (ts_mt x.2.1).2.2.1 (ts_mt x.2.1).2.2.2.1 (ts_mt x.2.1).2.2.2.2 :: ts_G) B.pre
                  have hC9 : ts_C b0 ad D cA p { frames := d - 1, cells := q1.2.1.1 - h.1.1, slots := q1.2.1.2.1 - h.1.2.1, locals := 64 * (d - 1) } s m (as.map (ts_v ad)).toArray meth c x.2.1 (d - 1) :=
                    ⟨B.exec, B.bytes, B.returns, hml.trans m1.symm, by rw [m4]; exact findClass_of_methodNamed B.named, fun w9 h9 => hts w9 (List.mem_cons_of_mem _ h9), B.notSynchronized, fun hn => (name_of_methodNamed B.named B.method).1.trans hn, hK, hN, Nat.le_refl _, Nat.le_refl _, hb0, hZ⟩
                  rw [← m1]
                  have := ih (d - 1) x.2.1 0 (tm_ent (tm_ml x.2.1) as) [] h q1 (by omega) f1 (below := below) (e := e) (locs := []) (cells := 0) (slots := 0) hC9 hR va_S.rf (ts_ent (ml := tm_ml x.2.1) hck9 m9 m8 m10) (by rw [Nat.zero_add]; exact Nat.le_refl _) (by rw [Nat.zero_add]; exact Nat.le_refl _)
                  rw [Nat.zero_add, Nat.zero_add] at this
                  exact this
                have hcc : cells + (q1.2.1.1 - h.1.1) ≤ R.cells ∧ slots + (q1.2.1.2.1 - h.1.2.1) ≤ R.slots := ⟨by omega, by omega⟩
                have hroom : d - 1 + 1 ≤ R.frames ∧ 8 + ((ts_mt x.2.1).2.2.2.1 + 11) + 64 * (d - 1) ≤ R.locals := ⟨by omega, by rw [← m1]; omega⟩
                have hW8 : 2 * (F0 m pc la (st.map (ts_v ad))).monitorRoom + ((rest.map (ts_v ad)).map fun v => v.category).sum ≤ 8 := lv_room (by rw [ts_cats]; exact hcs)
                have hpc := ts_Pc_now (as := as) hR hS hK hN hb0 hZ
                have hfix : CallFix p m c (ts_mt j).2.2.1 (tm_ml j) s args ts_G (ts_mt j).1 := ⟨hx, hb, hml, hown, hG⟩
                have next9 : ∀ (H1 : Heap) (locs1 : List Loc), ts_R b0 ad D cA q1.2 s H1 → va_S (fun q => b0 ≤ q) s.heap H1 locs1 → W p l e R s m args below meth c H1 locs1 (cells + (q1.2.1.1 - h.1.1)) (slots + (q1.2.1.2.1 - h.1.2.1)) (MQ below (ts_Q b0 ad D cA q.1 q.2) args s (cells + (q.2.1.1 - h.1.1)) (slots + (q.2.1.2.1 - h.1.2.1)) (fun q => b0 ≤ q)) (F0 m (pc + 3) la ((q1.1.map (ts_v ad)).toList ++ rest.map (ts_v ad))) := by
                  intro H1 locs1 hR1 hS1
                  have := ih d j (pc + 3) ls (q1.1.toList ++ rest) q1.2 q hj176 f2 (below := below) (e := e) (cells := cells + (q1.2.1.1 - h.1.1)) (slots := slots + (q1.2.1.2.1 - h.1.2.1)) hC hR1 hS1 hl (by omega) (by omega)
                  rw [show cells + (q1.2.1.1 - h.1.1) + (q.2.1.1 - q1.2.1.1) = cells + (q.2.1.1 - h.1.1) by omega, show slots + (q1.2.1.2.1 - h.1.2.1) + (q.2.1.2.1 - q1.2.1.2.1) = slots + (q.2.1.2.1 - h.1.2.1) by omega] at this
                  rw [List.map_append] at this
                  have e9 : q1.1.toList.map (ts_v ad) = (q1.1.map (ts_v ad)).toList := by cases q1.1 <;> rfl
                  rw [e9] at this
                  exact this
                cases i with
                | invokestatic k =>
                  simp only [ts_xk, hx5, hx6, false_and, decide_false, Bool.false_or, Bool.and_eq_true, decide_eq_true_eq] at hxk
                  have w1 := hG _ (hw (.methodLink (ts_mt j).1 k (ts_mt x.2.1).2.1) (by simp only [ts_wh, hx5, hx6, if_false, ts_wi]; simp))
                  have w2 := hG _ (hw (.initialized (ts_mt x.2.1).2.1.cls) (by simp only [ts_wh, hx5, hx6, if_false, ts_wi]; simp))
                  have w3 := hG _ (hw (.static (ts_mt x.2.1).2.1) (by simp only [ts_wh, hx5, hx6, if_false, ts_wi]; simp))
                  refine ts_cont (va_runS (As := as.map (ts_v ad)) (rest := rest.map (ts_v ad)) hfix hM ⟨callB_of x.2.2.1 hG hGd rfl rfl rfl w2 w1 ⟨m5, m6, hxk.2⟩ hroom, w3⟩ ⟨ts_Pc_blind, hpc⟩ rfl (by rw [List.length_map, hlen]) hl.2.1 (by show st.map (ts_v ad) = _; rw [hst, List.map_append, List.map_reverse]) hW8 hd hcc) hS next9
                | invokevirtual k =>
                  simp only [ts_xk, Bool.and_eq_true, decide_eq_true_eq] at hxk
                  obtain ⟨⟨⟨⟨⟨x1, x2⟩, x3⟩, x4⟩, x5⟩, x6⟩ := hxk
                  have w1 := hG _ (hw (.methodLink (ts_mt j).1 k (ts_mt x.2.1).2.1) (by simp only [ts_wh, ts_wi]; simp))
                  have w2 := hG _ (hw (.initialized (ts_mt x.2.1).2.1.cls) (by simp only [ts_wh, ts_wi]; simp))
                  have w3 := hG _ (hw (.instanceMethod (ts_mt x.2.1).2.1) (by simp only [ts_wh, ts_wi]; simp))
                  have w4 := hG _ (hw (.selects (ts_cn x.2.2.2) (ts_mt x.2.1).2.1 (ts_mt x.2.1).2.1) (by simp only [ts_wh, ts_wi]; simp))
                  unfold tm_rcv at hrcv
                  split at hrcv
                  next heq => rw [x1] at heq; cases heq
                  next a r9 heq =>
                    rw [decide_eq_true_eq] at hrcv
                    obtain ⟨C, T, N, hcl, eN, eT, eC⟩ := ts_cl_get x5
                    obtain ⟨h3, hat⟩ := ts_obj hR hrcv
                    have hrecv := va_recv hK (ts_P1 hat) (ci := x.2.2.2) (q0 := 0) hcl rfl
                    rw [← eC] at hrecv
                    refine ts_cont (va_runV (b := ad a) (As := r9.map (ts_v ad)) (rest := rest.map (ts_v ad)) (C := ts_cn x.2.2.2) hfix hM ⟨callB_of (x.2.2.1 - 1) hG hGd rfl rfl rfl w2 w1 ⟨m5, m6, x4⟩ hroom, w3, w4⟩ ⟨ts_Pc_blind, hrecv, hpc⟩ rfl (by rw [List.length_map, ← hlen]; rfl) hl.2.1 (by show st.map (ts_v ad) = _; rw [hst, List.map_append, List.map_reverse, List.map_cons, List.reverse_cons, List.append_assoc]; rfl) hW8 hd hcc) hS next9
                  next heq => rw [x1] at heq; cases heq
                  next => cases hrcv
                | invokespecial k =>
                  simp only [ts_xk, hx4, decide_false, Bool.false_or, Bool.and_eq_true, decide_eq_true_eq] at hxk
                  obtain ⟨⟨⟨⟨⟨x1, x2⟩, x3⟩, x4⟩, x5⟩, x6⟩ := hxk
                  have w1 := hG _ (hw (.methodLink (ts_mt j).1 k (ts_mt x.2.1).2.1) (by simp only [ts_wh, hx4, if_false, ts_wi]; simp))
                  have w2 := hG _ (hw (.initialized (ts_mt x.2.1).2.1.cls) (by simp only [ts_wh, hx4, if_false, ts_wi]; simp))
                  have w3 := hG _ (hw (.instanceMethod (ts_mt x.2.1).2.1) (by simp only [ts_wh, hx4, if_false, ts_wi]; simp))
                  unfold tm_rcv at hrcv
                  split at hrcv
                  next heq => rw [x1] at heq; cases heq
                  next heq => rw [x1] at heq; cases heq
                  next a r9 heq =>
                    rw [x6] at hM hGd
                    refine ts_cont (va_runI (b := ad a) (As := r9.map (ts_v ad)) (rest := rest.map (ts_v ad)) hfix hM ⟨callB_of (x.2.2.1 - 1) hG hGd rfl rfl rfl w2 w1 ⟨m5, m6, x4⟩ hroom, x5, w3⟩ ⟨ts_Pc_blind, hpc⟩ rfl (by rw [List.length_map, ← hlen]; rfl) hl.2.1 (by show st.map (ts_v ad) = _; rw [hst, List.map_append, List.map_reverse, List.map_cons, List.reverse_cons, List.append_assoc]; rfl) hW8 hd hcc) hS next9
                  next => cases hrcv
                | _ => cases hinv
              next => cases e1
      · rw [if_neg hinv] at e1
        obtain ⟨⟨pc1, ls1, st1, h1⟩, f1, f2⟩ := Option.bind_eq_some_iff.mp e1
        dsimp only at f2
        have g1 := ts_h_grow f1
        have g2 := ts_grow _ _ _ _ _ _ _ _ f2
        refine ts_h hA3 hj hC ho hR hS hl f1 (by omega) (by omega) (fun H1 locs1 la' hR1 hS1 hl1 => ?_)
        have := ih d j pc1 ls1 st1 h1 q hj176 f2 (below := below) (e := e) (cells := cells + (h1.1.1 - h.1.1)) (slots := slots + (h1.1.2.1 - h.1.2.1)) hC hR1 hS1 hl1 (by omega) (by omega)
        rw [show cells + (h1.1.1 - h.1.1) + (q.2.1.1 - h1.1.1) = cells + (q.2.1.1 - h.1.1) by omega, show slots + (h1.1.2.1 - h.1.2.1) + (q.2.1.2.1 - h1.1.2.1) = slots + (q.2.1.2.1 - h.1.2.1) by omega] at this
        exact this
end TSF
