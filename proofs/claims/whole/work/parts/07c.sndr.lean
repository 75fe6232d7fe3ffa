/-! The heap of the small machine, and the real one. -/
def ts_kd (t : FieldType) : Nat := match t with
  | .int => 0
  | .long => 1
  | .boolean => 3
  | .object _ => 2
  | .array _ => 2
  | _ => 9
def ts_N (ci : Nat) : Nat := ((ts_cl[ci]?).map (fun q => q.2.2)).getD 0
def ts_fs (ad : Nat → Nat) (ci k : Nat) (h : tm_H) : List Value := (List.range (ts_N ci)).map (fun f => ts_v ad (tm_fv (ts_kd (ts_ty ci f)) k f h))
def ts_e (ad : Nat → Nat) (cA : Nat → ClassId) (h : tm_H) (k : Nat) : va_E :=
  if (h.1.2.2 k).1 = 0 then .inr ((h.1.2.2 k).2, ts_fs ad (h.1.2.2 k).2 k h)
  else if (h.1.2.2 k).1 = 1 then .inl (cA 1, (h.1.2.2 k).2, .inl (h.2.1 k))
  else if (h.1.2.2 k).1 = 2 then .inl (cA 2, (h.1.2.2 k).2, .inr (.inl (h.2.2.1 k)))
  else .inl (cA (h.1.2.2 k).1, (h.1.2.2 k).2, .inr (.inr (.inr (.inr (fun i => (h.2.2.2 k i).map ad)))))
def ts_tys (cA : Nat → ClassId) : List (ClassId × FieldType) := [(cA 1, .int), (cA 2, .long), (cA 3, .array .int), (cA 4, .object "TidingsDesk$Telling"), (cA 5, .object "TidingsDesk$Facts"), (cA 6, .char)]
/-- the three arrays that were there before: read only -/
def ts_S (ad : Nat → Nat) (b0 : Nat) (h : tm_H) (U : State) (H : Heap) (k : Nat) : Prop :=
  ad k < b0 ∧ ((h.1.2.2 k).1 = 1 ∨ (h.1.2.2 k).1 = 6) ∧ ∃ cell : Cell, H[ad k]? = some cell ∧ U.isArrayOf cell (if (h.1.2.2 k).1 = 1 then .int else .char) ∧ cell.vm ≠ .unknown ∧ (h.1.2.2 k).2 ≤ cell.slots.size ∧ cell.slots.size.toInt32 = Int32.ofNat (h.1.2.2 k).2 ∧ ∀ i, i < (h.1.2.2 k).2 → cell.slots[i]? = some (.int (h.2.1 k i))
def ts_R (b0 : Nat) (ad : Nat → Nat) (D : va_G) (cA : Nat → ClassId) (h : tm_H) (U : State) (H : Heap) : Prop :=
  3 ≤ h.1.1 ∧ H.size + 3 = b0 + h.1.1 ∧ (∀ k, h.1.1 ≤ k → (h.1.2.2 k).1 = 99) ∧ (∀ k, 3 ≤ k → k < h.1.1 → (h.1.2.2 k).1 ≠ 6 ∧ va_at D ts_cl (ad k, ts_e ad cA h k) H) ∧ ∀ k, k < 3 → ts_S ad b0 h U H k
theorem ts_e_congr {ad : Nat → Nat} {cA : Nat → ClassId} {h h' : tm_H} {k : Nat} (e0 : h'.1.2.2 k = h.1.2.2 k) (e1 : h'.2.1 k = h.2.1 k) (e2 : h'.2.2.1 k = h.2.2.1 k) (e3 : h'.2.2.2 k = h.2.2.2 k) : ts_e ad cA h' k = ts_e ad cA h k := by
  unfold ts_e ts_fs tm_fv
  rw [e0, e1, e2, e3]
theorem ts_S_congr {ad : Nat → Nat} {b0 : Nat} {h h' : tm_H} {U : State} {H H1 : Heap} {k : Nat} (e0 : h'.1.2.2 k = h.1.2.2 k) (e1 : h'.2.1 k = h.2.1 k) (hH : ∀ q : Nat, q < b0 → H1[q]? = H[q]?) (hs : ts_S ad b0 h U H k) : ts_S ad b0 h' U H1 k := by
  unfold ts_S at hs ⊢
  rw [e0, e1]
  obtain ⟨h1, h2, cell, h3, h4⟩ := hs
  exact ⟨h1, h2, cell, by rw [hH _ h1]; exact h3, h4⟩
theorem ts_R.set {b0 : Nat} {ad : Nat → Nat} {D : va_G} {cA : Nat → ClassId} {h h' : tm_H} {U : State} {H H1 : Heap} {a : Nat} (hA3 : ∀ k, 3 ≤ k → ad k = b0 + (k - 3)) (hR : ts_R b0 ad D cA h U H) (ha : 3 ≤ a) (eG : h'.1 = h.1)
    (e1 : ∀ k, k ≠ a → h'.2.1 k = h.2.1 k) (e2 : ∀ k, k ≠ a → h'.2.2.1 k = h.2.2.1 k) (e3 : ∀ k, k ≠ a → h'.2.2.2 k = h.2.2.2 k) (z : H1.size = H.size) (oq : ∀ q : Nat, q ≠ ad a → H1[q]? = H[q]?) (hat : va_at D ts_cl (ad a, ts_e ad cA h' a) H1) : ts_R b0 ad D cA h' U H1 := by
  obtain ⟨r1, r2, r3, r4, r5⟩ := hR
  refine ⟨by rw [eG]; exact r1, by rw [z, eG]; exact r2, fun k hk => by rw [eG] at hk ⊢; exact r3 k hk, fun k h3 hk => ?_, fun k hk => ?_⟩
  · rw [eG] at hk
    refine ⟨by rw [eG]; exact (r4 k h3 hk).1, ?_⟩
    by_cases hka : k = a
    · subst hka; exact hat
    · rw [ts_e_congr (by rw [eG]) (e1 k hka) (e2 k hka) (e3 k hka)]
      refine (r4 k h3 hk).2.kept (oq _ ?_)
      show ad k ≠ ad a
      rw [hA3 k h3, hA3 a ha]
      omega
  · refine ts_S_congr (by rw [eG]) (e1 k (by omega)) (fun q hq => oq q ?_) (r5 k hk)
    rw [hA3 a ha]
    omega
theorem ts_R.lt {b0 : Nat} {ad : Nat → Nat} {D : va_G} {cA : Nat → ClassId} {h : tm_H} {U : State} {H : Heap} {a : Nat} (hR : ts_R b0 ad D cA h U H) (hn : (h.1.2.2 a).1 ≠ 99) : a < h.1.1 := by
  rcases Nat.lt_or_ge a h.1.1 with q | q
  · exact q
  · exact absurd (hR.2.2.1 a q) hn
theorem ts_R.ge3 {b0 : Nat} {ad : Nat → Nat} {D : va_G} {cA : Nat → ClassId} {h : tm_H} {U : State} {H : Heap} {a : Nat} (hR : ts_R b0 ad D cA h U H) (hn : (h.1.2.2 a).1 ≠ 1 ∧ (h.1.2.2 a).1 ≠ 6) : 3 ≤ a := by
  rcases Nat.lt_or_ge a 3 with q | q
  · rcases (hR.2.2.2.2 a q).2.1 with h1 | h1
    · exact absurd h1 hn.1
    · exact absurd h1 hn.2
  · exact q
theorem ts_R.moved {b0 : Nat} {ad : Nat → Nat} {D : va_G} {cA : Nat → ClassId} {h : tm_H} {u U : State} {H : Heap} (hvm : u.vm.Alike U.vm) (hR : ts_R b0 ad D cA h u H) : ts_R b0 ad D cA h U H := by
  obtain ⟨r1, r2, r3, r4, r5⟩ := hR
  refine ⟨r1, r2, r3, r4, fun k hk => ?_⟩
  obtain ⟨h1, h2, cell, h3, h4, h5⟩ := r5 k hk
  exact ⟨h1, h2, cell, h3, State.isArrayOf_alike hvm h4, h5⟩
theorem ts_rf (ad : Nat → Nat) (r : Option Nat) : ts_v ad (tm_rf r) = va_rf (r.map ad) := by cases r <;> rfl
theorem ts_fs_len {ad : Nat → Nat} {ci k : Nat} {h : tm_H} : (ts_fs ad ci k h).length = ts_N ci := by
  unfold ts_fs
  rw [List.length_map, List.length_range]
theorem ts_fs_get {ad : Nat → Nat} {ci k f : Nat} {h : tm_H} (hf : f < ts_N ci) : (ts_fs ad ci k h)[f]? = some (ts_v ad (tm_fv (ts_kd (ts_ty ci f)) k f h)) := by
  unfold ts_fs
  rw [List.getElem?_map, List.getElem?_range hf]
  rfl
theorem ts_fs_set {ad : Nat → Nat} {ci a f : Nat} {h h' : tm_H} {v : Value} (hf : f < ts_N ci) (hv : ts_v ad (tm_fv (ts_kd (ts_ty ci f)) a f h') = v) (ho : ∀ g, g ≠ f → tm_fv (ts_kd (ts_ty ci g)) a g h' = tm_fv (ts_kd (ts_ty ci g)) a g h) : ts_fs ad ci a h' = (ts_fs ad ci a h).set f v := by
  refine List.ext_getElem? (fun i => ?_)
  by_cases hi : i < ts_N ci
  · rw [ts_fs_get hi]
    by_cases e : i = f
    · subst e
      rw [List.getElem?_set_self (by rw [ts_fs_len]; exact hi), hv]
    · rw [List.getElem?_set_ne (Ne.symm e), ts_fs_get hi, ho i e]
  · rw [List.getElem?_eq_none (by rw [ts_fs_len]; omega), List.getElem?_eq_none (by rw [List.length_set, ts_fs_len]; omega)]
theorem up2_row {α : Type} {f : Nat → Nat → α} {a i k : Nat} {v : α} (h : k ≠ a) : up2 f a i v k = f k := by
  funext j
  simp [up2, h]
theorem up2_at {α : Type} {f : Nat → Nat → α} {a i : Nat} {v : α} : up2 f a i v a i = v := by simp [up2]
theorem up2_ne {α : Type} {f : Nat → Nat → α} {a i j : Nat} {v : α} (h : j ≠ i) : up2 f a i v a j = f a j := by simp [up2, h]
theorem upr_ne {α : Type} {f : Nat → α} {a k : Nat} {v : α} (h : k ≠ a) : upr f a v k = f k := by simp [upr, h]
theorem upr_at {α : Type} {f : Nat → α} {a : Nat} {v : α} : upr f a v a = v := by simp [upr]
/-- a new cell behind the last one -/
theorem ts_R.push {b0 : Nat} {ad : Nat → Nat} {D : va_G} {cA : Nat → ClassId} {h : tm_H} {U : State} {H H1 : Heap} {q : Nat × Nat} {n : Nat} (hA3 : ∀ k, 3 ≤ k → ad k = b0 + (k - 3)) (hR : ts_R b0 ad D cA h U H) (hq6 : q.1 ≠ 6) (z : H1.size = H.size + 1) (o1 : ∀ q : Nat, q < H.size → H1[q]? = H[q]?) (hat : va_at D ts_cl (H.size, ts_e ad cA (tm_nw q n h) h.1.1) H1) : ts_R b0 ad D cA (tm_nw q n h) U H1 := by
  obtain ⟨r1, r2, r3, r4, r5⟩ := hR
  refine ⟨by show 3 ≤ h.1.1 + 1; omega, by show H1.size + 3 = b0 + (h.1.1 + 1); omega, fun k hk => ?_, fun k h3 hk => ?_, fun k hk => ?_⟩
  · have hk' : h.1.1 + 1 ≤ k := hk
    show (upr h.1.2.2 h.1.1 q k).1 = 99
    rw [upr_ne (by omega)]
    exact r3 k (by omega)
  · have hk' : k < h.1.1 + 1 := hk
    by_cases e : k = h.1.1
    · subst e
      have : ad h.1.1 = H.size := by rw [hA3 _ h3]; omega
      rw [this]
      exact ⟨by show (upr h.1.2.2 h.1.1 q h.1.1).1 ≠ 6; rw [upr_at]; exact hq6, hat⟩
    · have hk2 : k < h.1.1 := by omega
      refine ⟨by show (upr h.1.2.2 h.1.1 q k).1 ≠ 6; rw [upr_ne e]; exact (r4 k h3 hk2).1, ?_⟩
      rw [ts_e_congr (h := h) (upr_ne e) (upr_ne e) (upr_ne e) (upr_ne e)]
      refine (r4 k h3 hk2).2.kept (o1 _ ?_)
      show ad k < H.size
      rw [hA3 k h3]
      omega
  · have e : k ≠ h.1.1 := by omega
    exact ts_S_congr (h := h) (upr_ne e) (upr_ne e) (fun x hx => o1 x (by omega)) (r5 k hk)
