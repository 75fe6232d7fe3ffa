/-! The law's own walk, out of a run of the small machine. -/
def tp_mk (i : Nat) : Int32 := ([112, 100, 110, 119, 107] : List Int32).getD i 0
def tp_hi (i : Nat) : Int32 := ([99, 999, 9999, 0, 2] : List Int32).getD i 0
def tp_h0 (L : Nat) (xs : Nat → Int32) : tm_H := ((3, 0, fun k => if k = 0 then (1, L) else if k = 1 then (6, 5) else if k = 2 then (1, 5) else (99, 0)), (fun k i => if k = 0 then xs i else if k = 1 then tp_mk i else if k = 2 then tp_hi i else 0), (fun _ _ => 0), (fun _ _ => none))
/-- what is owed of the small machine: on every script the law's run answers 1, within the room -/
def tp_goal : Prop := ∀ (L : Nat) (xs : Nat → Int32), L ≤ 3072 → tm_R 1000 175 [.ref 0] (tp_h0 L xs) (fun r h' => r = some (.int 1) ∧ h'.1.1 ≤ 600003 ∧ h'.1.2.1 ≤ 7302250)
theorem tp_arr {s : State} {args : Array Value} {t : FieldType} (h : (Cond.arrayClass t).before args s = true) : ∃ cB, ArrOfT s cB t ∧ s.vm.findClass ("[" ++ t.toString) = some cB := by
  obtain ⟨cB, k, comp, h1, h2, h3⟩ := Cond.arrayClass_spec h
  exact ⟨cB, fun n z => ⟨(fun q hq => by cases hq), k, h2, comp, h3⟩, h1⟩
theorem tp_mark : ∀ j : Nat, j < 5 → (Jvm.Cond.eq (Jvm.Term.elem (Jvm.Term.static "TidingsDesk$Tape" "MARKS" "[C") (Jvm.Term.int (Int32.ofNat j))) (Jvm.Term.int (tp_mk j))) ∈ flatC (Jvm.Cond.and given_1 narrow_1) := by decide +kernel
theorem tp_high : ∀ j : Nat, j < 5 → (Jvm.Cond.eq (Jvm.Term.elem (Jvm.Term.static "TidingsDesk$Tape" "HIGHEST" "[I") (Jvm.Term.int (Int32.ofNat j))) (Jvm.Term.int (tp_hi j))) ∈ flatC (Jvm.Cond.and given_1 narrow_1) := by decide +kernel
set_option maxHeartbeats 4000000 in
set_option maxRecDepth 100000 in
theorem whole_of (hg : tp_goal) {p : Program} {e : Env} {s : State} {m : MethodId} {below : List Frame} {meth : Method} {c : Code} (l : Launch) {b L : Nat} {xs : Nat → Int32} (hL : L ≤ 3072) (C0 : lw_At p s m meth c b L xs) : W p l e room_1 s m #[Value.ref b] below meth c s.heap [] 0 0 (lw_Z below #[Value.ref b] s) (entryFrame m ([Value.ref b] : List Value).toArray 4) := by
  obtain ⟨hx, hb, hr, hml, hown, hts, hX, hbl, hlocks, hgv⟩ := C0
  have hG : ∀ w ∈ ts_G, w.before #[Value.ref b] s = true := fun w hw => hts w (ts_G_in hw)
  have hfl := flat_of_before _ hgv
  obtain ⟨tM, htM, hTM⟩ := va_Tof (N := 5) (f := fun j => .int (tp_mk j)) (A := fun q => s.heap.size ≤ q) (by decide) (hfl (Cond.arrayOf (.static "TidingsDesk$Tape" "MARKS" "[C") .char) (by decide +kernel)) (va_eqt (hfl (Cond.eq (.length (.static "TidingsDesk$Tape" "MARKS" "[C")) (.int 5)) (by decide +kernel))) (fun j hj => va_eqt (hfl _ (tp_mark j hj))) (fun a ha => Nat.not_le.mpr ha)
  obtain ⟨tH, htH, hTH⟩ := va_Tof (N := 5) (f := fun j => .int (tp_hi j)) (A := fun q => s.heap.size ≤ q) (by decide) (hfl (Cond.arrayOf (.static "TidingsDesk$Tape" "HIGHEST" "[I") .int) (by decide +kernel)) (va_eqt (hfl (Cond.eq (.length (.static "TidingsDesk$Tape" "HIGHEST" "[I")) (.int 5)) (by decide +kernel))) (fun j hj => va_eqt (hfl _ (tp_high j hj))) (fun a ha => Nat.not_le.mpr ha)
  have hZM := va_Zof (A := fun q => s.heap.size ≤ q) (hts (.laysStatic "TidingsDesk$Tape" "MARKS" "[C") (by decide +kernel)) (hts (.initialized "TidingsDesk$Tape") (by decide +kernel)) htM (fun a ha => Nat.not_le.mpr ha)
  have hZH := va_Zof (A := fun q => s.heap.size ≤ q) (hts (.laysStatic "TidingsDesk$Tape" "HIGHEST" "[I") (by decide +kernel)) (hts (.initialized "TidingsDesk$Tape") (by decide +kernel)) htH (fun a ha => Nat.not_le.mpr ha)
  obtain ⟨D, hKc⟩ : ∃ D : va_G, ∀ (k : Nat) (q : vw_C), ts_cl[k]? = some q → u_Kn s q.1 q.2.1 q.2.2 (D.1 k) (D.2 k) := by
    have h1 : ∀ k : Nat, ∃ r : ClassId × (Nat → Nat), ∀ q : vw_C, ts_cl[k]? = some q → u_Kn s q.1 q.2.1 q.2.2 r.1 r.2 := by
      intro k
      by_cases hk : k < 11
      · obtain ⟨C, T, N, hc, -, -, -⟩ := ts_cl_get hk
        obtain ⟨c1, -, -, -⟩ := ts_cl_ok _ _ _ _ hc
        have hi : (Cond.instantiable C N).before #[Value.ref b] s = true := by
          refine hts _ ?_
          revert hc
          have : ∀ k, k < 11 → ∀ q : vw_C, ts_cl[k]? = some q → Cond.instantiable q.1 q.2.2 ∈ lw_tbl := by
            intro k hk q hq
            have h9 : ∀ q ∈ ts_cl, Cond.instantiable q.1 q.2.2 ∈ lw_tbl := by
              intro q hq
              simp only [ts_cl, List.mem_cons, List.not_mem_nil, or_false] at hq
              rcases hq with rfl | rfl | rfl | rfl | rfl | rfl | rfl | rfl | rfl | rfl | rfl <;> decide +kernel
            exact h9 q (List.mem_of_getElem? hq)
          exact fun hc => this k hk _ hc
        obtain ⟨cC, iS, hKn⟩ := u_known hG c1 hi
        exact ⟨(cC, iS), fun q hq => by cases hc.symm.trans hq; exact hKn⟩
      · exact ⟨(0, fun _ => 0), fun q hq => by
          have := (List.getElem?_eq_some_iff.mp hq).1
          exact absurd this hk⟩
    exact ⟨(fun k => (h1 k).choose.1, fun k => (h1 k).choose.2), fun k q hq => (h1 k).choose_spec q hq⟩
  obtain ⟨c1, g1, f1⟩ := tp_arr (hts (.arrayClass .int) (by decide +kernel))
  obtain ⟨c2, g2, f2⟩ := tp_arr (hts (.arrayClass .long) (by decide +kernel))
  obtain ⟨c6, g6, f6⟩ := tp_arr (hts (.arrayClass .char) (by decide +kernel))
  obtain ⟨o3, c3, k3, p31, p32, p33, p34⟩ := Cond.arrayOver_specA (t := .int) (hts (.arrayOver (.array .int)) (by decide +kernel))
  obtain ⟨o4, c4, k4, p41, p42, p43, p44, p45⟩ := Cond.arrayOver_spec (n := "TidingsDesk$Telling") (hts (.arrayOver (.object "TidingsDesk$Telling")) (by decide +kernel))
  obtain ⟨o5, c5, k5, p51, p52, p53, p54, p55⟩ := Cond.arrayOver_spec (n := "TidingsDesk$Facts") (hts (.arrayOver (.object "TidingsDesk$Facts")) (by decide +kernel))
  obtain ⟨cA, hcA⟩ : ∃ cA : Nat → ClassId, cA 1 = c1 ∧ cA 2 = c2 ∧ cA 3 = c3 ∧ cA 4 = c4 ∧ cA 5 = c5 ∧ cA 6 = c6 := ⟨fun k => if k = 1 then c1 else if k = 2 then c2 else if k = 3 then c3 else if k = 4 then c4 else if k = 5 then c5 else c6, rfl, rfl, rfl, rfl, rfl, rfl⟩
  obtain ⟨a1, a2, a3, a4, a5, a6⟩ := hcA
  have hK : va_K D ts_cl (ts_tys cA) s := by
    refine ⟨hKc, fun k q hk => ?_⟩
    have hm := List.mem_of_getElem? hk
    simp only [ts_tys, List.mem_cons, List.not_mem_nil, or_false, a1, a2, a3, a4, a5, a6] at hm
    rcases hm with rfl | rfl | rfl | rfl | rfl | rfl
    · exact ⟨g1, f1⟩
    · exact ⟨g2, f2⟩
    · exact ⟨fun n z => ⟨(fun q hq => by cases hq), k3, p32, o3, p33⟩, p34⟩
    · exact ⟨fun n z => ⟨(fun q hq => by cases hq), k4, p43, o4, p44⟩, k4, o4, p43, p44, p41, p45⟩
    · exact ⟨fun n z => ⟨(fun q hq => by cases hq), k5, p53, o5, p54⟩, k5, o5, p53, p54, p51, p55⟩
    · exact ⟨g6, f6⟩
  have hN : ∀ w ∈ ts_sp, va_Nw w s := by
    intro w hw
    have hm : w ∈ lw_tbl := by
      simp only [ts_sp, List.mem_cons, List.not_mem_nil, or_false] at hw
      rcases hw with rfl | rfl | rfl | rfl | rfl | rfl | rfl | rfl <;> decide +kernel
    have hb9 := hts w hm
    simp only [ts_sp, List.mem_cons, List.not_mem_nil, or_false] at hw
    rcases hw with rfl | rfl | rfl | rfl | rfl | rfl | rfl | rfl
    · exact va_Nw.of rfl hb9
    · exact va_Nw.of rfl hb9
    · exact va_Nw.of rfl hb9
    · exact va_Nw.of rfl hb9
    · exact va_Nw.of rfl hb9
    · exact hb9
    · exact hb9
    · exact hb9
  obtain ⟨ad, had0, had1, had2, hA3⟩ : ∃ ad : Nat → Nat, ad 0 = b ∧ ad 1 = tM ∧ ad 2 = tH ∧ ∀ k, 3 ≤ k → ad k = s.heap.size + (k - 3) :=
    ⟨fun k => if k = 0 then b else if k = 1 then tM else if k = 2 then tH else s.heap.size + (k - 3), rfl, rfl, rfl, fun k hk => by
      show (if k = 0 then b else if k = 1 then tM else if k = 2 then tH else s.heap.size + (k - 3)) = _
      rw [if_neg (by omega), if_neg (by omega), if_neg (by omega)]⟩
  have hR : ts_R s.heap.size ad D cA (tp_h0 L xs) s s.heap := by
    refine ⟨Nat.le_refl 3, rfl, fun k hk => ?_, fun k h3 hk => absurd hk (by show ¬ k < 3; omega), fun k hk => ?_⟩
    · have hk' : 3 ≤ k := hk
      show (if k = 0 then (1, L) else if k = 1 then (6, 5) else if k = 2 then (1, 5) else (99, 0)).1 = 99
      rw [if_neg (by omega), if_neg (by omega), if_neg (by omega)]
    · match k, hk with
      | 0, _ =>
        obtain ⟨scr, x1, x2, x3, x4, x5⟩ := hX
        refine ⟨by rw [had0]; exact hbl, Or.inl rfl, scr, by rw [had0]; exact x1, x2, x3, by rw [x4]; exact Nat.le_refl _, by rw [x4]; rfl, fun i hi => x5 i hi⟩
      | 1, _ =>
        obtain ⟨cell, x1, x2, x3, x4, x5, x6, x7⟩ := hTM
        refine ⟨by rw [had1]; exact (Array.getElem?_eq_some_iff.mp x1).1, Or.inr rfl, cell, by rw [had1]; exact x1, x2, x3, x4, x5, fun i hi => x6 i hi⟩
      | 2, _ =>
        obtain ⟨cell, x1, x2, x3, x4, x5, x6, x7⟩ := hTH
        refine ⟨by rw [had2]; exact (Array.getElem?_eq_some_iff.mp x1).1, Or.inl rfl, cell, by rw [had2]; exact x1, x2, x3, x4, x5, fun i hi => x6 i hi⟩
  obtain ⟨n, q, hrun, hq1, hq2, hq3⟩ := hg L xs hL
  have hC : ts_C s.heap.size ad D cA p room_1 s m #[Value.ref b] meth c 175 1000 :=
    ⟨hx, hb, hr, hml, hown, hG, hlocks, fun h9 => absurd h9 (by decide +kernel), hK, hN, by decide, by decide, Nat.le_refl _, ⟨by rw [had1]; exact hZM, by rw [had2]; exact hZH⟩⟩
  obtain ⟨-, m1, m2, m3, m4, m5, m6, m7, m8, m9, m10⟩ := ts_all_ok 175 (by decide)
  have hl : ts_L ad (tm_ml 175) (ts_lL 175) (tm_ent (tm_ml 175) [.ref 0]) ((lg_sl ([Value.ref 0].map (ts_v ad)) ++ List.replicate (tm_ml 175 - (lg_sl ([Value.ref 0].map (ts_v ad))).length) Slot.unset).toArray) :=
    ts_ent (ak := tm_ak 175) rfl m9 m8 m10
  have key := ts_sound (l := l) hA3 n 1000 175 0 _ [] _ q (by decide) hrun (p := p) (e := e) (below := below) (locs := []) (cells := 0) (slots := 0) hC hR va_S.rf hl (by show 0 + (q.2.1.1 - 3) ≤ 600000; omega) (by show 0 + (q.2.1.2.1 - 0) ≤ 7302250; omega)
  rw [lg_entry_eq]
  have e1 : [Value.ref 0].map (ts_v ad) = [Value.ref b] := by show [Value.ref (ad 0)] = _; rw [had0]
  rw [e1] at key
  intro T hT X
  obtain ⟨t, s1, o, s2, s3, ⟨s4, s5, s6⟩, L9, ⟨s7, s8, s9⟩, s10⟩ := key T hT X
  refine ⟨t, s1, o, s2, s3, by rw [s4, hq1]; rfl, s7, s8, ?_⟩
  refine s9.weaken (fun y hy hlt => absurd hlt (Nat.not_lt.mpr (s10 y hy))) ?_ ?_
  · show 0 + (q.2.1.1 - 3) ≤ 600000; omega
  · show 0 + (q.2.1.2.1 - 0) ≤ 7302250; omega
