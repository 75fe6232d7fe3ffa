def tm_cs (st : List Value) : Prop := (st.map Value.category).sum ≤ 8
theorem tm_rf_some (a : Nat) : tm_rf (some a) = .ref a := rfl
theorem tm_rf_none : tm_rf none = .null := rfl
section TMR
variable {d j pc : Nat} {ls : tm_Lo} {st : List Value} {K : Option Value → tm_H → Prop} {i : Instr} {x : tm_X}
theorem tm_s {h h' : tm_H} {pc' : Nat} {ls' : tm_Lo} {st' : List Value} (ho : tm_op j pc = some (i, x)) (h1 : tm_isRet i = false) (h2 : tm_isInv i = false) (e : tm_h i x pc ls st h = some (pc', ls', st', h')) : tm_A d j pc ls st h K ↔ tm_A d j pc' ls' st' h' K := by
  rw [tm_A_h ho h1 h2, e]
  simp only [Option.some.injEq, exists_eq_left']
theorem tm_c {h h' : tm_H} {pc' : Nat} {ls' : tm_Lo} {st' : List Value} {cc : Prop} [Decidable cc] (ho : tm_op j pc = some (i, x)) (h1 : tm_isRet i = false) (h2 : tm_isInv i = false) (e : tm_h i x pc ls st h = if cc then some (pc', ls', st', h') else none) : tm_A d j pc ls st h K ↔ cc ∧ tm_A d j pc' ls' st' h' K := by
  rw [tm_A_h ho h1 h2, e]
  by_cases hc : cc
  · simp only [hc, if_true, Option.some.injEq, exists_eq_left', true_and]
  · simp only [hc, if_false, false_and, reduceCtorEq, exists_false]
theorem tm_b {h : tm_H} {t f : Nat} {ls' : tm_Lo} {st' : List Value} {b : Bool} {cc : Prop} [Decidable cc] (ho : tm_op j pc = some (i, x)) (h1 : tm_isRet i = false) (h2 : tm_isInv i = false) (e : tm_h i x pc ls st h = some (if b = true then t else f, ls', st', h)) (hb : b = decide cc) : tm_A d j pc ls st h K ↔ if cc then tm_A d j t ls' st' h K else tm_A d j f ls' st' h K := by
  rw [tm_A_h ho h1 h2, e]
  simp only [Option.some.injEq, exists_eq_left']
  subst hb
  by_cases hc : cc
  · simp only [hc, decide_true, if_true]
  · simp only [hc, decide_false, if_false, Bool.false_eq_true]
theorem tm_ic {h : tm_H} {n : Int} {v : Int32} (ho : tm_op j pc = some (.iconst n, x)) (hv : Int32.ofInt n = v) : tm_A d j pc ls st h K ↔ tm_A d j (pc + 1) ls (.int v :: st) h K := by
  subst hv
  exact tm_s ho rfl rfl rfl
theorem tm_bp {h : tm_H} {n : Int} {v : Int32} (ho : tm_op j pc = some (.bipush n, x)) (hv : (Int8.ofInt n).toInt32 = v) : tm_A d j pc ls st h K ↔ tm_A d j (pc + 2) ls (.int v :: st) h K := by
  subst hv
  exact tm_s ho rfl rfl rfl
theorem tm_sp {h : tm_H} {n : Int} {v : Int32} (ho : tm_op j pc = some (.sipush n, x)) (hv : (Int16.ofInt n).toInt32 = v) : tm_A d j pc ls st h K ↔ tm_A d j (pc + 3) ls (.int v :: st) h K := by
  subst hv
  exact tm_s ho rfl rfl rfl
variable {G : tm_G} {I : Nat → Nat → Int32} {J : Nat → Nat → Int64} {R : Nat → Nat → Option Nat} {a c k w z : Nat}
theorem tm_getI (ho : tm_op j pc = some (.getfield w, (0, c, k, z))) : tm_A d j pc ls (.ref a :: st) (G, I, J, R) K ↔ G.2.2 a = (0, c) ∧ tm_A d j (pc + 3) ls (.int (I a k) :: st) (G, I, J, R) K :=
  tm_c ho rfl rfl (by show Option.map _ (ite _ _ _) = _; split <;> rfl)
theorem tm_getZ (ho : tm_op j pc = some (.getfield w, (3, c, k, z))) : tm_A d j pc ls (.ref a :: st) (G, I, J, R) K ↔ G.2.2 a = (0, c) ∧ tm_A d j (pc + 3) ls (.int (I a k) :: st) (G, I, J, R) K :=
  tm_c ho rfl rfl (by show Option.map _ (ite _ _ _) = _; split <;> rfl)
theorem tm_getJ (ho : tm_op j pc = some (.getfield w, (1, c, k, z))) : tm_A d j pc ls (.ref a :: st) (G, I, J, R) K ↔ G.2.2 a = (0, c) ∧ tm_A d j (pc + 3) ls (.long (J a k) :: st) (G, I, J, R) K :=
  tm_c ho rfl rfl (by show Option.map _ (ite _ _ _) = _; split <;> rfl)
theorem tm_getR (ho : tm_op j pc = some (.getfield w, (2, c, k, z))) : tm_A d j pc ls (.ref a :: st) (G, I, J, R) K ↔ G.2.2 a = (0, c) ∧ tm_A d j (pc + 3) ls (tm_rf (R a k) :: st) (G, I, J, R) K :=
  tm_c ho rfl rfl (by show Option.map _ (ite _ _ _) = _; split <;> rfl)
theorem tm_putI {v : Int32} (ho : tm_op j pc = some (.putfield w, (0, c, k, z))) : tm_A d j pc ls (.int v :: .ref a :: st) (G, I, J, R) K ↔ G.2.2 a = (0, c) ∧ tm_A d j (pc + 3) ls st (G, up2 I a k v, J, R) K :=
  tm_c ho rfl rfl (by show Option.map _ (ite _ _ _) = _; split <;> rfl)
theorem tm_putZ {v : Int32} (ho : tm_op j pc = some (.putfield w, (3, c, k, z))) : tm_A d j pc ls (.int v :: .ref a :: st) (G, I, J, R) K ↔ (G.2.2 a = (0, c) ∧ (v = 0 ∨ v = 1)) ∧ tm_A d j (pc + 3) ls st (G, up2 I a k v, J, R) K :=
  tm_c ho rfl rfl (by show Option.map _ (ite _ _ _) = _; split <;> rfl)
theorem tm_putJ {v : Int64} (ho : tm_op j pc = some (.putfield w, (1, c, k, z))) : tm_A d j pc ls (.long v :: .ref a :: st) (G, I, J, R) K ↔ G.2.2 a = (0, c) ∧ tm_A d j (pc + 3) ls st (G, I, up2 J a k v, R) K :=
  tm_c ho rfl rfl (by show Option.map _ (ite _ _ _) = _; split <;> rfl)
theorem tm_putR {v : Nat} (ho : tm_op j pc = some (.putfield w, (2, c, k, z))) : tm_A d j pc ls (.ref v :: .ref a :: st) (G, I, J, R) K ↔ G.2.2 a = (0, c) ∧ tm_A d j (pc + 3) ls st (G, I, J, up2 R a k (some v)) K :=
  tm_c ho rfl rfl (by show Option.map _ (ite _ _ _) = _; split <;> rfl)
theorem tm_iald {v : Int32} (ho : tm_op j pc = some (.iaload, x)) : tm_A d j pc ls (.int v :: .ref a :: st) (G, I, J, R) K ↔ ((G.2.2 a).1 = 1 ∧ tm_in v (G.2.2 a).2) ∧ tm_A d j (pc + 1) ls (.int (I a (tm_ix v)) :: st) (G, I, J, R) K :=
  tm_c ho rfl rfl (by show Option.map _ (ite _ _ _) = _; split <;> rfl)
theorem tm_cald {v : Int32} (ho : tm_op j pc = some (.caload, x)) : tm_A d j pc ls (.int v :: .ref a :: st) (G, I, J, R) K ↔ ((G.2.2 a).1 = 6 ∧ tm_in v (G.2.2 a).2) ∧ tm_A d j (pc + 1) ls (.int (I a (tm_ix v)) :: st) (G, I, J, R) K :=
  tm_c ho rfl rfl (by show Option.map _ (ite _ _ _) = _; split <;> rfl)
theorem tm_lald {v : Int32} (ho : tm_op j pc = some (.laload, x)) : tm_A d j pc ls (.int v :: .ref a :: st) (G, I, J, R) K ↔ ((G.2.2 a).1 = 2 ∧ tm_in v (G.2.2 a).2) ∧ tm_A d j (pc + 1) ls (.long (J a (tm_ix v)) :: st) (G, I, J, R) K :=
  tm_c ho rfl rfl (by show Option.map _ (ite _ _ _) = _; split <;> rfl)
theorem tm_aald {v : Int32} (ho : tm_op j pc = some (.aaload, x)) : tm_A d j pc ls (.int v :: .ref a :: st) (G, I, J, R) K ↔ (((G.2.2 a).1 = 3 ∨ (G.2.2 a).1 = 4 ∨ (G.2.2 a).1 = 5) ∧ tm_in v (G.2.2 a).2) ∧ tm_A d j (pc + 1) ls (tm_rf (R a (tm_ix v)) :: st) (G, I, J, R) K :=
  tm_c ho rfl rfl (by show Option.map _ (ite _ _ _) = _; split <;> rfl)
theorem tm_alen (ho : tm_op j pc = some (.arraylength, x)) : tm_A d j pc ls (.ref a :: st) (G, I, J, R) K ↔ (G.2.2 a).1 = 1 ∧ tm_A d j (pc + 1) ls (.int (Int32.ofNat (G.2.2 a).2) :: st) (G, I, J, R) K :=
  tm_c ho rfl rfl (by show Option.map _ (ite _ _ _) = _; split <;> rfl)
theorem tm_iast {v u : Int32} (ho : tm_op j pc = some (.iastore, x)) : tm_A d j pc ls (.int u :: .int v :: .ref a :: st) (G, I, J, R) K ↔ (3 ≤ a ∧ (G.2.2 a).1 = 1 ∧ tm_in v (G.2.2 a).2) ∧ tm_A d j (pc + 1) ls st (G, up2 I a (tm_ix v) u, J, R) K :=
  tm_c ho rfl rfl (by show Option.map _ (ite _ _ _) = _; split <;> rfl)
theorem tm_last {v : Int32} {u : Int64} (ho : tm_op j pc = some (.lastore, x)) : tm_A d j pc ls (.long u :: .int v :: .ref a :: st) (G, I, J, R) K ↔ (3 ≤ a ∧ (G.2.2 a).1 = 2 ∧ tm_in v (G.2.2 a).2) ∧ tm_A d j (pc + 1) ls st (G, I, up2 J a (tm_ix v) u, R) K :=
  tm_c ho rfl rfl (by show Option.map _ (ite _ _ _) = _; split <;> rfl)
theorem tm_aast {v : Int32} {u : Nat} (ho : tm_op j pc = some (.aastore, x)) : tm_A d j pc ls (.ref u :: .int v :: .ref a :: st) (G, I, J, R) K ↔ (3 ≤ a ∧ (((G.2.2 a).1 = 4 ∧ G.2.2 u = (0, 8)) ∨ ((G.2.2 a).1 = 5 ∧ G.2.2 u = (0, 0))) ∧ tm_in v (G.2.2 a).2) ∧ tm_A d j (pc + 1) ls st (G, I, J, up2 R a (tm_ix v) (some u)) K :=
  tm_c ho rfl rfl (by show Option.map _ (ite _ _ _) = _; split <;> rfl)
theorem tm_new (ho : tm_op j pc = some (.new w, (z, c, k, x.1))) : tm_A d j pc ls st (G, I, J, R) K ↔ tm_A d j (pc + 3) ls (.ref G.1 :: st) (tm_nw (0, c) k (G, I, J, R)) K :=
  tm_s ho rfl rfl rfl
theorem tm_newa {t : ArrayType} {v : Int32} (ho : tm_op j pc = some (.newarray t, x)) : tm_A d j pc ls (.int v :: st) (G, I, J, R) K ↔ (¬ v < 0 ∧ (tm_ix v) ≤ 100000) ∧ tm_A d j (pc + 2) ls (.ref G.1 :: st) (tm_nw (x.1, (tm_ix v)) (tm_ix v) (G, I, J, R)) K :=
  tm_c ho rfl rfl (by show Option.map _ (ite _ _ _) = _; split <;> rfl)
theorem tm_anew {v : Int32} (ho : tm_op j pc = some (.anewarray w, x)) : tm_A d j pc ls (.int v :: st) (G, I, J, R) K ↔ (¬ v < 0 ∧ (tm_ix v) ≤ 100000) ∧ tm_A d j (pc + 3) ls (.ref G.1 :: st) (tm_nw (x.1, (tm_ix v)) (tm_ix v) (G, I, J, R)) K :=
  tm_c ho rfl rfl (by show Option.map _ (ite _ _ _) = _; split <;> rfl)
theorem tm_mnew {v u : Int32} (ho : tm_op j pc = some (.multianewarray w z, x)) : tm_A d j pc ls (.int v :: .int u :: st) (G, I, J, R) K ↔ (¬ u < 0 ∧ ¬ v < 0 ∧ (tm_ix u) ≤ 1000 ∧ (tm_ix v) ≤ 1000) ∧ tm_A d j (pc + 4) ls (.ref G.1 :: st) (tm_mn (tm_ix u) (tm_ix v) (G, I, J, R)) K :=
  tm_c ho rfl rfl (by show Option.map _ (ite _ _ _) = _; split <;> rfl)
theorem tm_idv {v u : Int32} {h : tm_H} (ho : tm_op j pc = some (.idiv, x)) : tm_A d j pc ls (.int v :: .int u :: st) h K ↔ ¬ v = 0 ∧ tm_A d j (pc + 1) ls (.int (u / v) :: st) h K :=
  tm_c ho rfl rfl (by show Option.map _ (Option.map _ (Option.map _ (ite _ _ _))) = _; by_cases q : v = 0 <;> simp [q])
theorem tm_irm {v u : Int32} {h : tm_H} (ho : tm_op j pc = some (.irem, x)) : tm_A d j pc ls (.int v :: .int u :: st) h K ↔ ¬ v = 0 ∧ tm_A d j (pc + 1) ls (.int (u - u / v * v) :: st) h K :=
  tm_c ho rfl rfl (by show Option.map _ (Option.map _ (Option.map _ (ite _ _ _))) = _; by_cases q : v = 0 <;> simp [q])
theorem tm_reti {h : tm_H} {v : Int32} (ho : tm_op j pc = some (.ireturn, x)) (hk : tm_rk j = 1) : tm_A d j pc ls [.int v] h K ↔ K (some (.int v)) h := by
  rw [tm_A_r ho rfl, hk]
  simp [tm_ret]
theorem tm_retz {h : tm_H} {v : Int32} (ho : tm_op j pc = some (.ireturn, x)) (hk : tm_rk j = 4) : tm_A d j pc ls [.int v] h K ↔ (v = 0 ∨ v = 1) ∧ K (some (.int v)) h := by
  rw [tm_A_r ho rfl, hk]
  by_cases q : v = 0 ∨ v = 1 <;> simp [tm_ret, q]
theorem tm_retj {h : tm_H} {v : Int64} (ho : tm_op j pc = some (.lreturn, x)) (hk : tm_rk j = 2) : tm_A d j pc ls [.long v] h K ↔ K (some (.long v)) h := by
  rw [tm_A_r ho rfl, hk]
  simp [tm_ret]
theorem tm_reta {h : tm_H} (ho : tm_op j pc = some (.areturn, x)) (hk : tm_rk j = 3) : tm_A d j pc ls [.ref a] h K ↔ K (some (.ref a)) h := by
  rw [tm_A_r ho rfl, hk]
  simp [tm_ret]
theorem tm_retn {h : tm_H} (ho : tm_op j pc = some (.areturn, x)) (hk : tm_rk j = 3) : tm_A d j pc ls [.null] h K ↔ K (some .null) h := by
  rw [tm_A_r ho rfl, hk]
  simp [tm_ret]
theorem tm_retv {h : tm_H} (ho : tm_op j pc = some (.return_, x)) (hk : tm_rk j = 0) : tm_A d j pc ls [] h K ↔ K none h := by
  rw [tm_A_r ho rfl, hk]
  simp [tm_ret]
theorem tm_call {h : tm_H} {t n : Nat} {as : List Value} (ho : tm_op j pc = some (i, (t, k, n, c))) (h1 : tm_isRet i = false) (h2 : tm_isInv i = true) (h4 : t ≠ 4) (h5 : t ≠ 5) (h6 : ¬ 6 ≤ t) (hn : as.length = n) (hk : as.map tm_vk = tm_ak k) : tm_A (d + 1) j pc ls (as.reverse ++ st) h K ↔ (tm_rcv t c as h = true ∧ tm_cs st) ∧ tm_R d k as h (fun r h' => tm_A (d + 1) j (pc + 3) ls (r.toList ++ st) h' K) := by
  rw [tm_A_i ho h1 h2 h4 h5 h6]
  have e1 : (as.reverse ++ st).take n = as.reverse := by rw [← hn, ← List.length_reverse]; exact List.take_left
  have e2 : (as.reverse ++ st).drop n = st := by rw [← hn, ← List.length_reverse]; exact List.drop_left
  simp only [e1, e2, List.reverse_reverse, tm_cs, List.length_append, List.length_reverse, hn, hk, Nat.le_add_right, true_and]
theorem tm_callS {h : tm_H} {n : Nat} {as : List Value} (ho : tm_op j pc = some (i, (1, k, n, c))) (h1 : tm_isRet i = false) (h2 : tm_isInv i = true) (hn : as.length = n) (hk : as.map tm_vk = tm_ak k) : tm_A (d + 1) j pc ls (as.reverse ++ st) h K ↔ tm_cs st ∧ tm_R d k as h (fun r h' => tm_A (d + 1) j (pc + 3) ls (r.toList ++ st) h' K) := by
  rw [tm_call ho h1 h2 (by decide) (by decide) (by decide) hn hk]
  simp [tm_rcv]
theorem tm_callV {h : tm_H} {n : Nat} {as : List Value} (ho : tm_op j pc = some (i, (2, k, n, c))) (h1 : tm_isRet i = false) (h2 : tm_isInv i = true) (hn : (Value.ref a :: as).length = n) (hk : (Value.ref a :: as).map tm_vk = tm_ak k) : tm_A (d + 1) j pc ls ((Value.ref a :: as).reverse ++ st) h K ↔ (h.1.2.2 a = (0, c) ∧ tm_cs st) ∧ tm_R d k (.ref a :: as) h (fun r h' => tm_A (d + 1) j (pc + 3) ls (r.toList ++ st) h' K) := by
  rw [tm_call ho h1 h2 (by decide) (by decide) (by decide) hn hk]
  simp [tm_rcv]
theorem tm_callI {h : tm_H} {n : Nat} {as : List Value} (ho : tm_op j pc = some (i, (3, k, n, c))) (h1 : tm_isRet i = false) (h2 : tm_isInv i = true) (hn : (Value.ref a :: as).length = n) (hk : (Value.ref a :: as).map tm_vk = tm_ak k) : tm_A (d + 1) j pc ls ((Value.ref a :: as).reverse ++ st) h K ↔ tm_cs st ∧ tm_R d k (.ref a :: as) h (fun r h' => tm_A (d + 1) j (pc + 3) ls (r.toList ++ st) h' K) := by
  rw [tm_call ho h1 h2 (by decide) (by decide) (by decide) hn hk]
  simp [tm_rcv]
theorem tm_obj {h : tm_H} (ho : tm_op j pc = some (i, (4, k, w, c))) (h1 : tm_isRet i = false) (h2 : tm_isInv i = true) : tm_A (d + 1) j pc ls (.ref a :: st) h K ↔ tm_cs st ∧ tm_A (d + 1) j (pc + 3) ls st h K := by
  rw [tm_A_oi ho h1 h2 rfl]
  by_cases q : (st.map Value.category).sum ≤ 8 <;> simp [tm_oi, tm_cs, q]
theorem tm_abs {h : tm_H} {v : Int32} (ho : tm_op j pc = some (i, (6, k, w, c))) (h1 : tm_isRet i = false) (h2 : tm_isInv i = true) : tm_A (d + 1) j pc ls (.int v :: st) h K ↔ tm_cs st ∧ tm_A (d + 1) j (pc + 3) ls (.int (if 0 ≤ v then v else 0 - v) :: st) h K := by
  rw [tm_A_mp ho h1 h2 (by simp) (by simp) (by simp)]
  by_cases q : (st.map Value.category).sum ≤ 8 <;> simp [tm_mp, tm_cs, q]
theorem tm_max {h : tm_H} {u v : Int32} (ho : tm_op j pc = some (i, (7, k, w, c))) (h1 : tm_isRet i = false) (h2 : tm_isInv i = true) : tm_A (d + 1) j pc ls (.int u :: .int v :: st) h K ↔ tm_cs st ∧ tm_A (d + 1) j (pc + 3) ls (.int (if v < u then u else v) :: st) h K := by
  rw [tm_A_mp ho h1 h2 (by simp) (by simp) (by simp)]
  by_cases q : (st.map Value.category).sum ≤ 8 <;> simp [tm_mp, tm_cs, q]
theorem tm_min {h : tm_H} {u v : Int32} (ho : tm_op j pc = some (i, (8, k, w, c))) (h1 : tm_isRet i = false) (h2 : tm_isInv i = true) : tm_A (d + 1) j pc ls (.int u :: .int v :: st) h K ↔ tm_cs st ∧ tm_A (d + 1) j (pc + 3) ls (.int (if u < v then u else v) :: st) h K := by
  rw [tm_A_mp ho h1 h2 (by simp) (by simp) (by simp)]
  by_cases q : (st.map Value.category).sum ≤ 8 <;> simp [tm_mp, tm_cs, q]
theorem tm_mnj {h : tm_H} {u v : Int64} (ho : tm_op j pc = some (i, (9, k, w, c))) (h1 : tm_isRet i = false) (h2 : tm_isInv i = true) : tm_A (d + 1) j pc ls (.long u :: .long v :: st) h K ↔ tm_cs st ∧ tm_A (d + 1) j (pc + 3) ls (.long (if u < v then u else v) :: st) h K := by
  rw [tm_A_mp ho h1 h2 (by simp) (by simp) (by simp)]
  by_cases q : (st.map Value.category).sum ≤ 8 <;> simp [tm_mp, tm_cs, q]
end TMR
