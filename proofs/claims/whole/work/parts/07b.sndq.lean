section TSP
variable {p : Program} {l : Launch} {e : Env} {R : Room} {s : State} {m : MethodId} {args : Array Value} {below : List Frame} {meth : Method} {c : Code} {H : Heap} {locs : List Loc} {cells slots : Nat} {Q : State → Prop}
/-- the words that an instruction without the heap needs -/
def ts_wq (own : String) (i : Instr) (x : tm_X) : List Jvm.Cond := match i with
  | .ldc k => [.constant own k (Int32.ofNat x.2.1)]
  | .ldc_w k => [.constant own k (Int32.ofNat x.2.1)]
  | .ldc2_w k => [.constantLong own k (Int64.ofNat x.2.1)]
  | _ => []
set_option maxHeartbeats 4000000 in
theorem ts_q {cc : ByteArray} {pc pc' nL : Nat} {ls ls' : tm_Lo} {st st' : List Value} {la : Array Slot} {ad : Nat → Nat} {LL : List Nat} {x : tm_X} {own : String} {i : Instr} (hx : p.tables.exec = Jvm.exec) (hb : c.code = cc) (hown : s.vm.findClass own = some m.cls) (hw : ∀ w ∈ ts_wq own i x, w.before args s = true) (hd : decode cc pc = .ok (i, ts_ln i x)) (hk : ts_ck LL pc i = true) (hl : ts_L ad nL LL ls la) (hq : tm_q i x pc ls st = some (pc', ls', st'))
    (kk : ∀ la', ts_L ad nL LL ls' la' → W p l e R s m args below meth c H locs cells slots Q (F0 m pc' la' (st'.map (ts_v ad)))) : W p l e R s m args below meth c H locs cells slots Q (F0 m pc la (st.map (ts_v ad))) := by
  cases i with
  | iconst n =>
    cases hq
    exact lv_iconst hx hb hd rfl (kk _ hl)
  | bipush n =>
    cases hq
    exact lv_bipush hx hb hd rfl (kk _ hl)
  | sipush n =>
    cases hq
    exact lv_sipush hx hb hd rfl (kk _ hl)
  | lconst n =>
    cases hq
    exact lv_lconst hx hb hd rfl (kk _ hl)
  | ldc k =>
    cases hq
    exact lv_ldc hx hb hown (hw _ List.mem_cons_self) hd (kk _ hl)
  | ldc_w k =>
    cases hq
    exact lv_ldcw hx hb hown (hw _ List.mem_cons_self) hd (kk _ hl)
  | ldc2_w k =>
    cases hq
    exact lv_ldc2 hx hb hown (hw _ List.mem_cons_self) hd (kk _ hl)
  | aconst_null =>
    cases hq
    exact lv_null hx hb hd (kk _ hl)
  | iload k =>
    obtain ⟨w, e1, rfl, rfl, rfl⟩ := ts_inv_ld hq
    obtain ⟨v, rfl, e2⟩ := ts_inv_ldI e1
    exact lv_iload hx hb hd (hl.get e2) (kk _ hl)
  | iload_n k =>
    obtain ⟨w, e1, rfl, rfl, rfl⟩ := ts_inv_ld hq
    obtain ⟨v, rfl, e2⟩ := ts_inv_ldI e1
    exact lv_iload_n hx hb hd rfl (hl.get e2) (kk _ hl)
  | lload k =>
    obtain ⟨w, e1, rfl, rfl, rfl⟩ := ts_inv_ld hq
    obtain ⟨v, rfl, e2⟩ := ts_inv_ldJ e1
    exact lv_lload hx hb hd (hl.get e2) (kk _ hl)
  | lload_n k =>
    obtain ⟨w, e1, rfl, rfl, rfl⟩ := ts_inv_ld hq
    obtain ⟨v, rfl, e2⟩ := ts_inv_ldJ e1
    exact lv_lload_n hx hb hd rfl (hl.get e2) (kk _ hl)
  | aload k =>
    obtain ⟨w, e1, rfl, rfl, rfl⟩ := ts_inv_ld hq
    rcases ts_inv_ldA e1 with ⟨v, rfl, e2⟩ | ⟨rfl, e2⟩
    · exact lv_aload hx hb hd (hl.get e2) (kk _ hl)
    · exact lv_aloadN hx hb hd (hl.get e2) (kk _ hl)
  | aload_n k =>
    obtain ⟨w, e1, rfl, rfl, rfl⟩ := ts_inv_ld hq
    rcases ts_inv_ldA e1 with ⟨v, rfl, e2⟩ | ⟨rfl, e2⟩
    · exact lv_aload_n hx hb hd rfl (hl.get e2) (kk _ hl)
    · exact lv_aload_nN hx hb hd rfl (hl.get e2) (kk _ hl)
  | istore k =>
    obtain ⟨e1, rfl⟩ := ts_inv_st hq
    obtain ⟨v, rfl, e2, rfl⟩ := ts_inv_stI e1
    rw [hl.1] at e2
    exact lv_istore hx hb hd hl.has e2 rfl (fun la' h' => kk la' (hl.set1 (v := .int v) e2 rfl (ts_lk_spec hk) h'))
  | istore_n k =>
    obtain ⟨e1, rfl⟩ := ts_inv_st hq
    obtain ⟨v, rfl, e2, rfl⟩ := ts_inv_stI e1
    rw [hl.1] at e2
    exact lv_istore_n hx hb hd rfl hl.has e2 rfl (fun la' h' => kk la' (hl.set1 (v := .int v) e2 rfl (ts_lk_spec hk) h'))
  | lstore k =>
    obtain ⟨e1, rfl⟩ := ts_inv_st hq
    obtain ⟨v, rfl, e2, rfl⟩ := ts_inv_stJ e1
    rw [hl.1] at e2
    simp only [ts_ck, Bool.and_eq_true, decide_eq_true_eq] at hk
    exact lv_lstore hx hb hd hl.has e2 rfl (fun la' h' => kk la' (hl.set2 (v := .long v) e2 hk.2 (ts_lk_spec hk.1) h'))
  | lstore_n k =>
    obtain ⟨e1, rfl⟩ := ts_inv_st hq
    obtain ⟨v, rfl, e2, rfl⟩ := ts_inv_stJ e1
    rw [hl.1] at e2
    simp only [ts_ck, Bool.and_eq_true, decide_eq_true_eq] at hk
    exact lv_lstore_n hx hb hd rfl hl.has e2 rfl (fun la' h' => kk la' (hl.set2 (v := .long v) e2 hk.2 (ts_lk_spec hk.1) h'))
  | astore k =>
    obtain ⟨e1, rfl⟩ := ts_inv_st hq
    rcases ts_inv_stA e1 with ⟨v, rfl, e2, rfl⟩ | ⟨rfl, e2, rfl⟩
    · rw [hl.1] at e2
      exact lv_astore hx hb hd hl.has e2 rfl (fun la' h' => kk la' (hl.set1 (v := .ref v) e2 rfl (ts_lk_spec hk) h'))
    · rw [hl.1] at e2
      exact lv_astoreN hx hb hd hl.has e2 rfl (fun la' h' => kk la' (hl.set1 (v := .null) e2 rfl (ts_lk_spec hk) h'))
  | astore_n k =>
    obtain ⟨e1, rfl⟩ := ts_inv_st hq
    rcases ts_inv_stA e1 with ⟨v, rfl, e2, rfl⟩ | ⟨rfl, e2, rfl⟩
    · rw [hl.1] at e2
      exact lv_astore_n hx hb hd rfl hl.has e2 rfl (fun la' h' => kk la' (hl.set1 (v := .ref v) e2 rfl (ts_lk_spec hk) h'))
    · rw [hl.1] at e2
      exact lv_astore_nN hx hb hd rfl hl.has e2 rfl (fun la' h' => kk la' (hl.set1 (v := .null) e2 rfl (ts_lk_spec hk) h'))
  | iinc k n =>
    obtain ⟨w, e1, e2⟩ := Option.map_eq_some_iff.mp hq
    cases e2
    unfold tm_inc at e1
    split at e1
    next v hv =>
      cases e1
      have e2 : k < nL := by rw [← hl.1]; exact (List.getElem?_eq_some_iff.mp hv).1
      obtain ⟨j9, hj9⟩ := List.getElem?_of_mem (ts_as_mem.mpr ⟨k, .int v, hv, rfl⟩ : (k, ts_v ad (.int v)) ∈ ts_as ad ls)
      exact lv_iinc hx hb hd hl.has hj9 rfl e2 rfl (fun la' h' => kk la' (hl.set1 (v := .int (v + Int32.ofInt n)) e2 rfl (ts_lk_spec hk) h'))
    next => cases e1
  | iadd =>
    obtain ⟨e1, rfl, rfl⟩ := ts_inv_sk hq
    obtain ⟨a, b, r, z, rfl, e2, rfl⟩ := ts_inv_bin e1
    cases e2
    exact lv_iadd hx hb hd (kk _ hl)
  | isub =>
    obtain ⟨e1, rfl, rfl⟩ := ts_inv_sk hq
    obtain ⟨a, b, r, z, rfl, e2, rfl⟩ := ts_inv_bin e1
    cases e2
    exact lv_isub hx hb hd (kk _ hl)
  | imul =>
    obtain ⟨e1, rfl, rfl⟩ := ts_inv_sk hq
    obtain ⟨a, b, r, z, rfl, e2, rfl⟩ := ts_inv_bin e1
    cases e2
    exact lv_imul hx hb hd (kk _ hl)
  | iand =>
    obtain ⟨e1, rfl, rfl⟩ := ts_inv_sk hq
    obtain ⟨a, b, r, z, rfl, e2, rfl⟩ := ts_inv_bin e1
    cases e2
    exact lv_iand hx hb hd (kk _ hl)
  | ior =>
    obtain ⟨e1, rfl, rfl⟩ := ts_inv_sk hq
    obtain ⟨a, b, r, z, rfl, e2, rfl⟩ := ts_inv_bin e1
    cases e2
    exact lv_ior hx hb hd (kk _ hl)
  | ixor =>
    obtain ⟨e1, rfl, rfl⟩ := ts_inv_sk hq
    obtain ⟨a, b, r, z, rfl, e2, rfl⟩ := ts_inv_bin e1
    cases e2
    exact lv_ixor hx hb hd (kk _ hl)
  | ishl =>
    obtain ⟨e1, rfl, rfl⟩ := ts_inv_sk hq
    obtain ⟨a, b, r, z, rfl, e2, rfl⟩ := ts_inv_bin e1
    cases e2
    exact lv_ishl hx hb hd (kk _ hl)
  | ishr =>
    obtain ⟨e1, rfl, rfl⟩ := ts_inv_sk hq
    obtain ⟨a, b, r, z, rfl, e2, rfl⟩ := ts_inv_bin e1
    cases e2
    exact lv_ishr hx hb hd (kk _ hl)
  | iushr =>
    obtain ⟨e1, rfl, rfl⟩ := ts_inv_sk hq
    obtain ⟨a, b, r, z, rfl, e2, rfl⟩ := ts_inv_bin e1
    cases e2
    exact lv_iushr hx hb hd rfl (kk _ hl)
  | idiv =>
    obtain ⟨e1, rfl, rfl⟩ := ts_inv_sk hq
    obtain ⟨a, b, r, z, rfl, e2, rfl⟩ := ts_inv_bin e1
    split at e2
    next => cases e2
    next hne =>
      cases e2
      exact lv_idiv hx hb hd hne (kk _ hl)
  | irem =>
    obtain ⟨e1, rfl, rfl⟩ := ts_inv_sk hq
    obtain ⟨a, b, r, z, rfl, e2, rfl⟩ := ts_inv_bin e1
    split at e2
    next => cases e2
    next hne =>
      cases e2
      exact lv_irem hx hb hd hne (kk _ hl)
  | ineg =>
    obtain ⟨e1, rfl, rfl⟩ := ts_inv_sk hq
    unfold tm_ineg at e1
    split at e1
    next =>
      cases e1
      exact lv_ineg hx hb hd (kk _ hl)
    next => cases e1
  | ladd =>
    obtain ⟨e1, rfl, rfl⟩ := ts_inv_sk hq
    unfold tm_ladd at e1
    split at e1
    next =>
      cases e1
      exact lv_ladd hx hb hd (kk _ hl)
    next => cases e1
  | lshl =>
    obtain ⟨e1, rfl, rfl⟩ := ts_inv_sk hq
    unfold tm_lsh at e1
    split at e1
    next =>
      cases e1
      exact lv_lshl hx hb hd rfl (kk _ hl)
    next => cases e1
  | lshr =>
    obtain ⟨e1, rfl, rfl⟩ := ts_inv_sk hq
    unfold tm_lsh at e1
    split at e1
    next =>
      cases e1
      exact lv_lshr hx hb hd rfl (kk _ hl)
    next => cases e1
  | lcmp =>
    obtain ⟨e1, rfl, rfl⟩ := ts_inv_sk hq
    unfold tm_lcmp at e1
    split at e1
    next =>
      cases e1
      exact W.lcmp hx hb hd (kk _ hl)
    next => cases e1
  | i2l =>
    obtain ⟨e1, rfl, rfl⟩ := ts_inv_sk hq
    unfold tm_i2l at e1
    split at e1
    next =>
      cases e1
      exact lv_i2l hx hb hd rfl (kk _ hl)
    next => cases e1
  | l2i =>
    obtain ⟨e1, rfl, rfl⟩ := ts_inv_sk hq
    unfold tm_l2i at e1
    split at e1
    next =>
      cases e1
      exact lv_l2i hx hb hd rfl (kk _ hl)
    next => cases e1
  | dup =>
    obtain ⟨e1, rfl, rfl⟩ := ts_inv_sk hq
    unfold tm_cat2 at e1
    split at e1
    next v r =>
      split at e1
      next hc => cases e1; exact lv_dup hx hb hd (by rw [ts_v_cat]; exact hc) (kk _ hl)
      next => cases e1
    next => cases e1
  | dup2 =>
    obtain ⟨e1, rfl, rfl⟩ := ts_inv_sk hq
    unfold tm_dp2 at e1
    split at e1
    next v w r =>
      split at e1
      next hc => cases e1; exact lv_dup2_11 hx hb hd (by rw [ts_v_cat]; exact hc.1) (by rw [ts_v_cat]; exact hc.2) (kk _ hl)
      next => cases e1
    next => cases e1
  | pop =>
    obtain ⟨e1, rfl, rfl⟩ := ts_inv_sk hq
    unfold tm_pop at e1
    split at e1
    next v r =>
      split at e1
      next hc => cases e1; exact lv_pop hx hb hd (by rw [ts_v_cat]; exact hc) (kk _ hl)
      next => cases e1
    next => cases e1
  | goto o =>
    cases hq
    exact lv_goto hx hb hd (ts_tg (by simpa [ts_ck] using hk)) (kk _ hl)
  | if_icmp cd o =>
    obtain ⟨e1, rfl⟩ := ts_inv_jp hq
    obtain ⟨a, b, rfl, rfl⟩ := ts_inv_br2 e1
    have ht := ts_tg (pc := pc) (o := o) (by simpa [ts_ck] using hk)
    cases cd
    · exact lv_icmp_eq hx hb hd ht (fun hc => by have := kk _ hl; simp only [tm_cmp, hc, decide_true, if_true, not_true, not_false_eq_true, decide_false, Bool.false_eq_true, if_false] at this; exact this) (fun hc => by have := kk _ hl; simp only [tm_cmp, hc, decide_false, if_false, Bool.false_eq_true, not_true, not_false_eq_true, decide_true, if_true] at this; exact this)
    · exact lv_icmp_ne hx hb hd ht (fun hc => by have := kk _ hl; simp only [tm_cmp, hc, decide_true, if_true, not_true, not_false_eq_true, decide_false, Bool.false_eq_true, if_false] at this; exact this) (fun hc => by have := kk _ hl; simp only [tm_cmp, hc, decide_false, if_false, Bool.false_eq_true, not_true, not_false_eq_true, decide_true, if_true] at this; exact this)
    · exact lv_icmp_lt hx hb hd ht (fun hc => by have := kk _ hl; simp only [tm_cmp, hc, decide_true, if_true, not_true, not_false_eq_true, decide_false, Bool.false_eq_true, if_false] at this; exact this) (fun hc => by have := kk _ hl; simp only [tm_cmp, hc, decide_false, if_false, Bool.false_eq_true, not_true, not_false_eq_true, decide_true, if_true] at this; exact this)
    · exact lv_icmp_ge hx hb hd ht (fun hc => by have := kk _ hl; simp only [tm_cmp, hc, decide_true, if_true, not_true, not_false_eq_true, decide_false, Bool.false_eq_true, if_false] at this; exact this) (fun hc => by have := kk _ hl; simp only [tm_cmp, hc, decide_false, if_false, Bool.false_eq_true, not_true, not_false_eq_true, decide_true, if_true] at this; exact this)
    · exact lv_icmp_gt hx hb hd ht (fun hc => by have := kk _ hl; simp only [tm_cmp, hc, decide_true, if_true, not_true, not_false_eq_true, decide_false, Bool.false_eq_true, if_false] at this; exact this) (fun hc => by have := kk _ hl; simp only [tm_cmp, hc, decide_false, if_false, Bool.false_eq_true, not_true, not_false_eq_true, decide_true, if_true] at this; exact this)
    · exact lv_icmp_le hx hb hd ht (fun hc => by have := kk _ hl; simp only [tm_cmp, hc, decide_true, if_true, not_true, not_false_eq_true, decide_false, Bool.false_eq_true, if_false] at this; exact this) (fun hc => by have := kk _ hl; simp only [tm_cmp, hc, decide_false, if_false, Bool.false_eq_true, not_true, not_false_eq_true, decide_true, if_true] at this; exact this)
  | ifCond cd o =>
    obtain ⟨e1, rfl⟩ := ts_inv_jp hq
    obtain ⟨a, rfl, rfl⟩ := ts_inv_br1 e1
    have ht := ts_tg (pc := pc) (o := o) (by simpa [ts_ck] using hk)
    cases cd
    · exact lv_if_eq hx hb hd ht (fun hc => by have := kk _ hl; simp only [tm_cmp, hc, decide_true, if_true, not_true, not_false_eq_true, decide_false, Bool.false_eq_true, if_false] at this; exact this) (fun hc => by have := kk _ hl; simp only [tm_cmp, hc, decide_false, if_false, Bool.false_eq_true, not_true, not_false_eq_true, decide_true, if_true] at this; exact this)
    · exact lv_if_ne hx hb hd ht (fun hc => by have := kk _ hl; simp only [tm_cmp, hc, decide_true, if_true, not_true, not_false_eq_true, decide_false, Bool.false_eq_true, if_false] at this; exact this) (fun hc => by have := kk _ hl; simp only [tm_cmp, hc, decide_false, if_false, Bool.false_eq_true, not_true, not_false_eq_true, decide_true, if_true] at this; exact this)
    · exact lv_if_lt hx hb hd ht (fun hc => by have := kk _ hl; simp only [tm_cmp, hc, decide_true, if_true, not_true, not_false_eq_true, decide_false, Bool.false_eq_true, if_false] at this; exact this) (fun hc => by have := kk _ hl; simp only [tm_cmp, hc, decide_false, if_false, Bool.false_eq_true, not_true, not_false_eq_true, decide_true, if_true] at this; exact this)
    · exact lv_if_ge hx hb hd ht (fun hc => by have := kk _ hl; simp only [tm_cmp, hc, decide_true, if_true, not_true, not_false_eq_true, decide_false, Bool.false_eq_true, if_false] at this; exact this) (fun hc => by have := kk _ hl; simp only [tm_cmp, hc, decide_false, if_false, Bool.false_eq_true, not_true, not_false_eq_true, decide_true, if_true] at this; exact this)
    · exact lv_if_gt hx hb hd ht (fun hc => by have := kk _ hl; simp only [tm_cmp, hc, decide_true, if_true, not_true, not_false_eq_true, decide_false, Bool.false_eq_true, if_false] at this; exact this) (fun hc => by have := kk _ hl; simp only [tm_cmp, hc, decide_false, if_false, Bool.false_eq_true, not_true, not_false_eq_true, decide_true, if_true] at this; exact this)
    · exact lv_if_le hx hb hd ht (fun hc => by have := kk _ hl; simp only [tm_cmp, hc, decide_true, if_true, not_true, not_false_eq_true, decide_false, Bool.false_eq_true, if_false] at this; exact this) (fun hc => by have := kk _ hl; simp only [tm_cmp, hc, decide_false, if_false, Bool.false_eq_true, not_true, not_false_eq_true, decide_true, if_true] at this; exact this)
  | ifnull o =>
    obtain ⟨e1, rfl⟩ := ts_inv_jp hq
    have ht := ts_tg (pc := pc) (o := o) (by simpa [ts_ck] using hk)
    rcases ts_inv_brN e1 with ⟨rfl, rfl⟩ | ⟨a, rfl, rfl⟩
    · exact lv_ifnullN hx hb hd ht (kk _ hl)
    · exact lv_ifnull hx hb hd (kk _ hl)
  | ifnonnull o =>
    obtain ⟨e1, rfl⟩ := ts_inv_jp hq
    have ht := ts_tg (pc := pc) (o := o) (by simpa [ts_ck] using hk)
    rcases ts_inv_brN e1 with ⟨rfl, rfl⟩ | ⟨a, rfl, rfl⟩
    · exact lv_ifnonnullN hx hb hd (kk _ hl)
    · exact lv_ifnonnull hx hb hd ht (kk _ hl)
  | tableswitch d lo hi offs =>
    have hq2 : tm_sw (tm_tsw d lo hi offs pc) ls st = some (pc', ls', st') := hq
    unfold tm_sw at hq2
    split at hq2
    next z r =>
      cases hq2
      have hk2 := hk
      simp only [ts_ck, Bool.and_eq_true, decide_eq_true_eq, List.all_eq_true] at hk2
      obtain ⟨⟨h1, h2⟩, h3⟩ := hk2
      by_cases hc : z.toInt < lo ∨ hi < z.toInt
      · refine lv_tableOut hx hb hd hc (ts_tg h1) ?_
        have := kk _ hl
        simp only [tm_tsw, hc, if_true] at this
        exact this
      · have hn1 : ¬ z.toInt < lo := fun q => hc (Or.inl q)
        have hn2 : ¬ hi < z.toInt := fun q => hc (Or.inr q)
        have hi9 : (z.toInt - lo).toNat < offs.toList.length := by rw [h2]; omega
        have hg : offs[(z.toInt - lo).toNat]? = some (offs.toList.getD (z.toInt - lo).toNat 0) := by
          rw [← Array.getElem?_toList, List.getD_eq_getElem?_getD, List.getElem?_eq_getElem hi9]
          rfl
        refine lv_tableIn hx hb hd hn1 hn2 hg (ts_tg (h3 _ ?_)) ?_
        · rw [List.getD_eq_getElem?_getD, List.getElem?_eq_getElem hi9]
          exact List.getElem_mem hi9
        · have := kk _ hl
          simp only [tm_tsw, hc, if_false] at this
          exact this
    next => cases hq2
  | _ => cases (show (none : Option (Nat × tm_Lo × List Value)) = some _ from hq)
end TSP
