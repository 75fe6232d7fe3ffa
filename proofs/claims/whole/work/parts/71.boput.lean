/-! Telling, on both. -/
section BPT
variable {G G' : tm_G} {I I' X : Nat → Nat → Int32} {J J' : Nat → Nat → Int64} {R R' : Nat → Nat → Option Nat} {nw rp ch n oc pr : Nat} {tl fa ro dy rd : Nat → Nat}
/-- what the class leaves of the cells below 112, seen by the reference -/
theorem p_text_old {D : p_D} {x y : Int32} {c : Nat} (hS : tp_S G) (ht : p_text G G' (tp_dr I D) I' J J' R R' x y c) {b k : Nat} (hb : b < 112) (h9 : b = 9 → k ≠ 2) (hs : ¬ scr b k) : I' b k = I b k := by
  have hG := hS.1
  obtain ⟨-, -, -, -, -, -, -, -, -, -, -, -, t13, -⟩ := ht
  rw [t13 b k (by omega) h9, scr_dr hs]
theorem bo_report (d : Nat) (hi : iv (G, I, J, R)) : iv_both (d + 5) 90 133 [] (G, I, J, R) := by
  have hi0 := hi
  obtain ⟨nw, rp, ch, n, oc, pr, tl, fa, ro, dy, rd, hp⟩ : ∃ (nw rp ch n oc pr : Nat) (tl fa ro dy rd : Nat → Nat), iv_p G I J R nw rp ch n oc pr tl fa ro dy rd := hi
  obtain ⟨s1, s2, s3, s4, s5, s6, s7⟩ := hp.1.2.2.2.1
  have hS := hp.1.1
  have hR := hp.1.2.1
  have hC := hp.1.2.2.1
  have ht := hp.1.2.2.2.2.1
  have hdy := hp.1.2.2.2.2.2.2.2.1
  have e90 : ∀ D, tp_dr I D 90 = I 90 := fun D => dr_o (by decide) (by omega)
  have e89 : ∀ D, tp_dr I D 89 = I 89 := fun D => dr_o (by decide) (by omega)
  have hre := p_read_eq (fun p hp2 => (ht p hp2).1) (I 6 1) (I 7) (I 8)
  unfold iv_both
  refine c90 d _ hS hR hC s5.1 s5.2.2 s2.1 s2.2.2 s4.1 (fun h => by omega) (fun h => ?_) (fun h hf => ?_) (fun h hf G' I' J' R' htx => ?_)
  · refine m133 (d + 1) _ hS hR s5.2.1 s5.2.2 (fun p hp2 => (ht p hp2).2) s2.2.1 s2.2.2 s4.2 (fun h => by omega) (I 6 1) (I 7) (I 8) (fun _ => iv_same _ hi0) (fun h' => by omega)
  · refine m133 (d + 1) _ hS hR (by rw [e89]; exact s5.2.1) s5.2.2 (fun p hp2 => by rw [e90]; exact (ht p hp2).2) (by rw [e89]; exact s2.2.1) s2.2.2 (by rw [e89]; exact s4.2) (fun h => by omega) (I 6 1) (I 7) (I 8) (fun h' => by omega) (fun _ M' hM' => ?_)
    rw [e90, ← hre] at *
    rw [if_neg hf]
    refine iv_same _ ⟨nw, rp, ch, n, oc, pr, tl, fa, ro, dy, rd, iv_scr hp (fun b k h => ?_) rfl⟩
    show tp_mr (tp_dr I _) M' b k = I b k
    rw [scr_mr h, scr_dr h]
  · obtain ⟨hS', hR'⟩ := p_text_S hS hR htx
    generalize hI1 : up2 (up2 (up2 I' 9 3 (nI (rp + 1))) 4 1 0) 3 10 (-1) = I1
    have io : ∀ b k, b < 112 → b ≠ 3 → b ≠ 4 → b ≠ 9 → ¬ scr b k → I1 b k = I b k := fun b k h1 h3 h4 h9 hs => by
      rw [← hI1, up2_row h3, up2_row h4, up2_row h9]
      exact p_text_old hS htx h1 (fun z => absurd z h9) hs
    have i90 : I1 90 = I 90 := by funext k; exact io 90 k (by decide) (by decide) (by decide) (by decide) (scr_no (by omega) k)
    have i89 : ∀ k, k < 7 ∨ k = 14 → I1 89 k = I 89 k := fun k h => io 89 k (by decide) (by decide) (by decide) (by decide) (by unfold scr; omega)
    refine m133 (d + 1) _ hS' hR' (by rw [i89 6 (by omega)]; exact s5.2.1) s5.2.2 (fun p hp2 => by rw [i90]; exact (ht p hp2).2) (by rw [i89 1 (by omega)]; exact s2.2.1) s2.2.2 (by rw [i89 14 (by omega)]; exact s4.2) (fun h => by omega) (I 6 1) (I 7) (I 8) (fun h' => by omega) (fun _ M' hM' => ?_)
    rw [i90, ← hre] at *
    rw [if_pos hf]
    have hM := hM' hf
    refine iv_same _ (tell_iv (X := up2 (up2 (tp_mr I1 M') 103 rp (I1 89 0)) 89 1 (nI (rp + 1))) hp hM rfl (by omega) htx (fun b k h1 h3 h4 h9 h89 h103 hs => ?_) (fun b hb => ?_) ?_ ?_ ?_ ?_ ?_ ?_ ?_ (rp' := rp + 1) (ch' := ch) (by omega) (by omega) (rd' := fun r => if r = rp then nw else rd r) ?_ ?_ (by omega) (fun r hr => ?_) ?_ (fun r h1 h2 => ?_) (fun r hr => ?_))
    · rw [up2_row h89, up2_row h103, scr_mr hs]
      exact io b k h1 h3 h4 h9 hs
    · funext k
      rw [up2_row (by omega), up2_row (by omega), mr_o (by omega) (by omega), ← hI1, up2_row (by omega), up2_row (by omega), up2_row (by omega)]
    · rw [up2_ne (by decide), up2_row (by decide), mr_o9 (by omega), i89 0 (by omega)]
      exact s1.2.1
    · rw [up2_ne (by decide), up2_row (by decide), mr_7]
    · rw [up2_ne (by decide), up2_row (by decide), mr_8]
    · rw [up2_ne (by decide), up2_row (by decide), mr_10]
    · rw [up2_row (by decide), up2_row (by decide), mr_91]
    · rw [up2_row (by decide), up2_row (by decide), mr_92]
    · rw [up2_row (by decide), up2_row (by decide), mr_93]
    · have j3 : ∀ k, k ≠ 10 → I1 3 k = I 3 k := fun k hk => by
        rw [← hI1, up2_ne hk, up2_row (by decide), up2_row (by decide)]
        exact p_text_old hS htx (by decide) (fun z => by omega) (scr_no (by omega) k)
      have j93 : I1 9 3 = nI (rp + 1) := by rw [← hI1, up2_row (by decide), up2_row (by decide), up2_at]
      have j94 : I1 9 4 = nI ch := by
        rw [← hI1, up2_row (by decide), up2_row (by decide), up2_ne (by decide), p_text_old hS htx (by decide) (fun _ => by decide) (scr_no (by omega) 4)]
        exact s3.1
      have j92 : I1 9 2 = nI (rp + ch + 1) := by
        rw [← hI1, up2_row (by decide), up2_row (by decide), up2_ne (by decide)]
        exact htx.2.2.2.2.2.2.2.2.2.2.2.2.2.1
      have j41 : I1 4 1 = nI 0 := by rw [← hI1, up2_row (by decide), up2_at]; rfl
      simp only [iv_sc, p_tell, up2, tp_mr, j3 7 (by decide), j3 8 (by decide), j3 9 (by decide), j93, j94, j92, j41, i89 0 (by omega), i89 2 (by omega), i89 3 (by omega), i89 4 (by omega), s1, s2, s3, s6, s7, Nat.reduceEqDiff, if_true, if_false, false_and, and_false, and_self, true_and, nI_0, show rp + 1 + ch = rp + ch + 1 by omega]
      simp
      omega
    · rw [up2_row (by decide), up2_row (by decide), mr_o (by decide) (by omega), ← hI1, up2_at]
    · show (if r = rp then nw else rd r) = rd r
      rw [if_neg (by omega)]
    · show (if rp = rp then nw else rd rp) ≤ nw
      rw [if_pos rfl]
      exact Nat.le_refl _
    · refine ⟨by omega, ?_⟩
      show (if r = rp then nw else rd r) = nw
      rw [if_pos (by omega)]
    · rw [up2_row (by decide)]
      show _ = nI (if r = rp then nw else rd r)
      by_cases e : r = rp
      · subst e
        rw [up2_at, if_pos rfl, i89 0 (by omega)]
        exact s1.2.1
      · rw [up2_ne e, if_neg e, mr_o (by decide) (by omega), io 103 r (by decide) (by decide) (by decide) (by decide) (scr_no (by omega) r)]
        exact (hdy.2.1 r (by omega)).1
theorem bo_correct (d : Nat) (x : Int32) (hi : iv (G, I, J, R)) : iv_both (d + 5) 91 135 [.int x] (G, I, J, R) := by
  have hi0 := hi
  obtain ⟨nw, rp, ch, n, oc, pr, tl, fa, ro, dy, rd, hp⟩ : ∃ (nw rp ch n oc pr : Nat) (tl fa ro dy rd : Nat → Nat), iv_p G I J R nw rp ch n oc pr tl fa ro dy rd := hi
  obtain ⟨s1, s2, s3, s4, s5, s6, s7⟩ := hp.1.2.2.2.1
  have hS := hp.1.1
  have hR := hp.1.2.1
  have hC := hp.1.2.2.1
  have ht := hp.1.2.2.2.2.1
  have hdy := hp.1.2.2.2.2.2.2.2.1
  have e90 : ∀ D, tp_dr I D 90 = I 90 := fun D => dr_o (by decide) (by omega)
  have e89 : ∀ D, tp_dr I D 89 = I 89 := fun D => dr_o (by decide) (by omega)
  have hre := p_read_eq (fun p hp2 => (ht p hp2).1) (I 6 1) (I 7) (I 8)
  unfold iv_both
  refine c91 d x _ hS hR hC s5.1 s5.2.2 s2.1 s2.2.2 s3.1 s3.2.2 s4.1 (fun h => by omega) (fun h => ?_) (fun h hf => ?_) (fun h hf G' I' J' R' htx => ?_)
  · refine m135 (d + 1) x _ hS hR s5.2.1 s5.2.2 (fun p hp2 => (ht p hp2).2) s2.2.1 s2.2.2 s3.2.1 s3.2.2 s4.2 (fun h => by omega) (I 6 1) (I 7) (I 8) (fun _ => iv_same _ hi0) (fun h' => absurd h' h)
  · refine m135 (d + 1) x _ hS hR (by rw [e89]; exact s5.2.1) s5.2.2 (fun p hp2 => by rw [e90]; exact (ht p hp2).2) (by rw [e89]; exact s2.2.1) s2.2.2 (by rw [e89]; exact s3.2.1) s3.2.2 (by rw [e89]; exact s4.2) (fun h => by omega) (I 6 1) (I 7) (I 8) (fun h' => absurd h h') (fun _ M' hM' => ?_)
    rw [e90, ← hre] at *
    rw [if_neg hf]
    refine iv_same _ ⟨nw, rp, ch, n, oc, pr, tl, fa, ro, dy, rd, iv_scr hp (fun b k h => ?_) rfl⟩
    show tp_mr (tp_dr I _) M' b k = I b k
    rw [scr_mr h, scr_dr h]
  · obtain ⟨hS', hR'⟩ := p_text_S hS hR htx
    obtain ⟨hx, hc60⟩ := h
    have hxx := q_of hx
    generalize tm_ix x = xr at hxx
    obtain ⟨rfl, hxr⟩ := hxx
    generalize hI1 : up2 (up2 (up2 I' 9 4 (nI (ch + 1))) 4 1 0) 3 10 (-1) = I1
    have io : ∀ b k, b < 112 → b ≠ 3 → b ≠ 4 → b ≠ 9 → ¬ scr b k → I1 b k = I b k := fun b k h1 h3 h4 h9 hs => by
      rw [← hI1, up2_row h3, up2_row h4, up2_row h9]
      exact p_text_old hS htx h1 (fun z => absurd z h9) hs
    have i90 : I1 90 = I 90 := by funext k; exact io 90 k (by decide) (by decide) (by decide) (by decide) (scr_no (by omega) k)
    have i89 : ∀ k, k < 7 ∨ k = 14 → I1 89 k = I 89 k := fun k h => io 89 k (by decide) (by decide) (by decide) (by decide) (by unfold scr; omega)
    refine m135 (d + 1) (nI xr) _ hS' hR' (by rw [i89 6 (by omega)]; exact s5.2.1) s5.2.2 (fun p hp2 => by rw [i90]; exact (ht p hp2).2) (by rw [i89 1 (by omega)]; exact s2.2.1) s2.2.2 (by rw [i89 2 (by omega)]; exact s3.2.1) s3.2.2 (by rw [i89 14 (by omega)]; exact s4.2) (fun h => by omega) (I 6 1) (I 7) (I 8) (fun h' => absurd ⟨hx, hc60⟩ h') (fun _ M' hM' => ?_)
    rw [i90, ← hre] at *
    rw [if_pos hf]
    have hM := hM' hf
    refine iv_same _ (tell_iv (X := up2 (tp_mr I1 M') 89 2 (nI (ch + 1))) hp hM rfl (by omega) htx (fun b k h1 h3 h4 h9 h89 h103 hs => ?_) (fun b hb => ?_) ?_ ?_ ?_ ?_ ?_ ?_ ?_ (rp' := rp) (ch' := ch + 1) (by omega) (by omega) (rd' := rd) ?_ ?_ hxr (fun r hr => rfl) ?_ (fun r h1 h2 => by omega) (fun r hr => ?_))
    · rw [up2_row h89, scr_mr hs]
      exact io b k h1 h3 h4 h9 hs
    · funext k
      rw [up2_row (by omega), mr_o (by omega) (by omega), ← hI1, up2_row (by omega), up2_row (by omega), up2_row (by omega)]
    · rw [up2_ne (by decide), mr_o9 (by omega), i89 0 (by omega)]
      exact s1.2.1
    · rw [up2_ne (by decide), mr_7]
    · rw [up2_ne (by decide), mr_8]
    · rw [up2_ne (by decide), mr_10]
    · rw [up2_row (by decide), mr_91]
    · rw [up2_row (by decide), mr_92]
    · rw [up2_row (by decide), mr_93]
    · have j3 : ∀ k, k ≠ 10 → I1 3 k = I 3 k := fun k hk => by
        rw [← hI1, up2_ne hk, up2_row (by decide), up2_row (by decide)]
        exact p_text_old hS htx (by decide) (fun z => by omega) (scr_no (by omega) k)
      have j94 : I1 9 4 = nI (ch + 1) := by rw [← hI1, up2_row (by decide), up2_row (by decide), up2_at]
      have j93 : I1 9 3 = nI rp := by
        rw [← hI1, up2_row (by decide), up2_row (by decide), up2_ne (by decide), p_text_old hS htx (by decide) (fun _ => by decide) (scr_no (by omega) 3)]
        exact s2.1
      have j92 : I1 9 2 = nI (rp + ch + 1) := by
        rw [← hI1, up2_row (by decide), up2_row (by decide), up2_ne (by decide)]
        exact htx.2.2.2.2.2.2.2.2.2.2.2.2.2.1
      have j41 : I1 4 1 = nI 0 := by rw [← hI1, up2_row (by decide), up2_at]; rfl
      simp only [iv_sc, p_tell, up2, tp_mr, j3 7 (by decide), j3 8 (by decide), j3 9 (by decide), j93, j94, j92, j41, i89 0 (by omega), i89 1 (by omega), i89 3 (by omega), i89 4 (by omega), s1, s2, s3, s6, s7, Nat.reduceEqDiff, if_true, if_false, false_and, and_false, and_self, true_and, nI_0, show rp + (ch + 1) = rp + ch + 1 by omega]
      simp
      omega
    · rw [up2_row (by decide), mr_o (by decide) (by omega), ← hI1, up2_at]
    · exact (hdy.2.1 xr hxr).2.1
    · rw [up2_row (by decide), mr_o (by decide) (by omega), io 103 r (by decide) (by decide) (by decide) (by decide) (scr_no (by omega) r)]
      exact (hdy.2.1 r (by omega)).1
end BPT
