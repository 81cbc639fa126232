/-! the law's cases, the rest: write, lists, the image -/
theorem Wf.m {I I' : ax_H} (h : Wf I I') : Mf [72, 73] I I' := h.1
theorem e_write {d L : Nat} {xs : Int → Int} {I : ax_H} {n x3 : Int} (hL : L ≤ 3584) (hxs : ∀ n, ax_R (xs n)) (hx : 0 ≤ x3 ∧ x3 + 7 ≤ L) (hJ : JJ n I) (K : ∀ I', JJ (n + 1) I' → RLs d L xs 1339 x3 I') : RLs d L xs 1091 x3 I := by
  have same := K I (hJ.ch (Kc.rf I) hJ.1 hJ.2.1)
  have hT := hJ.T
  have hg := hJ.gd
  obtain ⟨k4, pa, hv, s, pl, b, wr, li, im⟩ := hJ
  refine vL_law_1091 hL hxs ⟨by omega, ?_⟩
  refine a_write hT (hxs _) (fun c => ?_) (fun I1 c f1 p1 => ?_)
  · exact z_write hg (hxs _) (fun _ => fI rfl (by decide) same) (fun _ c2 => absurd c2 c)
  · have e86 : I1 86 = I 86 := f1.1 86 (by decide)
    have e85 : I1 85 = I 85 := f1.1 85 (by decide)
    refine z_write (by rw [e86]; exact hg) (hxs _) (fun c2 => absurd c c2) (fun I2 _ f2 p2 => ?_)
    rw [e86] at p2 ⊢
    have hl := wrt_len (I 86) (xs (x3 + 1))
    have f : Mf [72, 73, 85, 115] I I2 := (f1.1.mono (by decide)).trans (f2.1.mono (by decide))
    have w85 : ∀ k, k ≠ 27 → I2 85 k = I 85 k := fun k hk => by rw [f2.2 k hk, e85]
    have e86' : I2 86 = I 86 := f 86 (by decide)
    have e72 : I2 72 = I1 72 := f2.1 72 (by decide)
    have e73 : I2 73 = I1 73 := f2.1 73 (by decide)
    refine fI rfl ⟨by omega, by omega⟩ (K I2 ⟨by rw [e86']; exact k4.mf f (by decide), pa.mf f (by decide), by rw [f 1 (by decide)]; omega, s.cg (f 63 (by decide)) (f 64 (by decide)) (fun k _ _ => by rw [e86']), pl.cg (f 67 (by decide)) (f 68 (by decide)) (f 69 (by decide)) (fun k _ _ => by rw [e86']), b.cg (f 70 (by decide)) (f 71 (by decide)) (f 113 (by decide)) (w85 23 (by decide)), ⟨by rw [e72, p1.1, p2.1], by rw [e72, p1.1]; omega, fun k k0 k1 => ?_⟩, li.cg (f 75 (by decide)) (f 76 (by decide)) (f 116 (by decide)) (f 118 (by decide)) (f 119 (by decide)) (f 120 (by decide)) (f 121 (by decide)), im.cg (f 0 (by decide)) (f 79 (by decide)) (f 80 (by decide)) (f 81 (by decide)) (f 82 (by decide)) (f 83 (by decide)) (f 84 (by decide)) (f 87 (by decide)) (w85 2 (by decide))⟩)
    rw [e72, p1.1] at k1
    have h1 := p1.2 k.toNat (by omega)
    have h2 := p2.2 k.toNat (by omega)
    rw [show ((k.toNat : Nat) : Int) = k by omega] at h1 h2
    rw [e73, h1, h2]
/-- JJ where the lists' cells have changed -/
theorem JJ.upL {n : Int} {l : List Nat} {I I' : ax_H} (h : JJ n I) (f : Mf l I I') (hl : ∀ b ∈ l, b ∈ [75, 76, 116, 118, 119, 120, 121]) (li : jL I') : JJ (n + 1) I' := by
  obtain ⟨k4, pa, hv, s, pl, b, wr, _, im⟩ := h
  have e : ∀ b, b ∉ [75, 76, 116, 118, 119, 120, 121] → I' b = I b := fun b hb => f b (fun q => hb (hl b q))
  have f' : Mf [75, 76, 116, 118, 119, 120, 121] I I' := e
  have e86 := e 86 (by decide)
  have e85 := e 85 (by decide)
  exact ⟨by rw [e86]; exact k4.mf f' (by decide), pa.mf f' (by decide), by rw [e 1 (by decide)]; omega, s.cg (e 63 (by decide)) (e 64 (by decide)) (fun k _ _ => by rw [e86]), pl.cg (e 67 (by decide)) (e 68 (by decide)) (e 69 (by decide)) (fun k _ _ => by rw [e86]), b.cg (e 70 (by decide)) (e 71 (by decide)) (e 113 (by decide)) (by rw [e85]), wr.cg (e 72 (by decide)) (e 73 (by decide)) (e 115 (by decide)) (by rw [e85]), li, im.cg (e 0 (by decide)) (e 79 (by decide)) (e 80 (by decide)) (e 81 (by decide)) (e 82 (by decide)) (e 83 (by decide)) (e 84 (by decide)) (e 87 (by decide)) (by rw [e85])⟩
theorem e_list {d L : Nat} {xs : Int → Int} {I : ax_H} {n x3 : Int} (hL : L ≤ 3584) (hxs : ∀ n, ax_R (xs n)) (hx : 0 ≤ x3 ∧ x3 + 7 ≤ L) (hJ : JJ n I) (K : ∀ I', JJ (n + 1) I' → RLs d L xs 1339 x3 I') : RLs d L xs 1180 x3 I := by
  have same := K I (hJ.ch (Kc.rf I) hJ.1 hJ.2.1)
  have li := hJ.2.2.2.2.2.2.2.1
  refine vL_law_1180 hL hxs ⟨by omega, by omega, ?_⟩
  refine a_list (hxs _) (hxs _) (fun c => ?_) (fun c q => ?_) (fun c q => ?_) (fun I1 c q f1 z1 o1 => ?_)
  · exact z_list (hxs _) (hxs _) (fun _ => fI rfl (by decide) same) (fun c2 => absurd c2 c) (fun c2 => absurd c2 c) (fun _ c2 => absurd c2 c)
  · exact z_list (hxs _) (hxs _) (fun c2 => absurd c c2) (fun _ _ => fI rfl (by decide) same) (fun _ q2 => absurd q2 (by omega)) (fun _ _ q2 => absurd q2.2 (by omega))
  · exact z_list (hxs _) (hxs _) (fun c2 => absurd c c2) (fun _ q2 => absurd q2 (by omega)) (fun _ _ => fI rfl (by decide) same) (fun _ _ q2 => absurd q2.1 (by omega))
  · refine z_list (hxs _) (hxs _) (fun c2 => absurd c c2) (fun _ q2 => absurd q2 (by omega)) (fun _ q2 => absurd q2 (by omega)) (fun I2 _ _ f2 z2 => ?_)
    generalize hk : xs (x3 + 1) = k at *
    have hk4 : k = 0 ∨ k = 1 ∨ k = 2 ∨ k = 3 := by omega
    have hc : 118 + k.toNat = 118 ∨ 118 + k.toNat = 119 ∨ 118 + k.toNat = 120 ∨ 118 + k.toNat = 121 := by omega
    have w1 : ∀ x, x ≠ 75 → x ≠ 76 → I1 x = I x := fun x h1 h2 => by rw [f1 x (by simp [h2]), st_cell h1]
    have w2 : ∀ x, x ≠ 116 → x ≠ 118 + k.toNat → I2 x = I1 x := fun x h1 h2 => by rw [f2 x (fun e => h2 (List.mem_singleton.1 e)), st_cell h1]
    have f : Mf [75, 76, 116, 118, 119, 120, 121] I I2 := fun x hx2 => by
      simp only [List.mem_cons, List.not_mem_nil, or_false, not_or] at hx2
      rw [w2 x hx2.2.2.1 (by omega), w1 x hx2.1 hx2.2.1]
    have e75 : ∀ j, I2 75 j = if j = k then xs (x3 + 2) else I 75 j := fun j => by rw [w2 75 (by decide) (by omega), f1 75 (by decide), st_at]
    have e116 : ∀ j, I2 116 j = if j = k then xs (x3 + 2) else I 116 j := fun j => by
      rw [f2 116 (fun e => by have := List.mem_singleton.1 e; omega), st_at, w1 116 (by decide) (by decide)]
    refine fI rfl (by decide) (K I2 (hJ.upL f (fun b hb => hb) ⟨fun j j0 j1 => ?_, fun j j0 j1 => ?_, fun j i hp => ?_⟩))
    · rw [e75]
      split
      · omega
      · exact li.1 j j0 j1
    · rw [e75, e116]
      split
      · rfl
      · exact li.2.1 j j0 j1
    · have h75 := hp.2.2
      rw [e75] at h75
      have ej := hp.1
      rw [w2 76 (by decide) (by omega)]
      by_cases e : j = k
      · rw [if_pos e] at h75
        rw [e, z1 i hp.2.1 h75, z2 i hp.2.1 (by omega)]
      · rw [if_neg e] at h75
        have hb := li.1 j ej.1 ej.2
        have h3 := li.2.2 j i ⟨ej, hp.2.1, h75⟩
        rw [w2 _ (by omega) (by omega), w1 _ (by omega) (by omega), h3, o1 (j * 12 + i) (by omega)]
theorem e_put {d L : Nat} {xs : Int → Int} {I : ax_H} {n x3 : Int} (hL : L ≤ 3584) (hxs : ∀ n, ax_R (xs n)) (hx : 0 ≤ x3 ∧ x3 + 7 ≤ L) (hJ : JJ n I) (K : ∀ I', JJ (n + 1) I' → RLs d L xs 1339 x3 I') : RLs d L xs 1213 x3 I := by
  have same := K I (hJ.ch (Kc.rf I) hJ.1 hJ.2.1)
  have li := hJ.2.2.2.2.2.2.2.1
  have hz : szs I 116 := fun k k0 k1 => by rw [li.2.1 k k0 k1]; exact li.1 k k0 k1
  refine vL_law_1213 hL hxs ⟨by omega, by omega, by omega, ?_⟩
  refine a_put li.1 (hxs _) (hxs _) (hxs _) (fun c => ?_) (fun c => ?_) (fun c q => ?_) (fun c q p => ?_)
  · generalize hk : xs (x3 + 1) = k at *
    have hk4 : k = 0 ∨ k = 1 ∨ k = 2 ∨ k = 3 := by have := c.1; omega
    generalize hI1 : ax_st I 76 (k * 12 + xs (x3 + 2)) (xs (x3 + 3)) = I1
    have w1 : ∀ x, x ≠ 76 → I1 x = I x := fun x h1 => by rw [← hI1, st_cell h1]
    have e116 : I1 116 = I 116 := w1 116 (by decide)
    have ep : plcL I1 116 k (xs (x3 + 2)) := ⟨c.1, c.2.1, by rw [e116, li.2.1 k c.1.1 c.1.2]; exact c.2.2⟩
    refine z_put (fun j j0 j1 => by rw [e116]; exact hz j j0 j1) (by rw [← hk]; exact hxs _) (hxs _) (hxs _) (fun _ => ?_) (fun c2 => absurd c.1 c2) (fun _ q2 => absurd q2 (by have := ep.2; omega)) (fun _ _ p2 => absurd ep p2)
    generalize hI2 : ax_st I1 (118 + k.toNat) (xs (x3 + 2)) (xs (x3 + 3)) = I2
    have w2 : ∀ x, x ≠ 118 + k.toNat → I2 x = I1 x := fun x h1 => by rw [← hI2, st_cell h1]
    have f : Mf [75, 76, 116, 118, 119, 120, 121] I I2 := fun x hx2 => by
      simp only [List.mem_cons, List.not_mem_nil, or_false, not_or] at hx2
      rw [w2 x (by omega), w1 x hx2.2.1]
    have e75 : I2 75 = I 75 := by rw [w2 75 (by omega), w1 75 (by decide)]
    have e116' : I2 116 = I 116 := by rw [w2 116 (by omega), e116]
    refine fI rfl (by decide) (K I2 (hJ.upL f (fun b hb => hb) ⟨fun j j0 j1 => by rw [e75]; exact li.1 j j0 j1, fun j j0 j1 => by rw [e75, e116']; exact li.2.1 j j0 j1, fun j i hp => ?_⟩))
    have h75 := hp.2.2
    rw [e75] at h75
    have ej := hp.1
    have hb := li.1 j ej.1 ej.2
    have hbk := li.1 k c.1.1 c.1.2
    have cb := c.2
    have h3 := li.2.2 j i ⟨ej, hp.2.1, h75⟩
    rw [w2 76 (by omega), ← hI1, st_at, ← hI2]
    by_cases e : j = k
    · rw [e, st_at, w1 _ (by omega)]
      by_cases e2 : i = xs (x3 + 2)
      · rw [if_pos e2, if_pos (by omega)]
      · rw [if_neg e2, if_neg (by omega), ← e]; exact h3
    · have hi := hp.2.1
      rw [st_cell (by omega), w1 _ (by omega), if_neg (by omega)]
      exact h3
  · exact z_put hz (hxs _) (hxs _) (hxs _) (fun p => absurd p.1 c) (fun _ => fI rfl (by decide) same) (fun c2 => absurd c2 c) (fun c2 => absurd c2 c)
  · exact z_put hz (hxs _) (hxs _) (hxs _) (fun p => absurd p.2 (by rw [li.2.1 _ c.1 c.2]; omega)) (fun c2 => absurd c c2) (fun _ _ => fI rfl (by decide) same) (fun _ q2 => absurd q2 (by rw [li.2.1 _ c.1 c.2]; omega))
  · exact z_put hz (hxs _) (hxs _) (hxs _) (fun p2 => absurd ⟨p2.1, p2.2.1, by rw [← li.2.1 _ c.1 c.2]; exact p2.2.2⟩ p) (fun c2 => absurd c c2) (fun _ q2 => absurd q2 (by rw [li.2.1 _ c.1 c.2]; omega)) (fun _ _ _ => fI rfl (by decide) same)
theorem e_image {d L : Nat} {xs : Int → Int} {I : ax_H} {n x3 : Int} (hL : L ≤ 3584) (hxs : ∀ n, ax_R (xs n)) (hx : 0 ≤ x3 ∧ x3 + 7 ≤ L) (hJ : JJ n I) (K : ∀ I', JJ (n + 1) I' → RLs d L xs 1339 x3 I') : RLs d L xs 1290 x3 I := by
  have hT := hJ.T
  obtain ⟨k4, pa, hv, s, pl, b, wr, li, im⟩ := hJ
  have sb := s.2.1.1
  have pb := pl.2.1.1
  refine vL_law_1290 hL hxs ?_
  refine a_image (fun I1 f1 t1 k1 s1 l1 p1 q1 => ?_)
  refine z_image (fun I2 f2 t2 u2 k2 => ?_)
  have f : Mf [0, 79, 80, 81, 82, 83, 84, 85, 87] I I2 := (f1.mono (by decide)).trans (f2.mono (by decide))
  have e86 : I2 86 = I 86 := f 86 (by decide)
  have e86' : I1 86 = I 86 := f1 86 (by decide)
  have e85 : ∀ k, k ≠ 2 → I2 85 k = I 85 k := fun k hk => by rw [u2 k hk, f1 85 (by decide)]
  have w : ∀ x, x ≠ 85 → x ≠ 87 → I2 x = I1 x := fun x h1 h2 => f2 x (by simp [h1, h2])
  have e87 : ∀ k, 0 ≤ k → k < 48 → I2 87 k = I 86 k := fun k k0 k1' => by rw [k2 k k0 k1', e86']
  refine fI (by rw [e86', s.1]) ⟨by omega, by omega⟩ (K I2 ⟨by rw [e86]; exact k4.mf f (by decide), pa.mf f (by decide), by rw [f 1 (by decide)]; omega, s.cg (f 63 (by decide)) (f 64 (by decide)) (fun k _ _ => by rw [e86]), pl.cg (f 67 (by decide)) (f 68 (by decide)) (f 69 (by decide)) (fun k _ _ => by rw [e86]), b.cg (f 70 (by decide)) (f 71 (by decide)) (f 113 (by decide)) (e85 23 (by decide)), wr.cg (f 72 (by decide)) (f 73 (by decide)) (f 115 (by decide)) (e85 27 (by decide)), li.cg (f 75 (by decide)) (f 76 (by decide)) (f 116 (by decide)) (f 118 (by decide)) (f 119 (by decide)) (f 120 (by decide)) (f 121 (by decide)), Or.inr ⟨⟨by rw [w 0 (by decide) (by decide), t1], t2⟩, fun k k0 k1' => ?_, ⟨?_, ?_, fun k k0 k1' => ?_⟩, ⟨?_, ⟨?_, fun k k0 k1' => ?_⟩, fun k k0 k1' => ?_⟩⟩⟩)
  · rw [w 79 (by decide) (by decide), k1 k k0 k1', e87 k k0 (by omega)]
    exact hT k k0 k1'
  · rw [w 80 (by decide) (by decide), s1, e87 18 (by omega) (by omega), s.1]
  · rw [w 80 (by decide) (by decide), w 81 (by decide) (by decide), s1]
    exact okS_congr s.2.1 (fun k k0 k1' => l1 k k0 (by omega))
  · rw [w 80 (by decide) (by decide), s1] at k1'
    rw [w 81 (by decide) (by decide), l1 k k0 (by omega), e87 (19 + k) (by omega) (by omega)]
    exact s.2.2 k k0 k1'
  · rw [w 82 (by decide) (by decide), p1, e87 31 (by omega) (by omega), pl.1]
  · rw [w 82 (by decide) (by decide), p1]; exact pb
  · rw [w 82 (by decide) (by decide), p1] at k1'
    rw [w 83 (by decide) (by decide), w 84 (by decide) (by decide), (q1 k k0 (by omega)).1, (q1 k k0 (by omega)).2]
    exact pl.2.1.2 k k0 k1'
  · rw [w 82 (by decide) (by decide), p1] at k1'
    rw [w 83 (by decide) (by decide), w 84 (by decide) (by decide), (q1 k k0 (by omega)).1, (q1 k k0 (by omega)).2, e87 (32 + k) (by omega) (by omega), e87 (40 + k) (by omega) (by omega)]
    exact pl.2.2 k k0 k1'
theorem e_undo {d L : Nat} {xs : Int → Int} {I : ax_H} {n x3 : Int} (hL : L ≤ 3584) (hxs : ∀ n, ax_R (xs n)) (hx : 0 ≤ x3 ∧ x3 + 7 ≤ L) (hn : n ≤ 1000) (hJ : JJ n I) (K : ∀ I', JJ (n + 1) I' → RLs d L xs 1339 x3 I') : RLs d L xs 1303 x3 I := by
  have same := K I (hJ.ch (Kc.rf I) hJ.1 hJ.2.1)
  obtain ⟨k4, pa, hv, s, pl, b, wr, li, im⟩ := hJ
  refine vL_law_1303 hL hxs ?_
  refine a_undo (by omega) (fun c => ?_) (fun I1 c f1 v1 u1 t1 s1 l1 p1 q1 => ?_)
  · have z2 : I 85 2 = 0 := im.elim (fun h => h.2) (fun h => absurd h.1.1 (by omega))
    exact z_undo (fun _ => fI rfl (by decide) same) (fun _ c2 => absurd z2 c2)
  · obtain ⟨⟨i0, i2⟩, iT, ⟨iS1, iS2, iS3⟩, ⟨iP1, iP2, iP3⟩⟩ := im.resolve_left (fun h => c h.1)
    have sb := iS2.1
    have pb := iP2.1
    have e85 : I1 85 = I 85 := f1 85 (by decide)
    have e87 : I1 87 = I 87 := f1 87 (by decide)
    refine z_undo (fun c2 => absurd c2 (by rw [e85]; omega)) (fun I2 _ f2 k2 => ?_)
    rw [e87] at k2 ⊢
    have f : Mf [1, 3, 63, 64, 67, 68, 69, 86] I I2 := (f1.mono (by decide)).trans (f2.mono (by decide))
    have w : ∀ x, x ≠ 86 → I2 x = I1 x := fun x h1 => f2 x (by simp [h1])
    have e85' : I2 85 = I 85 := f 85 (by decide)
    have hT2 : tabs I2 3 (I2 86) := fun k k0 k1' => by
      rw [w 3 (by decide), t1 k k0 k1', k2 k k0 (by omega)]
      exact iT k k0 k1'
    refine fI iS1 ⟨by omega, by omega⟩ (K I2 ⟨k4.new hT2 (by rw [w 1 (by decide), v1]) (by rw [w 1 (by decide), u1 2 (by decide)]) (by rw [w 1 (by decide), u1 3 (by decide)]) (by rw [f 10 (by decide)]), pa.mf f (by decide), by rw [w 1 (by decide), v1]; omega, ⟨?_, ?_, fun k k0 k1' => ?_⟩, ⟨?_, ⟨?_, fun k k0 k1' => ?_⟩, fun k k0 k1' => ?_⟩, b.cg (f 70 (by decide)) (f 71 (by decide)) (f 113 (by decide)) (by rw [e85']), wr.cg (f 72 (by decide)) (f 73 (by decide)) (f 115 (by decide)) (by rw [e85']), li.cg (f 75 (by decide)) (f 76 (by decide)) (f 116 (by decide)) (f 118 (by decide)) (f 119 (by decide)) (f 120 (by decide)) (f 121 (by decide)), im.cg (f 0 (by decide)) (f 79 (by decide)) (f 80 (by decide)) (f 81 (by decide)) (f 82 (by decide)) (f 83 (by decide)) (f 84 (by decide)) (f 87 (by decide)) (by rw [e85'])⟩)
    · rw [w 63 (by decide), s1, k2 18 (by omega) (by omega), iS1]
    · rw [w 63 (by decide), w 64 (by decide), s1]
      exact okS_congr iS2 (fun k k0 k1' => l1 k k0 (by omega))
    · rw [w 63 (by decide), s1] at k1'
      rw [w 64 (by decide), l1 k k0 (by omega), k2 (19 + k) (by omega) (by omega)]
      exact iS3 k k0 k1'
    · rw [w 67 (by decide), p1, k2 31 (by omega) (by omega), iP1]
    · rw [w 67 (by decide), p1]; exact pb
    · rw [w 67 (by decide), p1] at k1'
      rw [w 68 (by decide), w 69 (by decide), (q1 k k0 (by omega)).1, (q1 k k0 (by omega)).2]
      exact iP2.2 k k0 k1'
    · rw [w 67 (by decide), p1] at k1'
      rw [w 68 (by decide), w 69 (by decide), (q1 k k0 (by omega)).1, (q1 k k0 (by omega)).2, k2 (32 + k) (by omega) (by omega), k2 (40 + k) (by omega) (by omega)]
      exact iP3 k k0 k1'
