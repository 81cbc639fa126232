/-! the law's cases, second half: calls that change what is told -/
theorem jS_of2 {I1 I2 : ax_H} (o1 : okS (I1 64) (I1 63 1)) (o2 : okS (rp I2) (I2 86 18)) (hm : ∀ x, mem (I1 64) (I1 63 1) x ↔ mem (rp I2) (I2 86 18) x) (e63 : I2 63 = I1 63) (e64 : I2 64 = I1 64) : jS I2 := by
  have u := set_uniq o1.1.1 o2.1.1 o1.2.1 o2.2.1 hm
  unfold jS
  rw [e63, e64]
  exact ⟨u.1, o1, u.2⟩
/-- JJ where the set's cells have changed -/
theorem JJ.upS {n : Int} {l : List Nat} {I I' : ax_H} (h : JJ n I) (f : Mf l I I') (hl : ∀ b ∈ [0, 67, 68, 69, 70, 71, 72, 73, 75, 76, 79, 80, 81, 82, 83, 84, 85, 87, 113, 115, 116, 118, 119, 120, 121], b ∉ l) (hv : I' 1 1 = I 1 1) (e86 : ∀ k, (k < 18 ∨ 31 ≤ k) → I' 86 k = I 86 k) (s : jS I') (k4 : K4 (I 86) I') (p : PA I') : JJ (n + 1) I' := by
  obtain ⟨_, _, v, _, pl, b, w, li, im⟩ := h
  have e : ∀ b ∈ [0, 67, 68, 69, 70, 71, 72, 73, 75, 76, 79, 80, 81, 82, 83, 84, 85, 87, 113, 115, 116, 118, 119, 120, 121], I' b = I b := fun b hb => f b (hl b hb)
  have e85 := e 85 (by decide)
  exact ⟨k4.agr (fun k k0 k1 => e86 k (by omega)), p, by omega, s, pl.cg (e 67 (by decide)) (e 68 (by decide)) (e 69 (by decide)) (fun k k0 k1 => e86 k (by omega)), b.cg (e 70 (by decide)) (e 71 (by decide)) (e 113 (by decide)) (by rw [e85]), w.cg (e 72 (by decide)) (e 73 (by decide)) (e 115 (by decide)) (by rw [e85]), li.cg (e 75 (by decide)) (e 76 (by decide)) (e 116 (by decide)) (e 118 (by decide)) (e 119 (by decide)) (e 120 (by decide)) (e 121 (by decide)), im.cg (e 0 (by decide)) (e 79 (by decide)) (e 80 (by decide)) (e 81 (by decide)) (e 82 (by decide)) (e 83 (by decide)) (e 84 (by decide)) (e 87 (by decide)) (by rw [e85])⟩
theorem Sf.m {I I' : ax_H} (h : Sf 63 I I') : Mf [63, 64, 86] I I' := fun b hb => by
  simp only [List.mem_cons, List.not_mem_nil, or_false, not_or] at hb
  exact h.1 b hb.1 hb.2.1
theorem Tf.m {I I' : ax_H} (h : Tf I I') : Mf [63, 64, 86] I I' := fun b hb => by
  simp only [List.mem_cons, List.not_mem_nil, or_false, not_or] at hb
  exact h.1 b hb.2.2
theorem e_tell {d L : Nat} {xs : Int → Int} {I : ax_H} {n x3 : Int} (hL : L ≤ 3584) (hxs : ∀ n, ax_R (xs n)) (hx : 0 ≤ x3 ∧ x3 + 7 ≤ L) (hJ : JJ n I) (K : ∀ I', JJ (n + 1) I' → RLs d L xs 1339 x3 I') : RLs d L xs 747 x3 I := by
  have s := hJ.2.2.2.1
  have sb := s.2.1.1
  have same := K I (hJ.ch (Kc.rf I) hJ.1 hJ.2.1)
  refine vL_law_747 hL hxs ⟨by omega, by omega, ?_⟩
  refine a_tell (hxs _) (hxs _) s.2.1 (fun c => ?_) (fun c m => ?_) (fun c m q => ?_) (fun I1 c m q f1 n1' o1 m1 => ?_)
  · exact z_tell (hxs _) (hxs _) s.ref (fun _ => fI rfl (by decide) same) (fun c2 => absurd c2 c) (fun c2 => absurd c2 c) (fun _ c2 => absurd c2 c)
  · exact z_tell (hxs _) (hxs _) s.ref (fun c2 => absurd c c2) (fun _ _ => fI rfl (by decide) same) (fun _ m2 => absurd ((s.mem _).2 m) m2) (fun _ _ m2 => absurd ((s.mem _).2 m) m2)
  · exact z_tell (hxs _) (hxs _) s.ref (fun c2 => absurd c c2) (fun _ m2 => absurd ((s.mem _).1 m2) m) (fun _ _ _ => fI rfl (by decide) same) (fun _ _ _ q2 => absurd q2 (by rw [← s.1]; omega))
  · have e86 : I1 86 = I 86 := f1.1 86 (by decide) (by decide)
    have er : rp I1 = rp I := by funext k; unfold rp; rw [e86]
    refine z_tell (hxs _) (hxs _) (by rw [er, e86]; exact s.ref) (fun c2 => absurd c c2) (fun _ m2 => absurd ((s.mem _).1 (by rw [er, e86] at m2; exact m2)) m) (fun _ _ q2 => absurd q2 (by rw [e86, ← s.1]; omega)) (fun I2 _ _ _ f2 n2 o2 m2 => ?_)
    have w : ∀ b, b ≠ 86 → I2 b = I1 b := f2.1
    refine fI (by rw [e86, s.1]) ⟨by omega, by omega⟩ (K I2 (hJ.upS (f1.m.trans f2.m) (by decide) (by rw [w 1 (by decide), f1.1 1 (by decide) (by decide)]) (fun k hk => by rw [f2.2 k hk, e86]) (jS_of2 o1 o2 (fun x => ?_) (w 63 (by decide)) (w 64 (by decide))) (hJ.1.mf (f1.m.trans f2.m) (by decide)) (hJ.2.1.mf (f1.m.trans f2.m) (by decide))))
    rw [m1 x, m2 x, er, e86, s.mem]
theorem e_forget {d L : Nat} {xs : Int → Int} {I : ax_H} {n x3 : Int} (hL : L ≤ 3584) (hxs : ∀ n, ax_R (xs n)) (hx : 0 ≤ x3 ∧ x3 + 7 ≤ L) (hJ : JJ n I) (K : ∀ I', JJ (n + 1) I' → RLs d L xs 1339 x3 I') : RLs d L xs 780 x3 I := by
  have s := hJ.2.2.2.1
  have sb := s.2.1.1
  have same := K I (hJ.ch (Kc.rf I) hJ.1 hJ.2.1)
  refine vL_law_780 hL hxs ⟨by omega, by omega, ?_⟩
  refine a_forget (hxs _) (hxs _) s.2.1 (fun c => ?_) (fun c m => ?_) (fun I1 c m f1 n1' o1 m1 => ?_)
  · exact z_forget (hxs _) (hxs _) s.ref (fun _ => fI rfl (by decide) same) (fun c2 => absurd c2 c) (fun _ c2 => absurd c2 c)
  · exact z_forget (hxs _) (hxs _) s.ref (fun c2 => absurd c c2) (fun _ _ => fI rfl (by decide) same) (fun _ _ m2 => absurd ((s.mem _).1 m2) m)
  · have e86 : I1 86 = I 86 := f1.1 86 (by decide) (by decide)
    have er : rp I1 = rp I := by funext k; unfold rp; rw [e86]
    refine z_forget (hxs _) (hxs _) (by rw [er, e86]; exact s.ref) (fun c2 => absurd c c2) (fun _ m2 => absurd (by rw [er, e86]; exact (s.mem _).2 m) m2) (fun I2 _ _ f2 n2 o2 m2 => ?_)
    have w : ∀ b, b ≠ 86 → I2 b = I1 b := f2.1
    refine fI (by rw [e86, s.1]) ⟨by omega, by omega⟩ (K I2 (hJ.upS (f1.m.trans f2.m) (by decide) (by rw [w 1 (by decide), f1.1 1 (by decide) (by decide)]) (fun k hk => by rw [f2.2 k hk, e86]) (jS_of2 o1 o2 (fun x => ?_) (w 63 (by decide)) (w 64 (by decide))) (hJ.1.mf (f1.m.trans f2.m) (by decide)) (hJ.2.1.mf (f1.m.trans f2.m) (by decide))))
    rw [m1 x, m2 x, er, e86, s.mem]
theorem e_move {d L : Nat} {xs : Int → Int} {I : ax_H} {n x3 : Int} (hL : L ≤ 3584) (hxs : ∀ n, ax_R (xs n)) (hx : 0 ≤ x3 ∧ x3 + 7 ≤ L) (hJ : JJ n I) (K : ∀ I', JJ (n + 1) I' → RLs d L xs 1339 x3 I') : RLs d L xs 859 x3 I := by
  have s := hJ.2.2.2.1
  refine vL_law_859 hL hxs ?_
  refine a_move hJ.1.1 s.2.1 (fun I1 f u r o m => ?_)
  have e86 : I1 86 = I 86 := f 86 (by decide)
  have er : rp I1 = rp I := by funext k; unfold rp; rw [e86]
  refine z_move (p := I1 64) (n := I1 63 1) (by rw [e86]; exact hJ.gd) (by rw [er, e86]; exact s.ref) o (fun t => ?_) (fun I2 f2 g2 s2 r2 => ?_)
  · rw [m t, er, e86, ← s.1]
    exact (mvd_congr (fun k k0 k1 => (s.2.2 k k0 k1).symm)).symm
  · have ob := o.1
    have w : ∀ b, b ≠ 86 → b ≠ 112 → I2 b = I1 b := fun b h1 h2 => f2 b (by simp [h1, h2])
    have f3 : Mf [1, 4, 7, 63, 64, 65, 66, 86, 112] I I2 := (f.mono (by decide)).trans (f2.mono (by decide))
    refine fI rfl ⟨by omega, by omega⟩ (K I2 (hJ.upS f3 (by decide) (by rw [w 1 (by decide) (by decide), u 1 (by decide)]) (fun k hk => by rw [g2 k hk, e86]) ⟨?_, ?_, fun k k0 k1 => ?_⟩ ((hJ.1.rl f u r (by decide) (by decide) (by decide) (by decide) (by decide) (by decide)).mf f2 (by decide)) (hJ.2.1.mf f3 (by decide))))
    · rw [w 63 (by decide) (by decide), s2]
    · rw [w 63 (by decide) (by decide), w 64 (by decide) (by decide)]; exact o
    · rw [w 63 (by decide) (by decide)] at k1
      rw [w 64 (by decide) (by decide)]
      exact (r2 k k0 k1).symm
theorem e_feed {d L : Nat} {xs : Int → Int} {I : ax_H} {n x3 : Int} (hL : L ≤ 3584) (hxs : ∀ n, ax_R (xs n)) (hx : 0 ≤ x3 ∧ x3 + 7 ≤ L) (hJ : JJ n I) (K : ∀ I', JJ (n + 1) I' → RLs d L xs 1339 x3 I') : RLs d L xs 284 x3 I := by
  have b := hJ.2.2.2.2.2.1
  have bb := b.2.1.1
  have same := K I (hJ.ch (Kc.rf I) hJ.1 hJ.2.1)
  have bz : 0 ≤ I 85 23 ∧ I 85 23 ≤ 60 := by rw [← b.1]; exact bb
  refine vL_law_284 hL hxs ⟨by omega, ?_⟩
  refine a_feed (hxs _) bb (fun c => ?_) (fun c q => ?_) (fun c q => ?_)
  · exact z_feed (hxs _) bz (fun _ => fI rfl (by decide) same) (fun c2 => absurd c2 c) (fun c2 => absurd c2 c)
  · exact z_feed (hxs _) bz (fun c2 => absurd c c2) (fun _ _ => fI rfl (by decide) same) (fun _ q2 => absurd q2 (by rw [← b.1]; omega))
  · generalize hI1 : ax_st (ax_st I 71 (I 70 1) (xs (x3 + 1))) 70 1 (I 70 1 + 1) = I1
    have w1 : ∀ x, x ≠ 70 → x ≠ 71 → I1 x = I x := fun x h1 h2 => by rw [← hI1, st_cell h1, st_cell h2]
    have e85 : I1 85 = I 85 := w1 85 (by decide) (by decide)
    refine z_feed (hxs _) (by rw [e85]; exact bz) (fun c2 => absurd c c2) (fun _ q2 => absurd q2 (by rw [e85, ← b.1]; omega)) (fun _ _ => ?_)
    generalize hI2 : ax_st (ax_st I1 113 (I1 85 23) (xs (x3 + 1))) 85 23 (I1 85 23 + 1) = I2
    have w2 : ∀ x, x ≠ 85 → x ≠ 113 → I2 x = I1 x := fun x h1 h2 => by rw [← hI2, st_cell h1, st_cell h2]
    have w : ∀ x, x ≠ 70 → x ≠ 71 → x ≠ 85 → x ≠ 113 → I2 x = I x := fun x h1 h2 h3 h4 => by rw [w2 x h3 h4, w1 x h1 h2]
    have u : ∀ k, k ≠ 23 → I2 85 k = I 85 k := fun k hk => by rw [← hI2, st_ne (Or.inr hk), st_cell (by decide), e85]
    have e23 : I2 85 23 = I 85 23 + 1 := by rw [← hI2, st_same, e85]
    have e70 : I2 70 1 = I 70 1 + 1 := by rw [w2 70 (by decide) (by decide), ← hI1, st_same]
    have e71 : ∀ k, I2 71 k = if k = I 70 1 then xs (x3 + 1) else I 71 k := fun k => by rw [w2 71 (by decide) (by decide), ← hI1, st_cell (by decide), st_at]
    have e113 : ∀ k, I2 113 k = if k = I 70 1 then xs (x3 + 1) else I 113 k := fun k => by rw [← hI2, st_cell (by decide), st_at, e85, ← b.1, w1 113 (by decide) (by decide)]
    have f : Mf [70, 71, 85, 113] I I2 := fun x hx2 => by
      simp only [List.mem_cons, List.not_mem_nil, or_false, not_or] at hx2
      exact w x hx2.1 hx2.2.1 hx2.2.2.1 hx2.2.2.2
    obtain ⟨k4, pa, hv, s, pl, _, wr, li, im⟩ := hJ
    have e86 : I2 86 = I 86 := f 86 (by decide)
    refine fI (by rw [e85, b.1]) ⟨by omega, by omega⟩ (K I2 ⟨by rw [e86]; exact k4.mf f (by decide), pa.mf f (by decide), by rw [f 1 (by decide)]; omega, s.cg (f 63 (by decide)) (f 64 (by decide)) (fun k _ _ => by rw [e86]), pl.cg (f 67 (by decide)) (f 68 (by decide)) (f 69 (by decide)) (fun k _ _ => by rw [e86]), ⟨?_, ⟨?_, fun k k0 k1 => ?_⟩, fun k k0 k1 => ?_⟩, wr.cg (f 72 (by decide)) (f 73 (by decide)) (f 115 (by decide)) (u 27 (by decide)), li.cg (f 75 (by decide)) (f 76 (by decide)) (f 116 (by decide)) (f 118 (by decide)) (f 119 (by decide)) (f 120 (by decide)) (f 121 (by decide)), im.cg (f 0 (by decide)) (f 79 (by decide)) (f 80 (by decide)) (f 81 (by decide)) (f 82 (by decide)) (f 83 (by decide)) (f 84 (by decide)) (f 87 (by decide)) (u 2 (by decide))⟩)
    · rw [e70, e23, b.1]
    · rw [e70]; omega
    · rw [e70] at k1
      rw [e71 k]
      split
      · exact c
      · exact b.2.1.2 k k0 (by omega)
    · rw [e70] at k1
      rw [e71 k, e113 k]
      split
      · rfl
      · exact b.2.2 k k0 (by omega)
theorem byt_congr {p q : Int → Int} {n : Int} (h : ∀ k, 0 ≤ k → k < n → q k = p k) : byt q n = byt p n := by
  funext i
  unfold byt
  split
  · rename_i c; exact h i c.1 c.2
  · rfl
theorem e_table {d L : Nat} {xs : Int → Int} {I : ax_H} {n x3 : Int} (hL : L ≤ 3584) (hxs : ∀ n, ax_R (xs n)) (hx : 0 ≤ x3 ∧ x3 + 7 ≤ L) (hn : n ≤ 1000) (hJ : JJ n I) (K : ∀ I', JJ (n + 1) I' → RLs d L xs 1339 x3 I') : RLs d L xs 307 x3 I := by
  have same := K I (hJ.ch (Kc.rf I) hJ.1 hJ.2.1)
  have hT := hJ.T
  obtain ⟨k4, pa, hv, s, pl, b, wr, li, im⟩ := hJ
  have bb := b.2.1.1
  have okz : okT (I 113) (I 85 23) := by
    rw [← b.1]
    exact ⟨bb, fun k k0 k1 => by rw [b.2.2 k k0 k1]; exact b.2.1.2 k k0 k1⟩
  have et : tld (I 113) (I 85 23) = tld (I 71) (I 70 1) := by
    unfold tld
    rw [← b.1, byt_congr b.2.2]
  have tR := tld_R b.2.1
  refine vL_law_307 hL hxs ⟨by omega, ?_⟩
  refine a_table (hxs _) b.2.1 (by omega) (fun c => ?_) (fun I1 c t f1 z1 => ?_) (fun I1 c t f1 z1 v1 u1 t1 o1 => ?_)
  · exact z_table (hxs _) okz (fun _ => fI rfl (by decide) same) (fun _ c2 => absurd c2 c) (fun _ c2 => absurd c2 c)
  · have e85 : I1 85 = I 85 := f1 85 (by decide)
    have e113 : I1 113 = I 113 := f1 113 (by decide)
    refine z_table (hxs _) (by rw [e85, e113]; exact okz) (fun c2 => absurd c c2) (fun I2 _ _ f2 z2 u2 => ?_) (fun I2 _ t2 => absurd t2 (by rw [e85, e113, et]; omega))
    have f : Mf [70, 77, 85, 114] I I2 := (f1.mono (by decide)).trans (f2.mono (by decide))
    have e86 : I2 86 = I 86 := f 86 (by decide)
    have w85 : ∀ k, k ≠ 23 → k ≠ 24 → I2 85 k = I 85 k := fun k h1 h2 => by rw [u2 k h1 h2, e85]
    have e70 : I2 70 = I1 70 := f2 70 (by decide)
    refine fI (by rw [e85, e113, et]) tR (K I2 ⟨by rw [e86]; exact k4.mf f (by decide), pa.mf f (by decide), by rw [f 1 (by decide)]; omega, s.cg (f 63 (by decide)) (f 64 (by decide)) (fun k _ _ => by rw [e86]), pl.cg (f 67 (by decide)) (f 68 (by decide)) (f 69 (by decide)) (fun k _ _ => by rw [e86]), ⟨by rw [e70, z1, z2], ⟨by rw [e70, z1]; omega, fun k k0 k1 => ?_⟩, fun k k0 k1 => ?_⟩, wr.cg (f 72 (by decide)) (f 73 (by decide)) (f 115 (by decide)) (w85 27 (by decide) (by decide)), li.cg (f 75 (by decide)) (f 76 (by decide)) (f 116 (by decide)) (f 118 (by decide)) (f 119 (by decide)) (f 120 (by decide)) (f 121 (by decide)), im.cg (f 0 (by decide)) (f 79 (by decide)) (f 80 (by decide)) (f 81 (by decide)) (f 82 (by decide)) (f 83 (by decide)) (f 84 (by decide)) (f 87 (by decide)) (w85 2 (by decide) (by decide))⟩)
    · rw [e70, z1] at k1; omega
    · rw [e70, z1] at k1; omega
  · have e85 : I1 85 = I 85 := f1 85 (by decide)
    have e113 : I1 113 = I 113 := f1 113 (by decide)
    have e86' : I1 86 = I 86 := f1 86 (by decide)
    refine z_table (hxs _) (by rw [e85, e113]; exact okz) (fun c2 => absurd c c2) (fun I2 _ t2 => absurd t2 (by rw [e85, e113, et]; omega)) (fun I2 _ _ f2 z2 u2 t2 o2 => ?_)
    rw [e85, e113, et] at t2
    have f : Mf [1, 3, 70, 77, 85, 86, 114] I I2 := (f1.mono (by decide)).trans (f2.mono (by decide))
    have w85 : ∀ k, k ≠ 23 → k ≠ 24 → I2 85 k = I 85 k := fun k h1 h2 => by rw [u2 k h1 h2, e85]
    have w86 : ∀ k, 18 ≤ k → I2 86 k = I 86 k := fun k hk => by rw [o2 k (by omega), e86']
    have e70 : I2 70 = I1 70 := f2 70 (by decide)
    have e1 : I2 1 = I1 1 := f2 1 (by decide)
    have e3 : I2 3 = I1 3 := f2 3 (by decide)
    have nS := pt_nm (bt := byt (I 71) (I 70 1)) (n := I 70 1) 60 0 1 (fun _ => 0) (fun _ => ⟨by decide, by decide⟩)
    have hT2 : tabs I2 3 (I2 86) := fun k k0 k1 => by
      rw [e3]
      by_cases q : k < 9 * xs (x3 + 1) ∨ 9 * xs (x3 + 1) + 9 ≤ k
      · rw [o1 k q, o2 k q, e86']; exact hT k k0 k1
      · have h1 := t1 (k - 9 * xs (x3 + 1)) (by omega) (by omega)
        have h2 := t2 (k - 9 * xs (x3 + 1)) (by omega) (by omega)
        rw [show 9 * xs (x3 + 1) + (k - 9 * xs (x3 + 1)) = k by omega] at h1 h2
        rw [h1, h2]
        exact ⟨rfl, nS _⟩
    refine fI (by rw [e85, e113, et]) tR (K I2 ⟨k4.new hT2 (by rw [e1, v1]) (by rw [e1, u1 2 (by decide)]) (by rw [e1, u1 3 (by decide)]) (by rw [f 10 (by decide)]), pa.mf f (by decide), by rw [e1, v1]; omega, s.cg (f 63 (by decide)) (f 64 (by decide)) (fun k k0 _ => w86 k k0), pl.cg (f 67 (by decide)) (f 68 (by decide)) (f 69 (by decide)) (fun k k0 _ => w86 k (by omega)), ⟨by rw [e70, z1, z2], ⟨by rw [e70, z1]; omega, fun k k0 k1 => ?_⟩, fun k k0 k1 => ?_⟩, wr.cg (f 72 (by decide)) (f 73 (by decide)) (f 115 (by decide)) (w85 27 (by decide) (by decide)), li.cg (f 75 (by decide)) (f 76 (by decide)) (f 116 (by decide)) (f 118 (by decide)) (f 119 (by decide)) (f 120 (by decide)) (f 121 (by decide)), im.cg (f 0 (by decide)) (f 79 (by decide)) (f 80 (by decide)) (f 81 (by decide)) (f 82 (by decide)) (f 83 (by decide)) (f 84 (by decide)) (f 87 (by decide)) (w85 2 (by decide) (by decide))⟩)
    · rw [e70, z1] at k1; omega
    · rw [e70, z1] at k1; omega
theorem e_set {d L : Nat} {xs : Int → Int} {I : ax_H} {n x3 : Int} (hL : L ≤ 3584) (hxs : ∀ n, ax_R (xs n)) (hx : 0 ≤ x3 ∧ x3 + 7 ≤ L) (hn : n ≤ 1000) (hJ : JJ n I) (K : ∀ I', JJ (n + 1) I' → RLs d L xs 1339 x3 I') : RLs d L xs 188 x3 I := by
  have same := K I (hJ.ch (Kc.rf I) hJ.1 hJ.2.1)
  have hT := hJ.T
  obtain ⟨k4, pa, hv, s, pl, b, wr, li, im⟩ := hJ
  refine vL_law_188 hL hxs ⟨by omega, by omega, by omega, by omega, ?_⟩
  refine a_set hT (by omega) (hxs _) (hxs _) (hxs _) (hxs _) (fun c => ?_) (fun c q => ?_) (fun c q => ?_)
  · exact z_set (hxs _) (hxs _) (hxs _) (hxs _) (fun _ => fI rfl (by decide) same) (fun c2 => absurd c2 c) (fun c2 => absurd c2 c)
  · exact z_set (hxs _) (hxs _) (hxs _) (hxs _) (fun c2 => absurd c c2) (fun _ _ => fI rfl (by decide) same) (fun _ q2 => absurd q2 q)
  · refine z_set (hxs _) (hxs _) (hxs _) (hxs _) (fun c2 => absurd c c2) (fun _ q2 => absurd q q2) (fun _ _ => ?_)
    obtain ⟨c1, c2, c3⟩ := c
    generalize hat : 9 * xs (x3 + 1) + 3 * xs (x3 + 2) + xs (x3 + 3) = at'
    have ha : 0 ≤ at' ∧ at' < 18 := by omega
    generalize hI1 : ax_st (ax_st I 3 at' (xs (x3 + 4))) 1 1 (I 1 1 + 1) = I1
    have w1 : ∀ x, x ≠ 1 → x ≠ 3 → I1 x = I x := fun x h1 h2 => by rw [← hI1, st_cell h1, st_cell h2]
    generalize hI2 : ax_st I1 86 at' (xs (x3 + 4)) = I2
    have f : Mf [1, 3, 86] I I2 := fun x hx2 => by
      simp only [List.mem_cons, List.not_mem_nil, or_false, not_or] at hx2
      rw [← hI2, st_cell hx2.2.2, w1 x hx2.1 hx2.2.1]
    have e1 : ∀ k, I2 1 k = if k = 1 then I 1 1 + 1 else I 1 k := fun k => by rw [← hI2, st_cell (by decide), ← hI1, st_at, st_cell (by decide)]
    have e3 : ∀ k, I2 3 k = if k = at' then xs (x3 + 4) else I 3 k := fun k => by rw [← hI2, st_cell (by decide), ← hI1, st_cell (by decide), st_at]
    have e86 : ∀ k, I2 86 k = if k = at' then xs (x3 + 4) else I 86 k := fun k => by rw [← hI2, st_at, w1 86 (by decide) (by decide)]
    have w86 : ∀ k, 18 ≤ k → I2 86 k = I 86 k := fun k hk => by rw [e86 k, if_neg (by omega)]
    have hT2 : tabs I2 3 (I2 86) := fun k k0 k1 => by
      rw [e3 k, e86 k]
      split
      · exact ⟨rfl, q⟩
      · exact hT k k0 k1
    have e85 : I2 85 = I 85 := f 85 (by decide)
    refine fI (by rw [w1 86 (by decide) (by decide)]) (nm_R (hT at' ha.1 ha.2).2) (K I2 ⟨k4.new hT2 (by rw [e1]; rfl) (by rw [e1]; rfl) (by rw [e1]; rfl) (by rw [f 10 (by decide)]), pa.mf f (by decide), by rw [e1, if_pos rfl]; omega, s.cg (f 63 (by decide)) (f 64 (by decide)) (fun k k0 _ => w86 k k0), pl.cg (f 67 (by decide)) (f 68 (by decide)) (f 69 (by decide)) (fun k k0 _ => w86 k (by omega)), b.cg (f 70 (by decide)) (f 71 (by decide)) (f 113 (by decide)) (by rw [e85]), wr.cg (f 72 (by decide)) (f 73 (by decide)) (f 115 (by decide)) (by rw [e85]), li.cg (f 75 (by decide)) (f 76 (by decide)) (f 116 (by decide)) (f 118 (by decide)) (f 119 (by decide)) (f 120 (by decide)) (f 121 (by decide)), im.cg (f 0 (by decide)) (f 79 (by decide)) (f 80 (by decide)) (f 81 (by decide)) (f 82 (by decide)) (f 83 (by decide)) (f 84 (by decide)) (f 87 (by decide)) (by rw [e85])⟩)
theorem e_plan {d L : Nat} {xs : Int → Int} {I : ax_H} {n x3 : Int} (hL : L ≤ 3584) (hxs : ∀ n, ax_R (xs n)) (hx : 0 ≤ x3 ∧ x3 + 7 ≤ L) (hJ : JJ n I) (K : ∀ I', JJ (n + 1) I' → RLs d L xs 1339 x3 I') : RLs d L xs 1025 x3 I := by
  have same := K I (hJ.ch (Kc.rf I) hJ.1 hJ.2.1)
  obtain ⟨k4, pa, hv, s, pl, b, wr, li, im⟩ := hJ
  have pb := pl.2.1.1
  have pz : 0 ≤ I 86 31 ∧ I 86 31 ≤ 8 := by rw [← pl.1]; exact pb
  have up : ∀ I2 : ax_H, Mf [67, 68, 69, 86] I I2 → (∀ k, k < 31 → I2 86 k = I 86 k) → jP I2 → JJ (n + 1) I2 := fun I2 f u p => by
    have e85 : I2 85 = I 85 := f 85 (by decide)
    exact ⟨(k4.mf f (by decide)).agr (fun k k0 k1 => u k (by omega)), pa.mf f (by decide), by rw [f 1 (by decide)]; omega, s.cg (f 63 (by decide)) (f 64 (by decide)) (fun k _ k1 => u k k1), p, b.cg (f 70 (by decide)) (f 71 (by decide)) (f 113 (by decide)) (by rw [e85]), wr.cg (f 72 (by decide)) (f 73 (by decide)) (f 115 (by decide)) (by rw [e85]), li.cg (f 75 (by decide)) (f 76 (by decide)) (f 116 (by decide)) (f 118 (by decide)) (f 119 (by decide)) (f 120 (by decide)) (f 121 (by decide)), im.cg (f 0 (by decide)) (f 79 (by decide)) (f 80 (by decide)) (f 81 (by decide)) (f 82 (by decide)) (f 83 (by decide)) (f 84 (by decide)) (f 87 (by decide)) (by rw [e85])⟩
  have no : ∀ w v, tks w v → 0 ≤ w ∧ w ≤ 3 := fun w v h => by unfold tks at h; omega
  refine vL_law_1025 hL hxs ⟨by omega, by omega, ?_⟩
  refine a_plan pb (hxs _) (hxs _) (fun c => ?_) (fun c q => ?_) (fun c q => ?_) (fun c q => ?_) (fun I1 c q f1 n1' w1 v1 => ?_)
  · generalize hI1 : ax_st I 67 2 0 = I1
    have w : ∀ x, x ≠ 67 → I1 x = I x := fun x h1 => by rw [← hI1, st_cell h1]
    have e86 : I1 86 = I 86 := w 86 (by decide)
    refine z_plan (by rw [e86]; exact pz) (hxs _) (hxs _) (fun I2 _ f2 u2 z2 => ?_) (fun c2 => absurd c c2) (fun c2 => absurd c2.1 (by omega)) (fun c2 => absurd (no _ _ c2).1 (by omega)) (fun I2 c2 => absurd (no _ _ c2).1 (by omega))
    have e67 : I2 67 2 = 0 := by rw [f2 67 (by decide), ← hI1, st_same]
    refine fI rfl (by decide) (K I2 (up I2 (fun x hx2 => ?_) (fun k hk => by rw [u2 k hk, e86]) ⟨by rw [e67, z2], ⟨by rw [e67]; omega, fun k k0 k1 => ?_⟩, fun k k0 k1 => ?_⟩))
    · simp only [List.mem_cons, List.not_mem_nil, or_false, not_or] at hx2
      rw [f2 x hx2.2.2.2, w x hx2.1]
    · rw [e67] at k1; omega
    · rw [e67] at k1; omega
  · exact z_plan pz (hxs _) (hxs _) (fun _ c2 => absurd c2 c) (fun _ _ => fI rfl (by decide) same) (fun c2 => absurd c2 q) (fun c2 => absurd (no _ _ c2) q) (fun _ c2 => absurd (no _ _ c2) q)
  · exact z_plan pz (hxs _) (hxs _) (fun _ c2 => absurd c.1 (by omega)) (fun _ c2 => absurd c c2) (fun _ _ => fI rfl (by decide) same) (fun c2 => absurd c2 q) (fun _ c2 => absurd c2 q)
  · exact z_plan pz (hxs _) (hxs _) (fun _ c2 => absurd (no _ _ c).1 (by omega)) (fun _ c2 => absurd (no _ _ c) c2) (fun _ c2 => absurd c c2) (fun _ _ => fI rfl (by decide) same) (fun _ _ q2 => absurd q2 (by rw [← pl.1]; omega))
  · have e86 : I1 86 = I 86 := f1.1 86 (by decide) (by decide) (by decide)
    refine z_plan (by rw [e86]; exact pz) (hxs _) (hxs _) (fun _ c2 => absurd (no _ _ c).1 (by omega)) (fun _ c2 => absurd (no _ _ c) c2) (fun _ c2 => absurd c c2) (fun _ q2 => absurd q2 (by rw [e86, ← pl.1]; omega)) (fun I2 _ _ f2 u2 z2 a2 b2 => ?_)
    rw [e86] at z2 a2 b2 u2
    have e67 : I2 67 2 = I 67 2 + 1 := by rw [f2 67 (by decide), n1']
    have e68 : ∀ k, I2 68 k = if k = I 67 2 then xs (x3 + 1) else I 68 k := fun k => by rw [f2 68 (by decide), w1 k]
    have e69 : ∀ k, I2 69 k = if k = I 67 2 then xs (x3 + 2) else I 69 k := fun k => by rw [f2 69 (by decide), v1 k]
    refine fI (by rw [e86, pl.1]) ⟨by omega, by omega⟩ (K I2 (up I2 (fun x hx2 => ?_) u2 ⟨by rw [e67, z2, pl.1], ⟨by rw [e67]; omega, fun k k0 k1 => ?_⟩, fun k k0 k1 => ?_⟩))
    · simp only [List.mem_cons, List.not_mem_nil, or_false, not_or] at hx2
      rw [f2 x hx2.2.2.2, f1.1 x hx2.1 hx2.2.1 hx2.2.2.1]
    · rw [e67] at k1
      rw [e68 k, e69 k]
      by_cases e : k = I 67 2
      · rw [if_pos e, if_pos e]; exact c
      · rw [if_neg e, if_neg e]; exact pl.2.1.2 k k0 (by omega)
    · rw [e67] at k1
      rw [a2 k k0 (by omega), b2 k k0 (by omega), e68 k, e69 k, ← pl.1]
      by_cases e : k = I 67 2
      · rw [if_pos e, if_pos e, if_pos e, if_pos e]; exact ⟨rfl, rfl⟩
      · rw [if_neg e, if_neg e, if_neg e, if_neg e]; exact pl.2.2 k k0 (by omega)
