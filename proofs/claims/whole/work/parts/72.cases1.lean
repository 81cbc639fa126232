/-! the law's cases, first half: calls that change no more than what is worked out -/
abbrev RLs (d L : Nat) (xs : Int → Int) (pc : Nat) (x3 : Int) (I : ax_H) : Prop := RLw (d + 14) L xs pc [some (ax_r 1000001), some (ax_r 0), some (ax_r 85), some (ax_i x3)] I
theorem K4.eq {g : Int → Int} {I I' : ax_H} (h : K4 g I) (e : ∀ b, 1 ≤ b → b ≤ 12 → I' b = I b) : K4 g I' := by
  have e1 := e 1 (by decide) (by decide)
  exact ⟨h.1.of e1 (e 3 (by decide) (by decide)) (e 4 (by decide) (by decide)) (e 7 (by decide) (by decide)), h.2.1.cg (e 3 (by decide) (by decide)) (e 5 (by decide) (by decide)) (e 6 (by decide) (by decide)) (by rw [e1]) (by rw [e1]), h.2.2.cg (e 11 (by decide) (by decide)) (e 12 (by decide) (by decide)) (by rw [e 10 (by decide) (by decide)]) (by rw [e1])⟩
theorem PA.eq {I I' : ax_H} (h : PA I) (e : ∀ b, 17 ≤ b → b ≤ 62 → I' b = I b) : PA I' := by
  refine ⟨fun b hb => ?_, h.2.1.of (e 17 (by decide) (by decide)) (e 18 (by decide) (by decide)), h.2.2.1.of (e 19 (by decide) (by decide)) (e 20 (by decide) (by decide)), h.2.2.2.1.of (e 22 (by decide) (by decide)) (e 23 (by decide) (by decide)), h.2.2.2.2.of (e 24 (by decide) (by decide)) (e 25 (by decide) (by decide))⟩
  have hb2 := hb
  simp only [tmpL, List.mem_cons, List.not_mem_nil, or_false] at hb2
  exact (h.1 b hb).of (e b (by omega) (by omega)) (e (b + 1) (by omega) (by omega))
theorem Rf.m {I I' : ax_H} (h : Rf I I') : Mf [1, 4, 7] I I' := fun b hb => by
  simp only [List.mem_cons, List.not_mem_nil, or_false, not_or] at hb
  exact h.1 b hb.1 hb.2.1 hb.2.2
theorem Kf.m {I I' : ax_H} (h : Kf I I') : Mf [1, 5, 6] I I' := fun b hb => by
  simp only [List.mem_cons, List.not_mem_nil, or_false, not_or] at hb
  exact h.1 b hb.1 hb.2.1 hb.2.2
theorem Rf.kc {I I' : ax_H} (h : Rf I I') : Kc I I' := Kc.m1 h.m (h.2 1 (by decide)) (by decide)
theorem Kf.kc {I I' : ax_H} (h : Kf I I') : Kc I I' := Kc.m1 h.m (h.2 1 (by decide)) (by decide)
theorem Rf.pa {I I' : ax_H} (h : Rf I I') (p : PA I) : PA I' := p.mf h.m (by decide)
theorem Kf.pa {I I' : ax_H} (h : Kf I I') (p : PA I) : PA I' := p.mf h.m (by decide)
theorem Rf.e86 {I I' : ax_H} (h : Rf I I') : I' 86 = I 86 := h.1 86 (by decide) (by decide) (by decide)
theorem Kf.e86 {I I' : ax_H} (h : Kf I I') : I' 86 = I 86 := h.1 86 (by decide) (by decide) (by decide)
theorem e_of {d L : Nat} {xs : Int → Int} {I : ax_H} {n x3 : Int} (hL : L ≤ 3584) (hxs : ∀ n, ax_R (xs n)) (hx : 0 ≤ x3 ∧ x3 + 7 ≤ L) (hJ : JJ n I) (K : ∀ I', JJ (n + 1) I' → RLs d L xs 1339 x3 I') : RLs d L xs 241 x3 I := by
  refine vL_law_241 hL hxs ⟨by omega, by omega, by omega, ?_⟩
  refine a_of hJ.T (hxs _) (hxs _) (hxs _) ?_
  refine z_of (hxs _) (hxs _) (hxs _) ?_
  exact fI rfl (r_of_R hJ.gd _ _ _) (K I (hJ.ch (Kc.rf I) hJ.1 hJ.2.1))
theorem e_value {d L : Nat} {xs : Int → Int} {I : ax_H} {n x3 : Int} (hL : L ≤ 3584) (hxs : ∀ n, ax_R (xs n)) (hx : 0 ≤ x3 ∧ x3 + 7 ≤ L) (hJ : JJ n I) (K : ∀ I', JJ (n + 1) I' → RLs d L xs 1339 x3 I') : RLs d L xs 330 x3 I := by
  refine vL_law_330 hL hxs ⟨by omega, by omega, by omega, ?_⟩
  refine a_value hJ.T (hxs _) (hxs _) (hxs _) ?_
  refine z_value hJ.gd (hxs _) (hxs _) (hxs _) ?_
  exact fI rfl (r_value_R _ _ _ _) (K I (hJ.ch (Kc.rf I) hJ.1 hJ.2.1))
theorem e_kept {d L : Nat} {xs : Int → Int} {I : ax_H} {n x3 : Int} (hL : L ≤ 3584) (hxs : ∀ n, ax_R (xs n)) (hx : 0 ≤ x3 ∧ x3 + 7 ≤ L) (hJ : JJ n I) (K : ∀ I', JJ (n + 1) I' → RLs d L xs 1339 x3 I') : RLs d L xs 373 x3 I := by
  refine vL_law_373 hL hxs ⟨by omega, by omega, ?_⟩
  refine a_kept hJ.T (hxs _) (hxs _) ?_
  refine z_kept hJ.gd (hxs _) (hxs _) ?_
  exact fI rfl (r_kept_R _ _ _) (K I (hJ.ch (Kc.rf I) hJ.1 hJ.2.1))
theorem e_swap {d L : Nat} {xs : Int → Int} {I : ax_H} {n x3 : Int} (hL : L ≤ 3584) (hxs : ∀ n, ax_R (xs n)) (hx : 0 ≤ x3 ∧ x3 + 7 ≤ L) (hJ : JJ n I) (K : ∀ I', JJ (n + 1) I' → RLs d L xs 1339 x3 I') : RLs d L xs 406 x3 I := by
  refine vL_law_406 hL hxs ⟨by omega, by omega, by omega, ?_⟩
  refine a_swap hJ.1.1 (hxs _) (hxs _) (hxs _) (fun I1 f r => ?_)
  refine z_swap (by rw [f.e86]; exact hJ.gd) (hxs _) (hxs _) (hxs _) ?_
  exact fI (by rw [f.e86]) (r_swap_R _ _ _ _) (K I1 (hJ.ch f.kc (hJ.1.rf f r) (f.pa hJ.2.1)))
theorem e_row {d L : Nat} {xs : Int → Int} {I : ax_H} {n x3 : Int} (hL : L ≤ 3584) (hxs : ∀ n, ax_R (xs n)) (hx : 0 ≤ x3 ∧ x3 + 7 ≤ L) (hJ : JJ n I) (K : ∀ I', JJ (n + 1) I' → RLs d L xs 1339 x3 I') : RLs d L xs 449 x3 I := by
  refine vL_law_449 hL hxs ⟨by omega, by omega, by omega, ?_⟩
  refine a_row hJ.1.1 (hxs _) (hxs _) (hxs _) (fun I1 f r => ?_)
  refine z_row (by rw [f.e86]; exact hJ.gd) (hxs _) (hxs _) (hxs _) ?_
  exact fI (by rw [f.e86]) (r_row_R _ _ _ _) (K I1 (hJ.ch f.kc (hJ.1.rf f r) (f.pa hJ.2.1)))
theorem e_pinched {d L : Nat} {xs : Int → Int} {I : ax_H} {n x3 : Int} (hL : L ≤ 3584) (hxs : ∀ n, ax_R (xs n)) (hx : 0 ≤ x3 ∧ x3 + 7 ≤ L) (hJ : JJ n I) (K : ∀ I', JJ (n + 1) I' → RLs d L xs 1339 x3 I') : RLs d L xs 492 x3 I := by
  refine vL_law_492 hL hxs ⟨by omega, ?_⟩
  refine a_pinched hJ.1.1 (hxs _) (fun I1 f r => ?_)
  refine z_pinched (by rw [f.e86]; exact hJ.gd) (hxs _) ?_
  exact fJ (by rw [f.e86]) (r_pinched_R _ _) (K I1 (hJ.ch f.kc (hJ.1.rf f r) (f.pa hJ.2.1)))
theorem e_behind {d L : Nat} {xs : Int → Int} {I : ax_H} {n x3 : Int} (hL : L ≤ 3584) (hxs : ∀ n, ax_R (xs n)) (hx : 0 ≤ x3 ∧ x3 + 7 ≤ L) (hJ : JJ n I) (K : ∀ I', JJ (n + 1) I' → RLs d L xs 1339 x3 I') : RLs d L xs 516 x3 I := by
  refine vL_law_516 hL hxs ⟨by omega, by omega, by omega, ?_⟩
  refine a_behind hJ.1.1 (hxs _) (hxs _) (hxs _) (fun I1 f r => ?_)
  refine z_behind (by rw [f.e86]; exact hJ.gd) (hxs _) (hxs _) (hxs _) ?_
  exact fI (by rw [f.e86]) (bhd_R _ _ _ _) (K I1 (hJ.ch f.kc (hJ.1.rf f r) (f.pa hJ.2.1)))
theorem e_period {d L : Nat} {xs : Int → Int} {I : ax_H} {n x3 : Int} (hL : L ≤ 3584) (hxs : ∀ n, ax_R (xs n)) (hx : 0 ≤ x3 ∧ x3 + 7 ≤ L) (hJ : JJ n I) (K : ∀ I', JJ (n + 1) I' → RLs d L xs 1339 x3 I') : RLs d L xs 559 x3 I := by
  refine vL_law_559 hL hxs ⟨by omega, by omega, ?_⟩
  refine a_period hJ.1.1 (hxs _) (hxs _) (fun I1 f r => ?_)
  refine z_period (by rw [f.e86]; exact hJ.gd) (hxs _) (hxs _) ?_
  exact fI (by rw [f.e86]) (perd_R _ _ _) (K I1 (hJ.ch f.kc (hJ.1.rf f r) (f.pa hJ.2.1)))
theorem e_fibre {d L : Nat} {xs : Int → Int} {I : ax_H} {n x3 : Int} (hL : L ≤ 3584) (hxs : ∀ n, ax_R (xs n)) (hx : 0 ≤ x3 ∧ x3 + 7 ≤ L) (hJ : JJ n I) (K : ∀ I', JJ (n + 1) I' → RLs d L xs 1339 x3 I') : RLs d L xs 592 x3 I := by
  refine vL_law_592 hL hxs ⟨by omega, by omega, ?_⟩
  refine a_fibre hJ.1.2.1 (hxs _) (hxs _) (fun I1 f r => ?_)
  refine z_fibre (by rw [f.e86]; exact hJ.gd) (hxs _) (hxs _) (fun I2 f2 => ?_)
  exact fI (by rw [f.e86]) (r_fibre_R _ _ _) (K I2 (hJ.ch (f.kc.trans (Kc.mf f2 (by decide))) ((hJ.1.kf f r).mf f2 (by decide)) ((f.pa hJ.2.1).mf f2 (by decide))))
theorem e_base {d L : Nat} {xs : Int → Int} {I : ax_H} {n x3 : Int} (hL : L ≤ 3584) (hxs : ∀ n, ax_R (xs n)) (hx : 0 ≤ x3 ∧ x3 + 7 ≤ L) (hJ : JJ n I) (K : ∀ I', JJ (n + 1) I' → RLs d L xs 1339 x3 I') : RLs d L xs 625 x3 I := by
  refine vL_law_625 hL hxs ⟨by omega, ?_⟩
  refine a_base hJ.1.2.1 (hxs _) (fun I1 f r => ?_)
  refine z_base (by rw [f.e86]; exact hJ.gd) (hxs _) (fun I2 f2 => ?_)
  exact fI (by rw [f.e86]) (r_nth_R _ _ _) (K I2 (hJ.ch (f.kc.trans (Kc.mf f2 (by decide))) ((hJ.1.kf f r).mf f2 (by decide)) ((f.pa hJ.2.1).mf f2 (by decide))))
theorem e_rank {d L : Nat} {xs : Int → Int} {I : ax_H} {n x3 : Int} (hL : L ≤ 3584) (hxs : ∀ n, ax_R (xs n)) (hx : 0 ≤ x3 ∧ x3 + 7 ≤ L) (hJ : JJ n I) (K : ∀ I', JJ (n + 1) I' → RLs d L xs 1339 x3 I') : RLs d L xs 648 x3 I := by
  refine vL_law_648 hL hxs ⟨by omega, ?_⟩
  refine a_rank hJ.1.2.1 (hxs _) (fun I1 f r => ?_)
  refine z_rank (by rw [f.e86]; exact hJ.gd) (hxs _) (fun I2 f2 => ?_)
  exact fI (by rw [f.e86]) (r_rank_R _ _) (K I2 (hJ.ch (f.kc.trans (Kc.mf f2 (by decide))) ((hJ.1.kf f r).mf f2 (by decide)) ((f.pa hJ.2.1).mf f2 (by decide))))
theorem e_cycles {d L : Nat} {xs : Int → Int} {I : ax_H} {n x3 : Int} (hL : L ≤ 3584) (hxs : ∀ n, ax_R (xs n)) (hx : 0 ≤ x3 ∧ x3 + 7 ≤ L) (hJ : JJ n I) (K : ∀ I', JJ (n + 1) I' → RLs d L xs 1339 x3 I') : RLs d L xs 671 x3 I := by
  refine vL_law_671 hL hxs ⟨by omega, by omega, ?_⟩
  refine a_cycles (hxs _) (hxs _) hJ.1.1 hJ.1.2.1 hJ.1.2.2 (fun I1 f r1 r2 r3 => ?_)
  have e86 : I1 86 = I 86 := f.1 86 (by decide)
  refine z_cycles (hxs _) (hxs _) (by rw [e86]; exact hJ.gd) (fun I2 f2 => ?_)
  exact fI (by rw [e86]) (r_cycles_R _ _ _) (K I2 (hJ.ch ((Kc.m1 f.1 (f.2 1 (by decide) (by decide)) (by decide)).trans (Kc.mf f2 (by decide))) (K4.mf ⟨r1, r2, r3⟩ f2 (by decide)) ((hJ.2.1.mf f.1 (by decide)).mf f2 (by decide))))
theorem e_degree {d L : Nat} {xs : Int → Int} {I : ax_H} {n x3 : Int} (hL : L ≤ 3584) (hxs : ∀ n, ax_R (xs n)) (hx : 0 ≤ x3 ∧ x3 + 7 ≤ L) (hJ : JJ n I) (K : ∀ I', JJ (n + 1) I' → RLs d L xs 1339 x3 I') : RLs d L xs 704 x3 I := by
  refine vL_law_704 hL hxs ⟨by omega, by omega, by omega, ?_⟩
  refine a_degree (hxs _) (hxs _) (hxs _) hJ.T hJ.2.1 (fun I1 f p => ?_)
  have e86 : I1 86 = I 86 := f 86 (by decide)
  refine z_degree (hxs _) (hxs _) (hxs _) (by rw [e86]; exact hJ.gd) (fun I2 f2 => ?_)
  refine fI (by rw [e86]) (r_degree_R _ _ _ _) (K I2 (hJ.ch ⟨fun b hb => ?_, by rw [f2 1 (by decide), f 1 (by decide)]⟩ (hJ.1.eq (fun b b1 b2 => by rw [f2 b (by omega), f b (by omega)])) (p.eq (fun b b1 b2 => f2 b (by omega)))))
  simp only [coreL, List.mem_cons, List.not_mem_nil, or_false] at hb
  rw [f2 b (by omega), f b (by omega)]
theorem e_told {d L : Nat} {xs : Int → Int} {I : ax_H} {n x3 : Int} (hL : L ≤ 3584) (hxs : ∀ n, ax_R (xs n)) (hx : 0 ≤ x3 ∧ x3 + 7 ≤ L) (hJ : JJ n I) (K : ∀ I', JJ (n + 1) I' → RLs d L xs 1339 x3 I') : RLs d L xs 813 x3 I := by
  have s := hJ.2.2.2.1
  refine vL_law_813 hL hxs ⟨by omega, ?_⟩
  refine a_told (hxs _) s.2.1 ?_
  refine z_told (hxs _) s.ref ?_
  refine fI ?_ ?_ (K I (hJ.ch (Kc.rf I) hJ.1 hJ.2.1))
  · rw [← s.1]
    split
    · rename_i c; exact s.2.2 _ c.1 c.2
    · rfl
  · split
    · rename_i c; exact spt_R (Or.inr (s.2.1.2.2 _ c.1 c.2))
    · decide
theorem Gf.m {I I' : ax_H} (h : Gf 65 I I') : Mf [1, 4, 7, 65, 66] I I' := fun b hb => by
  simp only [List.mem_cons, List.not_mem_nil, or_false, not_or] at hb
  exact h.1 b hb.1 hb.2.1 hb.2.2.1 hb.2.2.2.1 hb.2.2.2.2
theorem mvd_congr {g p q : Int → Int} {n t : Int} (h : ∀ k, 0 ≤ k → k < n → q k = p k) : mvd g q n t ↔ mvd g p n t := by
  unfold mvd
  rw [mem_congr (p := fun k => nxt g (q k)) (q := fun k => nxt g (p k)) (fun k k0 k1 => by rw [h k k0 k1])]
theorem e_moved {d L : Nat} {xs : Int → Int} {I : ax_H} {n x3 : Int} (hL : L ≤ 3584) (hxs : ∀ n, ax_R (xs n)) (hx : 0 ≤ x3 ∧ x3 + 7 ≤ L) (hJ : JJ n I) (K : ∀ I', JJ (n + 1) I' → RLs d L xs 1339 x3 I') : RLs d L xs 836 x3 I := by
  have s := hJ.2.2.2.1
  refine vL_law_836 hL hxs ⟨by omega, ?_⟩
  refine a_moved (hxs _) hJ.1.1 s.2.1 (fun I1 f r o m => ?_)
  have e86 : I1 86 = I 86 := f.m 86 (by decide)
  have er : rp I1 = rp I := by funext k; unfold rp; rw [e86]
  refine z_moved (hxs _) (by rw [e86]; exact hJ.gd) (by rw [er, e86]; exact s.ref) (fun I2 f2 fl2 => ?_)
  have hfl : ∀ t, spt t → (fl I2 112 t = 1 ↔ mem (I1 66) (I1 65 1) t) := fun t ht => by
    rw [fl2 t ht, m t, er, e86, ← s.1]
    exact mvd_congr (fun k k0 k1 => (s.2.2 k k0 k1).symm)
  refine fI (nl_all o hfl).symm ?_ (K I2 (hJ.ch ((Kc.m1 f.m (f.2.1 1 (by decide)) (by decide)).trans (Kc.mf f2 (by decide))) ((hJ.1.rl f.m f.2.1 r (by decide) (by decide) (by decide) (by decide) (by decide) (by decide)).mf f2 (by decide)) ((hJ.2.1.mf f.m (by decide)).mf f2 (by decide))))
  have ob := o.1
  split
  · exact ⟨by omega, by omega⟩
  · split
    · rename_i c; exact spt_R (Or.inr (o.2.2 _ c.1 c.2))
    · decide
theorem e_grows {d L : Nat} {xs : Int → Int} {I : ax_H} {n x3 : Int} (hL : L ≤ 3584) (hxs : ∀ n, ax_R (xs n)) (hx : 0 ≤ x3 ∧ x3 + 7 ≤ L) (hJ : JJ n I) (K : ∀ I', JJ (n + 1) I' → RLs d L xs 1339 x3 I') : RLs d L xs 872 x3 I := by
  have s := hJ.2.2.2.1
  have sb := s.2.1.1
  refine vL_law_872 hL hxs ⟨by omega, ?_⟩
  refine a_grows (hxs _) hJ.1.1 s.2.1 (fun I1 f r => ?_)
  have e86 : I1 86 = I 86 := f.1 86 (by decide)
  have er : rp I1 = rp I := by funext k; unfold rp; rw [e86]
  refine z_grows (hxs _) (by rw [e86]; exact hJ.gd) (by rw [er, e86]; exact s.ref) (fun I2 f2 => ?_)
  refine fI ?_ (r_grows_R (n := (I 63 1).toNat) (by rw [show (((I 63 1).toNat : Nat) : Int) = I 63 1 by omega]; exact s.2.1) _) (K I2 (hJ.ch ((Kc.m1 f.1 (f.2 1 (by decide)) (by decide)).trans (Kc.mf f2 (by decide))) ((hJ.1.rl f.1 f.2 r (by decide) (by decide) (by decide) (by decide) (by decide) (by decide)).mf f2 (by decide)) ((hJ.2.1.mf f.1 (by decide)).mf f2 (by decide))))
  rw [er, e86, ← s.1]
  unfold r_grows
  rw [lst_congr (p := I 64) (q := rp I) (I 63 1).toNat (fun k _ k1 => s.2.2 k (by omega) (by omega))]
theorem e_were {d L : Nat} {xs : Int → Int} {I : ax_H} {n x3 : Int} (hL : L ≤ 3584) (hxs : ∀ n, ax_R (xs n)) (hx : 0 ≤ x3 ∧ x3 + 7 ≤ L) (hJ : JJ n I) (K : ∀ I', JJ (n + 1) I' → RLs d L xs 1339 x3 I') : RLs d L xs 895 x3 I := by
  refine vL_law_895 hL hxs ⟨by omega, by omega, by omega, by omega, by omega, by omega, ?_⟩
  refine a_were hJ.T (hxs _) (hxs _) (hxs _) (hxs _) (hxs _) (hxs _) ?_
  refine z_were hJ.gd (hxs _) (hxs _) (hxs _) (hxs _) (hxs _) (hxs _) ?_
  exact fJ rfl (r_were_R _ _ _ _ _ _ _) (K I (hJ.ch (Kc.rf I) hJ.1 hJ.2.1))
theorem e_odds {d L : Nat} {xs : Int → Int} {I : ax_H} {n x3 : Int} (hL : L ≤ 3584) (hxs : ∀ n, ax_R (xs n)) (hx : 0 ≤ x3 ∧ x3 + 7 ≤ L) (hJ : JJ n I) (K : ∀ I', JJ (n + 1) I' → RLs d L xs 1339 x3 I') : RLs d L xs 971 x3 I := by
  refine vL_law_971 hL hxs ⟨by omega, by omega, by omega, by omega, ?_⟩
  refine a_odds hJ.T (hxs _) (hxs _) (hxs _) ?_
  refine z_odds hJ.gd (hxs _) (hxs _) (hxs _) ?_
  exact fJ rfl (r_odds_R _ _ _ _ _) (K I (hJ.ch (Kc.rf I) hJ.1 hJ.2.1))
theorem e_ends {d L : Nat} {xs : Int → Int} {I : ax_H} {n x3 : Int} (hL : L ≤ 3584) (hxs : ∀ n, ax_R (xs n)) (hx : 0 ≤ x3 ∧ x3 + 7 ≤ L) (hJ : JJ n I) (K : ∀ I', JJ (n + 1) I' → RLs d L xs 1339 x3 I') : RLs d L xs 1058 x3 I := by
  have p := hJ.2.2.2.2.1
  have pb := p.2.1.1
  refine vL_law_1058 hL hxs ⟨by omega, by omega, ?_⟩
  refine a_ends (hxs _) (hxs _) hJ.1.1 p.2.1 (fun I1 f r => ?_)
  have en : (((I 67 2).toNat : Nat) : Int) = I 67 2 := by omega
  refine z_ends (w := I 68) (v := I 69) (n := (I 67 2).toNat) (hxs _) (hxs _) (by rw [f.e86]; exact hJ.gd) (by rw [en]; exact p.2.1) (by rw [f.e86, en]; exact p.1.symm) (fun i i0 i1 => by rw [f.e86]; exact p.2.2 i i0 (by omega)) ?_
  exact fI (by rw [f.e86]) (r_ends_R _ _ _ _ _ _) (K I1 (hJ.ch f.kc (hJ.1.rf f r) (f.pa hJ.2.1)))
theorem e_paper {d L : Nat} {xs : Int → Int} {I : ax_H} {n x3 : Int} (hL : L ≤ 3584) (hxs : ∀ n, ax_R (xs n)) (hx : 0 ≤ x3 ∧ x3 + 7 ≤ L) (hJ : JJ n I) (K : ∀ I', JJ (n + 1) I' → RLs d L xs 1339 x3 I') : RLs d L xs 1114 x3 I := by
  have w := hJ.2.2.2.2.2.2.1
  show Rn _ _ _ _ _ _ _ _
  refine r_heapR (fun hR => ?_)
  refine vL_law_1114 hL hxs ⟨by omega, ?_⟩
  refine a_paper (hxs _) w.2.1 ?_
  refine z_paper (hxs _) (by rw [← w.1]; exact w.2.1) ?_
  refine fI ?_ ?_ (K I (hJ.ch (Kc.rf I) hJ.1 hJ.2.1))
  · rw [← w.1]
    split
    · rename_i c; exact (w.2.2 _ c.1 c.2).symm
    · rfl
  · split
    · exact hR _ _
    · decide
theorem e_judge {d L : Nat} {xs : Int → Int} {I : ax_H} {n x3 : Int} (hL : L ≤ 3584) (hxs : ∀ n, ax_R (xs n)) (hx : 0 ≤ x3 ∧ x3 + 7 ≤ L) (hJ : JJ n I) (K : ∀ I', JJ (n + 1) I' → RLs d L xs 1339 x3 I') : RLs d L xs 1137 x3 I := by
  have l := hJ.2.2.2.2.2.2.2.1
  show Rn _ _ _ _ _ _ _ _
  refine r_heapR (fun hR => ?_)
  refine vL_law_1137 hL hxs ⟨by omega, by omega, by omega, ?_⟩
  refine a_judge (p := fun k => I 76 (xs (x3 + 1) * 12 + k)) hJ.1.1 l.1 (hxs _) (hxs _) (hxs _) (fun k => hR _ _) (fun _ _ _ _ => rfl) (fun I1 f r => ?_)
  have w : ∀ b, b ≠ 1 → b ≠ 4 → b ≠ 7 → I1 b = I b := f.1
  have e116 : I1 116 = I 116 := w 116 (by decide) (by decide) (by decide)
  have hz : szs I1 116 := fun k k0 k1 => by rw [e116, l.2.1 k k0 k1]; exact l.1 k k0 k1
  refine z_judge (p := fun k => I 76 (xs (x3 + 1) * 12 + k)) (by rw [f.e86]; exact hJ.gd) hz (hxs _) (hxs _) (hxs _) (fun c i i0 i1 => ?_) ?_
  · rw [e116, l.2.1 _ c.1 c.2] at i1
    rw [w _ (by omega) (by omega) (by omega)]
    exact l.2.2 _ _ ⟨c, i0, i1⟩
  · by_cases c : 0 ≤ xs (x3 + 1) ∧ xs (x3 + 1) < 4
    · have e : I1 116 (xs (x3 + 1)) = I 75 (xs (x3 + 1)) := by rw [e116, l.2.1 _ c.1 c.2]
      exact fI (by rw [f.e86, e]) (r_judge_R (l.1 _ c.1 c.2).2 _ _ _) (K I1 (hJ.ch f.kc (hJ.1.rf f r) (f.pa hJ.2.1)))
    · refine fI ?_ ?_ (K I1 (hJ.ch f.kc (hJ.1.rf f r) (f.pa hJ.2.1)))
      · unfold r_judge; rw [if_neg c, if_neg c]
      · unfold r_judge; rw [if_neg c]; decide
theorem e_get {d L : Nat} {xs : Int → Int} {I : ax_H} {n x3 : Int} (hL : L ≤ 3584) (hxs : ∀ n, ax_R (xs n)) (hx : 0 ≤ x3 ∧ x3 + 7 ≤ L) (hJ : JJ n I) (K : ∀ I', JJ (n + 1) I' → RLs d L xs 1339 x3 I') : RLs d L xs 1256 x3 I := by
  have l := hJ.2.2.2.2.2.2.2.1
  show Rn _ _ _ _ _ _ _ _
  refine r_heapR (fun hR => ?_)
  have hz : szs I 116 := fun k k0 k1 => by rw [l.2.1 k k0 k1]; exact l.1 k k0 k1
  have ep : plcL I 116 (xs (x3 + 1)) (xs (x3 + 2)) ↔ plcL I 75 (xs (x3 + 1)) (xs (x3 + 2)) := by
    constructor
    · rintro ⟨a, b, c⟩; exact ⟨a, b, by rw [← l.2.1 _ a.1 a.2]; exact c⟩
    · rintro ⟨a, b, c⟩; exact ⟨a, b, by rw [l.2.1 _ a.1 a.2]; exact c⟩
  have hK := K I (hJ.ch (Kc.rf I) hJ.1 hJ.2.1)
  refine vL_law_1256 hL hxs ⟨by omega, by omega, ?_⟩
  refine a_get l.1 (hxs _) (hxs _) (fun c => ⟨hR _ _, ?_⟩) (fun c => ?_)
  · exact z_get hz (hxs _) (hxs _) (fun _ => fJ (l.2.2 _ _ c).symm (R8_of (hR _ _)) hK) (fun q => absurd (ep.2 c) q)
  · exact z_get hz (hxs _) (hxs _) (fun q => absurd (ep.1 q) c) (fun _ => fJ rfl (by decide) hK)
theorem e_count {d L : Nat} {xs : Int → Int} {I : ax_H} {n x3 : Int} (hL : L ≤ 3584) (hxs : ∀ n, ax_R (xs n)) (hx : 0 ≤ x3 ∧ x3 + 7 ≤ L) (hJ : JJ n I) (K : ∀ I', JJ (n + 1) I' → RLs d L xs 1339 x3 I') : RLs d L xs 1316 x3 I := by
  have s := hJ.2.2.2.1
  have p := hJ.2.2.2.2.1
  have b := hJ.2.2.2.2.2.1
  have w := hJ.2.2.2.2.2.2.1
  have sb := s.2.1.1
  have pb := p.2.1.1
  have bb := b.2.1.1
  have wb := w.2.1
  refine vL_law_1316 hL hxs ⟨by omega, ?_⟩
  refine a_count hJ.T (hxs _) ?_
  refine z_count (hxs _) ?_
  exact fI (by rw [s.1, p.1, b.1, w.1]) (r_count_R _ (by omega) (by omega) (by omega) (by omega) _) (K I (hJ.ch (Kc.rf I) hJ.1 hJ.2.1))
