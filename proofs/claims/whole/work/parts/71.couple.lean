/-! both sides stand alike: what holds between the calls -/
def rs (g : Int → Int) : Int → Int := fun k => if 0 ≤ k ∧ k < 18 then g k else 0
theorem rs_at {g : Int → Int} {k : Int} (h : 0 ≤ k ∧ k < 18) : rs g k = g k := if_pos h
theorem nu_rs {g : Int → Int} {w t k o : Int} (ht : 0 ≤ t ∧ t ≤ 1) (hk : 0 ≤ k ∧ k ≤ 2) (ho : 0 ≤ o ∧ o ≤ 2) : nu (rs g) w t k o = nu g w t k o := by
  unfold nu
  rw [rs_at (by omega), rs_at (by omega)]
theorem rw_rs {g : Int → Int} {w t k c : Int} (ht : 0 ≤ t ∧ t ≤ 1) (hk : 0 ≤ k ∧ k ≤ 2) : rw_ (rs g) w t k c = rw_ g w t k c := by
  unfold rw_
  rw [nu_rs ht hk (by decide), nu_rs ht hk (by decide), nu_rs ht hk (by decide)]
theorem cr_rs (g : Int → Int) : cr (rs g) = cr g := by
  funext w c what
  unfold cr
  dsimp only
  rw [rw_rs (by decide) (by split <;> omega), rw_rs (by decide) (by split <;> omega), rw_rs (by decide) (by split <;> omega), rw_rs (by decide) (by split <;> omega)]
theorem ot_rs (g : Int → Int) : ot (rs g) = ot g := by
  funext w own c
  unfold ot
  rw [cr_rs g]
theorem swd_rs (g : Int → Int) : swd (rs g) = swd g := by
  funext s w
  unfold swd
  rw [ot_rs g]
theorem stp_rs (g : Int → Int) : stp (rs g) = stp g := by
  funext s b
  unfold stp
  rw [swd_rs g]
theorem nxt_rs (g : Int → Int) : nxt (rs g) = nxt g := by
  funext s
  unfold nxt
  rw [stp_rs g]
theorem trm_rs {g : Int → Int} {t x y i j : Int} (ht : 0 ≤ t ∧ t ≤ 1) (hi : 0 ≤ i ∧ i ≤ 2) (hj : 0 ≤ j ∧ j ≤ 2) : trm (rs g) t x y i j = trm g t x y i j := by
  unfold trm
  rw [rs_at (by omega)]
theorem vl_rs {g : Int → Int} {t x y : Int} (ht : 0 ≤ t ∧ t ≤ 1) : vl (rs g) t x y = vl g t x y := by
  unfold vl
  rw [trm_rs ht (by decide) (by decide), trm_rs ht (by decide) (by decide), trm_rs ht (by decide) (by decide), trm_rs ht (by decide) (by decide), trm_rs ht (by decide) (by decide), trm_rs ht (by decide) (by decide), trm_rs ht (by decide) (by decide), trm_rs ht (by decide) (by decide), trm_rs ht (by decide) (by decide)]
theorem kq_rs (g : Int → Int) : kq (rs g) = kq g := by
  funext s
  unfold kq kp
  rw [vl_rs (by decide), vl_rs (by decide)]
theorem fz_rs (g : Int → Int) : fz (rs g) = fz g := by
  funext k
  unfold fz ik
  rw [kq_rs g]
def agr (g g' : Int → Int) : Prop := ∀ k, 0 ≤ k → k < 18 → g' k = g k
theorem agr.rs {g g' : Int → Int} (h : agr g g') : rs g' = rs g := by
  funext k
  unfold Jvm.Pilot.CKeptCurvesLaw_law_r5702_2a6850.rs
  split
  · rename_i c; exact h k c.1 c.2
  · rfl
theorem tabs.agr {g g' : Int → Int} {I : ax_H} {a : Nat} (h : tabs I a g) (e : agr g g') : tabs I a g' := fun k k0 k1 => by
  rw [e k k0 k1]; exact h k k0 k1
def K4 (g : Int → Int) (I : ax_H) : Prop := RInv g I ∧ KInv g I ∧ LInv g I
theorem K4.agr {g g' : Int → Int} {I : ax_H} (h : K4 g I) (e : agr g g') : K4 g' I := by
  have er := e.rs
  have c1 : cr g' = cr g := by rw [← cr_rs g', er, cr_rs]
  have c2 : stp g' = stp g := by rw [← stp_rs g', er, stp_rs]
  have c3 : kq g' = kq g := by rw [← kq_rs g', er, kq_rs]
  have c4 : fz g' = fz g := by rw [← fz_rs g', er, fz_rs]
  have c5 : nxt g' = nxt g := by rw [← nxt_rs g', er, nxt_rs]
  refine ⟨⟨h.1.1.agr e, ?_, h.1.2.2⟩, ⟨h.2.1.1.agr e, ?_, h.2.1.2.2⟩, ?_, h.2.2.2⟩
  · have := h.1.2.1
    unfold rowsOK aheadOK at *
    rw [c1, c2]; exact this
  · have := h.2.1.2.1
    unfold keptOK at *
    rw [c3, c4]; exact this
  · rw [c5]; exact h.2.2.1
theorem K4.rf {g : Int → Int} {I I' : ax_H} (h : K4 g I) (f : Rf I I') (r : RInv g I') : K4 g I' :=
  ⟨r, h.2.1.cg (f.1 3 (by decide) (by decide) (by decide)) (f.1 5 (by decide) (by decide) (by decide)) (f.1 6 (by decide) (by decide) (by decide)) (f.2 1 (by decide)) (f.2 3 (by decide)), h.2.2.cg (f.1 11 (by decide) (by decide) (by decide)) (f.1 12 (by decide) (by decide) (by decide)) (by rw [f.1 10 (by decide) (by decide) (by decide)]) (f.2 1 (by decide))⟩
theorem K4.kf {g : Int → Int} {I I' : ax_H} (h : K4 g I) (f : Kf I I') (r : KInv g I') : K4 g I' :=
  ⟨h.1.cg (f.1 3 (by decide) (by decide) (by decide)) (f.1 4 (by decide) (by decide) (by decide)) (f.1 7 (by decide) (by decide) (by decide)) (f.2 1 (by decide)) (f.2 2 (by decide)), r, h.2.2.cg (f.1 11 (by decide) (by decide) (by decide)) (f.1 12 (by decide) (by decide) (by decide)) (by rw [f.1 10 (by decide) (by decide) (by decide)]) (f.2 1 (by decide))⟩
/-- the rows' cells have changed, and others that don't matter -/
theorem K4.rl {g : Int → Int} {l : List Nat} {I I' : ax_H} (h : K4 g I) (f : Mf l I I') (f1 : ∀ k, k ≠ 2 → I' 1 k = I 1 k) (r : RInv g I') (h3 : 3 ∉ l) (h5 : 5 ∉ l) (h6 : 6 ∉ l) (h10 : 10 ∉ l) (h11 : 11 ∉ l) (h12 : 12 ∉ l) : K4 g I' :=
  ⟨r, h.2.1.cg (f 3 h3) (f 5 h5) (f 6 h6) (f1 1 (by decide)) (f1 3 (by decide)), h.2.2.cg (f 11 h11) (f 12 h12) (by rw [f 10 h10]) (f1 1 (by decide))⟩
theorem K4.mf {g : Int → Int} {l : List Nat} {I I' : ax_H} (h : K4 g I) (f : Mf l I I') (hl : ∀ b ∈ [1, 3, 4, 5, 6, 7, 10, 11, 12], b ∉ l) : K4 g I' := by
  have e : ∀ b ∈ [1, 3, 4, 5, 6, 7, 10, 11, 12], I' b = I b := fun b hb => f b (hl b hb)
  have e1 := e 1 (by decide)
  exact ⟨h.1.of e1 (e 3 (by decide)) (e 4 (by decide)) (e 7 (by decide)), h.2.1.cg (e 3 (by decide)) (e 5 (by decide)) (e 6 (by decide)) (by rw [e1]) (by rw [e1]), h.2.2.cg (e 11 (by decide)) (e 12 (by decide)) (by rw [e 10 (by decide)]) (by rw [e1])⟩
/-- new tables: all that was worked out is stale -/
theorem K4.new {g g' : Int → Int} {I I' : ax_H} (h : K4 g I) (hT : tabs I' 3 g') (e1 : I' 1 1 = I 1 1 + 1) (e2 : I' 1 2 = I 1 2) (e3 : I' 1 3 = I 1 3) (e10 : I' 10 4 = I 10 4) : K4 g' I' := by
  have h1 := h.1.2.2
  have h2 := h.2.1.2.2
  have h3 := h.2.2.2
  exact ⟨⟨hT, fun q => absurd q (by omega), by omega⟩, ⟨hT, fun q => absurd q (by omega), by omega⟩, fun q => absurd q (by omega), by omega⟩
def jS (I : ax_H) : Prop := I 63 1 = I 86 18 ∧ okS (I 64) (I 63 1) ∧ ∀ k, 0 ≤ k → k < I 63 1 → I 64 k = I 86 (19 + k)
def jP (I : ax_H) : Prop := I 67 2 = I 86 31 ∧ okP (I 68) (I 69) (I 67 2) ∧ ∀ k, 0 ≤ k → k < I 67 2 → I 86 (32 + k) = I 68 k ∧ I 86 (40 + k) = I 69 k
def jB (I : ax_H) : Prop := I 70 1 = I 85 23 ∧ okT (I 71) (I 70 1) ∧ ∀ k, 0 ≤ k → k < I 70 1 → I 113 k = I 71 k
def jW (I : ax_H) : Prop := I 72 1 = I 85 27 ∧ (0 ≤ I 72 1 ∧ I 72 1 ≤ 60) ∧ ∀ k, 0 ≤ k → k < I 72 1 → I 115 k = I 73 k
def jL (I : ax_H) : Prop := szs I 75 ∧ (∀ k, 0 ≤ k → k < 4 → I 116 k = I 75 k) ∧ ∀ k i, plcL I 75 k i → I (118 + k.toNat) i = I 76 (k * 12 + i)
def jI (I : ax_H) : Prop := (I 0 13 = 0 ∧ I 85 2 = 0) ∨ ((I 0 13 = 1 ∧ I 85 2 = 1) ∧ tabs I 79 (I 87) ∧ (I 80 1 = I 87 18 ∧ okS (I 81) (I 80 1) ∧ ∀ k, 0 ≤ k → k < I 80 1 → I 81 k = I 87 (19 + k)) ∧ (I 82 2 = I 87 31 ∧ okP (I 83) (I 84) (I 82 2) ∧ ∀ k, 0 ≤ k → k < I 82 2 → I 87 (32 + k) = I 83 k ∧ I 87 (40 + k) = I 84 k))
def JJ (n : Int) (I : ax_H) : Prop := K4 (I 86) I ∧ PA I ∧ (1 ≤ I 1 1 ∧ I 1 1 ≤ n) ∧ jS I ∧ jP I ∧ jB I ∧ jW I ∧ jL I ∧ jI I
theorem jS.cg {I I' : ax_H} (h : jS I) (e63 : I' 63 = I 63) (e64 : I' 64 = I 64) (e86 : ∀ k, 18 ≤ k → k < 31 → I' 86 k = I 86 k) : jS I' := by
  obtain ⟨h1, h2, h3⟩ := h
  have b := h2.1
  unfold jS
  rw [e63, e64, e86 18 (by omega) (by omega)]
  exact ⟨h1, h2, fun k k0 k1 => by rw [e86 (19 + k) (by omega) (by omega)]; exact h3 k k0 k1⟩
theorem jP.cg {I I' : ax_H} (h : jP I) (e67 : I' 67 = I 67) (e68 : I' 68 = I 68) (e69 : I' 69 = I 69) (e86 : ∀ k, 31 ≤ k → k < 48 → I' 86 k = I 86 k) : jP I' := by
  obtain ⟨h1, h2, h3⟩ := h
  have b := h2.1
  unfold jP
  rw [e67, e68, e69, e86 31 (by omega) (by omega)]
  exact ⟨h1, h2, fun k k0 k1 => by rw [e86 (32 + k) (by omega) (by omega), e86 (40 + k) (by omega) (by omega)]; exact h3 k k0 k1⟩
theorem jB.cg {I I' : ax_H} (h : jB I) (e70 : I' 70 = I 70) (e71 : I' 71 = I 71) (e113 : I' 113 = I 113) (e : I' 85 23 = I 85 23) : jB I' := by
  unfold jB at *
  rw [e70, e71, e113, e]; exact h
theorem jW.cg {I I' : ax_H} (h : jW I) (e72 : I' 72 = I 72) (e73 : I' 73 = I 73) (e115 : I' 115 = I 115) (e : I' 85 27 = I 85 27) : jW I' := by
  unfold jW at *
  rw [e72, e73, e115, e]; exact h
theorem jL.cg {I I' : ax_H} (h : jL I) (e75 : I' 75 = I 75) (e76 : I' 76 = I 76) (e116 : I' 116 = I 116) (e118 : I' 118 = I 118) (e119 : I' 119 = I 119) (e120 : I' 120 = I 120) (e121 : I' 121 = I 121) : jL I' := by
  obtain ⟨h1, h2, h3⟩ := h
  unfold jL szs plcL at *
  rw [e75, e76, e116]
  refine ⟨h1, h2, fun k i hp => ?_⟩
  have := h3 k i hp
  have hk : k = 0 ∨ k = 1 ∨ k = 2 ∨ k = 3 := by have := hp.1; omega
  rcases hk with rfl | rfl | rfl | rfl
  · show I' 118 i = _; rw [e118]; exact this
  · show I' 119 i = _; rw [e119]; exact this
  · show I' 120 i = _; rw [e120]; exact this
  · show I' 121 i = _; rw [e121]; exact this
theorem jI.cg {I I' : ax_H} (h : jI I) (e0 : I' 0 = I 0) (e79 : I' 79 = I 79) (e80 : I' 80 = I 80) (e81 : I' 81 = I 81) (e82 : I' 82 = I 82) (e83 : I' 83 = I 83) (e84 : I' 84 = I 84) (e87 : I' 87 = I 87) (e : I' 85 2 = I 85 2) : jI I' := by
  unfold jI tabs at *
  rw [e0, e79, e80, e81, e82, e83, e84, e87, e]; exact h
theorem WT.mf {l : List Nat} {I I' : ax_H} (h : WT I) (f : Mf l I I') (hl : ∀ b ∈ tmpL, b ∉ l ∧ b + 1 ∉ l) : WT I' := fun b hb => (h b hb).of (f b (hl b hb).1) (f (b + 1) (hl b hb).2)
theorem PA.mf {l : List Nat} {I I' : ax_H} (h : PA I) (f : Mf l I I') (hl : ∀ b ∈ 17 :: 19 :: 22 :: 24 :: tmpL, b ∉ l ∧ b + 1 ∉ l) : PA I' :=
  have e : ∀ b ∈ 17 :: 19 :: 22 :: 24 :: tmpL, wf I b → wf I' b := fun b hb hw => hw.of (f b (hl b hb).1) (f (b + 1) (hl b hb).2)
  ⟨fun b hb => e b (by simp only [List.mem_cons]; exact Or.inr (Or.inr (Or.inr (Or.inr hb)))) (h.1 b hb), e 17 (by decide) h.2.1, e 19 (by decide) h.2.2.1, e 22 (by decide) h.2.2.2.1, e 24 (by decide) h.2.2.2.2⟩
def coreL : List Nat := [0, 63, 64, 67, 68, 69, 70, 71, 72, 73, 75, 76, 79, 80, 81, 82, 83, 84, 85, 86, 87, 113, 115, 116, 118, 119, 120, 121]
def Kc (I I' : ax_H) : Prop := (∀ b ∈ coreL, I' b = I b) ∧ I' 1 1 = I 1 1
theorem Kc.mf {l : List Nat} {I I' : ax_H} (f : Mf l I I') (hl : ∀ b ∈ 1 :: coreL, b ∉ l) : Kc I I' :=
  ⟨fun b hb => f b (hl b (List.mem_cons_of_mem _ hb)), by rw [f 1 (hl 1 (by decide))]⟩
theorem Kc.m1 {l : List Nat} {I I' : ax_H} (f : Mf l I I') (f1 : I' 1 1 = I 1 1) (hl : ∀ b ∈ coreL, b ∉ l) : Kc I I' := ⟨fun b hb => f b (hl b hb), f1⟩
theorem Kc.trans {I I' I'' : ax_H} (h : Kc I I') (h' : Kc I' I'') : Kc I I'' := ⟨fun b hb => (h'.1 b hb).trans (h.1 b hb), h'.2.trans h.2⟩
theorem Kc.rf (I : ax_H) : Kc I I := ⟨fun _ _ => rfl, rfl⟩
theorem JJ.ch {n : Int} {I I' : ax_H} (h : JJ n I) (c : Kc I I') (k : K4 (I 86) I') (p : PA I') : JJ (n + 1) I' := by
  obtain ⟨_, _, hv, s, pl, b, w, l, i⟩ := h
  have e := c.1
  have e86 : I' 86 = I 86 := e 86 (by decide)
  have e85 : I' 85 = I 85 := e 85 (by decide)
  refine ⟨by rw [e86]; exact k, p, by rw [c.2]; omega, s.cg (e 63 (by decide)) (e 64 (by decide)) (fun k _ _ => by rw [e86]), pl.cg (e 67 (by decide)) (e 68 (by decide)) (e 69 (by decide)) (fun k _ _ => by rw [e86]), b.cg (e 70 (by decide)) (e 71 (by decide)) (e 113 (by decide)) (by rw [e85]), w.cg (e 72 (by decide)) (e 73 (by decide)) (e 115 (by decide)) (by rw [e85]), l.cg (e 75 (by decide)) (e 76 (by decide)) (e 116 (by decide)) (e 118 (by decide)) (e 119 (by decide)) (e 120 (by decide)) (e 121 (by decide)), i.cg (e 0 (by decide)) (e 79 (by decide)) (e 80 (by decide)) (e 81 (by decide)) (e 82 (by decide)) (e 83 (by decide)) (e 84 (by decide)) (e 87 (by decide)) (by rw [e85])⟩
theorem JJ.gd {n : Int} {I : ax_H} (h : JJ n I) : gd (I 86) := h.1.1.1.gd
theorem JJ.T {n : Int} {I : ax_H} (h : JJ n I) : tabs I 3 (I 86) := h.1.1.1
theorem okS_congr {p q : Int → Int} {n : Int} (h : okS p n) (e : ∀ k, 0 ≤ k → k < n → q k = p k) : okS q n :=
  ⟨h.1, fun i j i0 i1 i2 => by rw [e i i0 (by omega), e j (by omega) i2]; exact h.2.1 i j i0 i1 i2, fun k k0 k1 => by rw [e k k0 k1]; exact h.2.2 k k0 k1⟩
theorem jS.ref {I : ax_H} (h : jS I) : okS (rp I) (I 86 18) := by
  have := okS_congr (q := rp I) h.2.1 (fun k k0 k1 => (h.2.2 k k0 k1).symm)
  rw [h.1] at this
  exact this
theorem jS.mem {I : ax_H} (h : jS I) (s : Int) : mem (rp I) (I 86 18) s ↔ mem (I 64) (I 63 1) s := by
  rw [← h.1]
  exact mem_congr (fun k k0 k1 => (h.2.2 k k0 k1).symm)
/-! the answers stay in their range -/
theorem fI {w v : Int} {A : Prop} (h : w = v) (hR : ax_R w) (hA : A) : ax_R w ∧ (ax_R v ∧ ((w = v → A) ∧ (¬ w = v → False))) := by
  subst h
  exact ⟨hR, hR, fun _ => hA, fun c => c rfl⟩
theorem fJ {w v : Int} {A : Prop} (h : w = v) (hR : ax_R8 w) (hA : A) : ax_R8 w ∧ (ax_R8 v ∧ (ax_R (ax_cmp w v) ∧ ((ax_cmp w v = 0 → A) ∧ (¬ ax_cmp w v = 0 → False)))) := by
  subst h
  exact ⟨hR, hR, cmp_R _ _, fun _ => hA, fun c => c (cmp_eq.2 rfl)⟩
theorem ot_R (g : Int → Int) (w own c : Int) : ax_R (ot g w own c) := by
  rcases ot_co g w own c with e | e
  · rw [e]; decide
  · exact co_R e
theorem r_of_R {g : Int → Int} (hg : gd g) (t i j : Int) : ax_R (r_of g t i j) := by
  unfold r_of
  split
  · rename_i h; exact nm_R (hg _ (by have := h.1; have := h.2.1; have := h.2.2; omega) (by have := h.1; have := h.2.1; have := h.2.2; omega))
  · decide
theorem r_value_R (g : Int → Int) (t x y : Int) : ax_R (r_value g t x y) := by
  unfold r_value
  split
  · split
    · exact nm_R (vl_nm _ _ _ _)
    · decide
  · decide
theorem r_kept_R (g : Int → Int) (x y : Int) : ax_R (r_kept g x y) := by
  unfold r_kept
  split
  · exact kp_R _ _ _
  · decide
theorem r_swap_R (g : Int → Int) (w x y : Int) : ax_R (r_swap g w x y) := by
  unfold r_swap
  split
  · split
    · split
      · exact ot_R _ _ _ _
      · exact ot_R _ _ _ _
    · decide
  · decide
theorem r_row_R (g : Int → Int) (w c k : Int) : ax_R (r_row g w c k) := by
  unfold r_row
  split
  · split
    · split
      · exact nm_R (cr_nm _ _ _ _)
      · decide
    · decide
  · decide
theorem prv_mp (g : Int → Int) : mpS (prv g) := ⟨prv_lost g, fun _ => prv_spt⟩
theorem bhd_R (g : Int → Int) (x y n : Int) : ax_R (bhd g x y n) := by
  unfold bhd
  split
  · decide
  · rename_i h
    have h' : co x ∧ co y := Classical.not_not.mp h
    have hs : spt (32 * x + y) := ⟨by omega, by omega⟩
    split
    · decide
    · split
      · exact spt_R (itn_spt (prv_mp g) (Or.inr hs) _)
      · exact spt_R (itn_spt (nxt_mp g) (Or.inr hs) _)
theorem pr_R (g : Int → Int) (s : Int) : ∀ (f : Nat) (cur n : Int), 0 ≤ n → n + f ≤ 2000 → ax_R (pr g s f cur n)
  | 0, _, _, _, _ => by show ax_R (-5); decide
  | f + 1, cur, n, h0, h1 => by
    unfold pr
    split
    · decide
    · split
      · exact ⟨by omega, by omega⟩
      · exact pr_R g s f _ _ (by omega) (by omega)
theorem perd_R (g : Int → Int) (x y : Int) : ax_R (perd g x y) := by
  unfold perd
  split
  · decide
  · exact pr_R _ _ _ _ _ (by omega) (by omega)
theorem nl_R (f : Int → Int) (k i : Int) : ∀ (m : Nat) (c s : Int), 0 ≤ c → 0 ≤ s → c + m ≤ 2000 → s + m ≤ 2000 → ax_R (nl f k i m c s)
  | 0, c, s, h0, h1, h2, h3 => by
    unfold nl
    split
    · exact ⟨by omega, by omega⟩
    · decide
  | m + 1, c, s, h0, h1, h2, h3 => by
    unfold nl
    split
    · split
      · exact ⟨by omega, by omega⟩
      · exact nl_R f k i m _ _ (by omega) (by omega) (by omega) (by omega)
    · exact nl_R f k i m _ _ (by omega) (by omega) (by omega) (by omega)
theorem r_nth_R (g : Int → Int) (k i : Int) : ax_R (r_nth g k i) := nl_R _ _ _ _ _ _ (by omega) (by omega) (by omega) (by omega)
theorem r_fibre_R (g : Int → Int) (k i : Int) : ax_R (r_fibre g k i) := by
  unfold r_fibre
  split
  · exact r_nth_R _ _ _
  · decide
theorem rkl_R (z : Int → Int) (i : Int) : ∀ (n : Nat) (k : Int), 0 ≤ k → k + n ≤ 2000 → ax_R (rkl z i n k)
  | 0, _, _, _ => by show ax_R (-1); decide
  | n + 1, k, h0, h1 => by
    unfold rkl
    split
    · exact ⟨by omega, by omega⟩
    · exact rkl_R z i n _ (by omega) (by omega)
theorem r_rank_R (g : Int → Int) (i : Int) : ax_R (r_rank g i) := by
  unfold r_rank
  split
  · exact rkl_R _ _ _ _ (by omega) (by omega)
  · decide
theorem grw_R {g : Int → Int} : ∀ (t f : Nat) (L : List Int), gl L → ax_R (grw g t f L)
  | 0, _, L, h => by
    have := h.le
    exact ⟨by show _ ≤ (L.length : Int); omega, by show (L.length : Int) < _; omega⟩
  | t + 1, f, L, h => grw_R t _ _ (gl_rnd (g := g) _ _ L h).1
theorem r_grows_R {g p : Int → Int} {n : Nat} (h : okS p n) (t : Int) : ax_R (r_grows g p n t) := by
  unfold r_grows
  split
  · exact grw_R _ _ _ (lst_gl h n (by omega))
  · decide
theorem r_were_R (g : Int → Int) (t i j x y k : Int) : ax_R8 (r_were g t i j x y k) := by
  unfold r_were
  split
  · split
    · split
      · exact wre_R8 _ _ _ _ _ _
      · decide
    · decide
  · decide
theorem r_odds_R (g : Int → Int) (k seed m part : Int) : ax_R8 (r_odds g k seed m part) := by
  unfold r_odds
  split
  · rename_i h
    have b := od_bd g k seed m.toNat
    have gp := Nat.gcd_pos_of_pos_right (od g k seed m.toNat).toNat (show 0 < m.toNat by omega)
    split
    · exact R8_of (dv_R (by omega) (by omega))
    · exact R8_of (dv_R (by omega) (by omega))
  · decide
theorem r_pinched_R (g : Int → Int) (w : Int) : ax_R8 (r_pinched g w) := by
  unfold r_pinched
  split
  · exact pns_R8 _ _ _
  · decide
theorem pln_spt {g w v : Int → Int} : ∀ (n : Nat) (k s : Int), spt s → spt (pln g w v n k s)
  | 0, _, _, h => h
  | n + 1, k, s, h => pln_spt n _ _ (don_spt h)
theorem r_ends_R (g w v : Int → Int) (n : Nat) (x y : Int) : ax_R (r_ends g w v n x y) := by
  unfold r_ends
  split
  · rename_i h
    exact spt_R (Or.inr (pln_spt _ _ _ ⟨by omega, by omega⟩))
  · decide
theorem jdg_R (g p : Int → Int) : ∀ (m : Nat) (k s : Int), 0 ≤ k → k + m ≤ 2000 → ax_R (jdg g p m k s)
  | 0, _, _, _, _ => by show ax_R (-5); decide
  | m + 1, k, s, h0, h1 => by
    unfold jdg
    dsimp only
    exact if3 (A := ax_R) (fun _ => jdg_R g p m _ _ (by omega) (by omega)) (fun _ => ⟨by omega, by omega⟩)
theorem r_judge_R {g p : Int → Int} {n : Int} (hn : n ≤ 12) (l x y : Int) : ax_R (r_judge g p n l x y) := by
  unfold r_judge
  split
  · split
    · split
      · exact jdg_R _ _ _ _ _ (by omega) (by omega)
      · decide
    · decide
  · decide
theorem nzs_bd (p : Int → Int) (n : Nat) : 0 ≤ nzs p n ∧ nzs p n ≤ n := sm_bd (fun i => by split <;> omega) n
theorem r_count_R (g : Int → Int) {a b c e : Int} (ha : 0 ≤ a ∧ a ≤ 100) (hb : 0 ≤ b ∧ b ≤ 100) (hc : 0 ≤ c ∧ c ≤ 100) (he : 0 ≤ e ∧ e ≤ 100) (i : Int) : ax_R (r_count g a b c e i) := by
  have := nzs_bd g 18
  unfold r_count
  split
  · exact ⟨by omega, by omega⟩
  · split
    · exact ⟨by omega, by omega⟩
    · split
      · exact ⟨by omega, by omega⟩
      · split
        · exact ⟨by omega, by omega⟩
        · split
          · exact ⟨by omega, by omega⟩
          · decide
