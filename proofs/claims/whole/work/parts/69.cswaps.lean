/-! swaps of fractions: the class -/
theorem pP_1 (A B : Int → Int) : pP Z0 1 A B = mulP A B := by
  funext k
  show ((0 : Int) + 1 * cv A B k 1300) % 31 = cv A B k 1300 % 31
  omega
theorem pP_cr (R1 R2 R3 R4 : Int → Int) : pP (pP Z0 1 R1 R2) (-1) R3 R4 = sP 1 (mulP R1 R2) 30 (mulP R3 R4) := by
  funext k
  show (((0 : Int) + 1 * cv R1 R2 k 1300) % 31 + -1 * cv R3 R4 k 1300) % 31 = (1 * (cv R1 R2 k 1300 % 31) + 30 * (cv R3 R4 k 1300 % 31)) % 31
  omega
theorem pP_u (R1 R2 R3 R4 : Int → Int) : pP (pP Z0 (-1) R1 R2) (-1) R3 R4 = sP 30 (mulP R1 R2) 30 (mulP R3 R4) := by
  funext k
  show (((0 : Int) + -1 * cv R1 R2 k 1300) % 31 + -1 * cv R3 R4 k 1300) % 31 = (30 * (cv R1 R2 k 1300 % 31) + 30 * (cv R3 R4 k 1300 % 31)) % 31
  omega
theorem pP_v (R1 R2 R3 R4 : Int → Int) : pP (pP Z0 1 R1 R2) 1 R3 R4 = sP 1 (mulP R1 R2) 1 (mulP R3 R4) := by
  funext k
  show (((0 : Int) + 1 * cv R1 R2 k 1300) % 31 + 1 * cv R3 R4 k 1300) % 31 = (1 * (cv R1 R2 k 1300 % 31) + 1 * (cv R3 R4 k 1300 % 31)) % 31
  omega
theorem aP_s (P : Int → Int) (x : Int) (S : Int → Int) : aP P x S = sP 1 P x S := by
  funext k
  unfold aP sP
  rw [Int.one_mul]
theorem Z0_K : Z0 = Kp 0 := by
  funext k
  unfold Kp Z0
  split <;> rfl
def tmpL : List Nat := [27, 29, 31, 34, 36, 38, 41, 43, 45, 47, 49, 51, 53, 55, 57, 59, 61]
def WT (I : ax_H) : Prop := ∀ b ∈ tmpL, wf I b
theorem WT.step {a : Nat} {I I' : ax_H} (h : WT I) (f : Uf a I I') (hw : wf I' a) (ha : ∀ b ∈ tmpL, b = a ∨ (a + 1 < b ∨ b + 1 < a)) : WT I' := fun b hb => by
  rcases ha b hb with e | e
  · rw [e]; exact hw
  · exact f.wf e (h b hb)
theorem Uf.rg {a lo hi : Nat} {I I' : ax_H} (h : Uf a I I') (h1 : lo ≤ a ∧ a + 1 ≤ hi) : Rf2 lo hi I I' := fun b hb => h b (by omega) (by omega)
theorem Rf2.cp {lo hi b : Nat} {I I' : ax_H} {P : Int → Int} (h : Rf2 lo hi I I') (hb : b + 1 < lo ∨ hi < b) (hc : cP I b P) : cP I' b P := hc.of (h b (by omega)) (h (b + 1) (by omega))
theorem isPoT (a : Nat) (h : a ∈ tmpL) : isPo a := by
  simp only [tmpL, List.mem_cons, List.not_mem_nil, or_false] at h
  rcases h with rfl | rfl | rfl | rfl | rfl | rfl | rfl | rfl | rfl | rfl | rfl | rfl | rfl | rfl | rfl | rfl | rfl <;> exact ⟨rfl, rfl⟩
theorem c_mulTo {d a b c : Nat} {I : ax_H} {A B : Int → Int} {Q : ax_H → Prop} (ha : isPo a) (hb : isPo b) (hc : isPo c) (hab : dj a b) (hac : dj a c) (gA : gP A) (gB : gP B) (h0 : cP I a Z0) (hA : cP I b A) (hB : cP I c B) (hs : szP A + szP B ≤ 1300) (hQ : ∀ I', Uf a I I' → cP I' a (mulP A B) → Q I') : cV (d + 2) kX7_addProduct [ax_r a, ax_r b, ax_r c, ax_i 1] I Q :=
  c_addProduct ha hb hc hab hac (Or.inl rfl) Z0_g gA gB h0 hA hB hs (fun I' f p => hQ I' f (by rw [← pP_1]; exact p))
theorem c_readSquares {d a4 : Nat} {I : ax_H} {C D : Int → Int} {Q : ax_H → Prop} {c : Int} (h4 : a4 = 16 ∨ a4 = 21) (hw : WT I) (gC : gP C) (gD : gP D) (zC : zB C c) (zD : zB D c) (hc : 1 ≤ c ∧ 2 * c ≤ 1300) (hC : cP I (a4 + 1) C) (hD : cP I (a4 + 3) D)
    (hQ : ∀ I', Rf2 27 32 I I' → WT I' → cP I' 27 (mulP D D) → cP I' 29 (mulP C D) → cP I' 31 (mulP C C) → Q I') : cV (d + 3) kX2_readSquares [ax_r 15, ax_r a4] I Q := by
  have hFr : isFr a4 := by rcases h4 with h | h <;> rw [h] <;> exact ⟨rfl, ⟨rfl, rfl⟩, ⟨rfl, rfl⟩⟩
  have sC := sz_zb (by omega) zC
  have sD := sz_zb (by omega) zD
  have p27 : isPo 27 := ⟨rfl, rfl⟩
  have p29 : isPo 29 := ⟨rfl, rfl⟩
  have p31 : isPo 31 := ⟨rfl, rfl⟩
  refine vX2_readSquares_0 hFr ?_
  refine vX2_readSquares_2 hFr (by decide) ⟨fun q => absurd q (by decide), fun _ => ⟨by decide, fun b hb hpo => ?_⟩⟩
  obtain rfl : b = 27 := hb
  refine c_clear p27 (hw 27 (by decide)) (fun I1 f1 c1 => ?_)
  have w1 : WT I1 := hw.step f1 (c1.wf Z0_g) (by decide)
  refine vX2_readSquares_2 hFr (by decide) ⟨fun q => absurd q (by decide), fun _ => ⟨by decide, fun b hb hpo => ?_⟩⟩
  obtain rfl : b = 29 := hb
  refine c_clear p29 (w1 29 (by decide)) (fun I2 f2 c2 => ?_)
  have w2 : WT I2 := w1.step f2 (c2.wf Z0_g) (by decide)
  refine vX2_readSquares_2 hFr (by decide) ⟨fun q => absurd q (by decide), fun _ => ⟨by decide, fun b hb hpo => ?_⟩⟩
  obtain rfl : b = 31 := hb
  refine c_clear p31 (w2 31 (by decide)) (fun I3 f3 c3 => ?_)
  have w3 : WT I3 := w2.step f3 (c3.wf Z0_g) (by decide)
  have F3 : Rf2 27 32 I I3 := ((f1.rg (by decide)).trans (f2.rg (by decide))).trans (f3.rg (by decide))
  refine vX2_readSquares_2 hFr (by decide) ⟨fun _ => ?_, fun q => absurd (by decide) q⟩
  refine c_mulTo p27 hFr.2.2 hFr.2.2 (by unfold dj; omega) (by unfold dj; omega) gD gD (f3.cp (by unfold dj; omega) (f2.cp (by unfold dj; omega) c1)) (F3.cp (by omega) hD) (F3.cp (by omega) hD) (by omega) (fun I4 f4 c4 => ?_)
  have F4 := F3.trans (f4.rg (lo := 27) (hi := 32) (by decide))
  have w4 : WT I4 := w3.step f4 (c4.wf (mul_g zD zD (by omega))) (by decide)
  refine c_mulTo p29 hFr.2.1 hFr.2.2 (by unfold dj; omega) (by unfold dj; omega) gC gD (f4.cp (by unfold dj; omega) (f3.cp (by unfold dj; omega) c2)) (F4.cp (by omega) hC) (F4.cp (by omega) hD) (by omega) (fun I5 f5 c5 => ?_)
  have F5 := F4.trans (f5.rg (lo := 27) (hi := 32) (by decide))
  have w5 : WT I5 := w4.step f5 (c5.wf (mul_g zC zD (by omega))) (by decide)
  refine c_mulTo p31 hFr.2.1 hFr.2.1 (by unfold dj; omega) (by unfold dj; omega) gC gC (f5.cp (by unfold dj; omega) (f4.cp (by unfold dj; omega) c3)) (F5.cp (by omega) hC) (F5.cp (by omega) hC) (by omega) (fun I6 f6 c6 => ?_)
  have F6 := F5.trans (f6.rg (lo := 27) (hi := 32) (by decide))
  have w6 : WT I6 := w5.step f6 (c6.wf (mul_g zC zC (by omega))) (by decide)
  exact hQ I6 F6 w6 (f6.cp (by unfold dj; omega) (f5.cp (by unfold dj; omega) c4)) (f6.cp (by unfold dj; omega) c5) c6
theorem c_readRow {d r : Nat} {I : ax_H} {g C D : Int → Int} {Q : ax_H → Prop} {w t k c : Int} (hr : isPo r) (hr9 : 34 ≤ r ∧ r ≤ 45) (hT : tabs I 3 g) (hw : 0 ≤ w ∧ w ≤ 1) (ht : 0 ≤ t ∧ t ≤ 1) (hk : 0 ≤ k ∧ k ≤ 2) (hwf : wf I r) (zC : zB C c) (zD : zB D c) (hc : 1 ≤ c ∧ 2 * c ≤ 1300) (h0 : cP I 27 (mulP D D)) (h1 : cP I 29 (mulP C D)) (h2 : cP I 31 (mulP C C))
    (hQ : ∀ I', Uf r I I' → cP I' r (rwP g w t k C D) → Q I') : cV (d + 3) kX2_readRow [ax_r 15, ax_r r, ax_r 2, ax_i w, ax_i t, ax_i k] I Q := by
  have wR : ax_R w := ⟨by omega, by omega⟩
  have g0 := mul_g zD zD (by omega)
  have g1 := mul_g zC zD (by omega)
  have g2 := mul_g zC zC (by omega)
  have z0 : zB (mulP D D) (2 * c - 1) := (mul_zb zD zD).mono (by omega)
  have z1 : zB (mulP C D) (2 * c - 1) := (mul_zb zC zD).mono (by omega)
  have nn := fun o (ho : 0 ≤ o ∧ o ≤ 2) => nu_nm (which := w) hT.gd ht hk ho
  have a0 := aP_g (x := nu g w t k 0) (N := 2 * c - 1) (by omega) ((Z0_K ▸ Kp0_zb : zB Z0 0).mono (by omega)) z0
  have a1 := aP_g (x := nu g w t k 1) (N := 2 * c - 1) (by omega) a0.2 z1
  refine vX2_readRow_0 hr isT2 ?_
  refine c_clear hr hwf (fun I1 f1 c1 => ?_)
  refine vX2_readRow_7 hr isT2 (by decide) ⟨fun q => absurd q (by decide), fun _ => ⟨by decide, fun b hb hpo => ?_⟩⟩
  obtain rfl : b = 27 := hb
  refine c_numberAlong isT2 (hT.of (f1 3 (by omega) (by omega))) wR ht hk (by decide) ?_
  refine c_addTimes hr hpo (by unfold dj; omega) Z0_g g0 c1 (f1.cp (by unfold dj; omega) h0) (nn 0 (by decide)) (fun I2 f2 c2 => ?_)
  have F2 := f1.trans f2
  refine vX2_readRow_7 hr isT2 (by decide) ⟨fun q => absurd q (by decide), fun _ => ⟨by decide, fun b hb hpo => ?_⟩⟩
  obtain rfl : b = 29 := hb
  refine c_numberAlong isT2 (hT.of (F2 3 (by omega) (by omega))) wR ht hk (by decide) ?_
  refine c_addTimes hr hpo (by unfold dj; omega) a0.1 g1 c2 (F2.cp (by unfold dj; omega) h1) (nn 1 (by decide)) (fun I3 f3 c3 => ?_)
  have F3 := F2.trans f3
  refine vX2_readRow_7 hr isT2 (by decide) ⟨fun q => absurd q (by decide), fun _ => ⟨by decide, fun b hb hpo => ?_⟩⟩
  obtain rfl : b = 31 := hb
  refine c_numberAlong isT2 (hT.of (F3 3 (by omega) (by omega))) wR ht hk (by decide) ?_
  refine c_addTimes hr hpo (by unfold dj; omega) a1.1 g2 c3 (F3.cp (by unfold dj; omega) h2) (nn 2 (by decide)) (fun I4 f4 c4 => ?_)
  have F4 := F3.trans f4
  refine vX2_readRow_7 hr isT2 (by decide) ⟨fun _ => hQ I4 F4 ?_, fun q => absurd (by decide) q⟩
  rw [aP_s, aP_s, aP_s, Z0_K] at c4
  exact c4
theorem c_readCross {d r : Nat} {I : ax_H} {g C D : Int → Int} {Q : ax_H → Prop} {w h l c : Int} (hr : isPo r) (hr9 : 47 ≤ r ∧ r ≤ 51) (hh : 1 ≤ h ∧ h ≤ 2) (hl : 0 ≤ l ∧ l < h) (hwf : wf I r) (hc : 1 ≤ c ∧ 4 * c - 2 ≤ 1300) (zC : zB C c) (zD : zB D c) (hA : ∀ k, 0 ≤ k → k ≤ 2 → cP I (34 + 2 * k.toNat) (rwP g w 0 k C D)) (hB : ∀ k, 0 ≤ k → k ≤ 2 → cP I (41 + 2 * k.toNat) (rwP g w 1 k C D))
    (hQ : ∀ I', Uf r I I' → cP I' r (crP g w h l C D) → Q I') : cV (d + 3) kX2_readCross [ax_r 15, ax_r r, ax_i h, ax_i l] I Q := by
  have zr : ∀ t k, zB (rwP g w t k C D) (2 * c - 1) := fun t k => rw_zb hc.1 zC zD
  have gr : ∀ t k, gP (rwP g w t k C D) := fun t k => rw_g hc.1 zC zD (by omega)
  have sr : ∀ t k, szP (rwP g w t k C D) ≤ 2 * c - 1 := fun t k => sz_zb (by omega) (zr t k)
  refine vX2_readCross_0 hr ⟨by omega, by omega⟩ ⟨by omega, by omega⟩ ?_
  refine c_clear hr hwf (fun I1 f1 c1 => ?_)
  refine ⟨fun q => absurd q (by omega), fun _ => ⟨fun q => absurd q (by omega), fun _ => ⟨fun q => absurd q (by omega), fun _ => ⟨by omega, fun b1 e1 p1 => ⟨by omega, fun b2 e2 p2 => ?_⟩⟩⟩⟩⟩
  have q1 : cP I1 b1 (rwP g w 0 h C D) := by rw [e1]; exact f1.cp (by unfold dj; omega) (hA h (by omega) (by omega))
  have q2 : cP I1 b2 (rwP g w 1 l C D) := by rw [e2]; exact f1.cp (by unfold dj; omega) (hB l (by omega) (by omega))
  refine c_mulTo hr p1 p2 (by unfold dj; omega) (by unfold dj; omega) (gr 0 h) (gr 1 l) c1 q1 q2 (by have := sr 0 h; have := sr 1 l; omega) (fun I2 f2 c2 => ?_)
  intro b3 e3 p3 b4 e4 p4
  have F2 := f1.trans f2
  have q3 : cP I2 b3 (rwP g w 0 l C D) := by rw [e3]; exact F2.cp (by unfold dj; omega) (hA l (by omega) (by omega))
  have q4 : cP I2 b4 (rwP g w 1 h C D) := by rw [e4]; exact F2.cp (by unfold dj; omega) (hB h (by omega) (by omega))
  refine c_addProduct hr p3 p4 (by unfold dj; omega) (by unfold dj; omega) (Or.inr rfl) (mul_g (zr 0 h) (zr 1 l) (by omega)) (gr 0 l) (gr 1 h) c2 q3 q4 (by have := sr 0 l; have := sr 1 h; omega) (fun I3 f3 c3 => ?_)
  refine hQ I3 (F2.trans f3) ?_
  rw [← pP_1, pP_cr] at c3
  exact c3
theorem c_swaps {d a3 a4 : Nat} {g : Int → Int} {I : ax_H} {A B C D : Int → Int} {Q : Int → ax_H → Prop} {w a c : Int} (h34 : (a3 = 16 ∧ a4 = 21) ∨ (a3 = 21 ∧ a4 = 16)) (hT : tabs I 3 g) (hw : 0 ≤ w ∧ w ≤ 1) (hc : 1 ≤ c) (haa : 1 ≤ a) (hb : 4 * c + a ≤ 1303) (gA : gP A) (gB : gP B) (gC : gP C) (gD : gP D) (zA : zB A a) (zzB : zB B a) (zC : zB C c) (zD : zB D c) (hW : WT I) (mA : cP I (a3 + 1) A) (mB : cP I (a3 + 3) B) (mC : cP I (a4 + 1) C) (mD : cP I (a4 + 3) D)
    (h0 : ∀ I', szP (uP g w A B C D) = 0 ∧ szP (vP g w A B C D) = 0 → Rf2 17 62 I I' → WT I' → cP I' (a3 + 1) A → cP I' (a3 + 3) B → cP I' (a4 + 1) C → cP I' (a4 + 3) D → Q 0 I')
    (h1 : ∀ I', ¬ (szP (uP g w A B C D) = 0 ∧ szP (vP g w A B C D) = 0) → Rf2 17 62 I I' → WT I' → cP I' (a3 + 1) (quoP (uP g w A B C D) (gcP 1300 (uP g w A B C D) (vP g w A B C D))) → cP I' (a3 + 3) (quoP (vP g w A B C D) (gcP 1300 (uP g w A B C D) (vP g w A B C D))) → cP I' (a4 + 1) C → cP I' (a4 + 3) D → Q 1 I') : cI (d + 4) kX2_swaps [ax_r 15, ax_r 2, ax_i w, ax_r a3, ax_r a4] I Q := by
  have hF3 : isFr a3 := by rcases h34 with ⟨h, _⟩ | ⟨h, _⟩ <;> rw [h] <;> exact ⟨rfl, ⟨rfl, rfl⟩, ⟨rfl, rfl⟩⟩
  have hF4 : isFr a4 := by rcases h34 with ⟨_, h⟩ | ⟨_, h⟩ <;> rw [h] <;> exact ⟨rfl, ⟨rfl, rfl⟩, ⟨rfl, rfl⟩⟩
  have zr : ∀ t k, zB (rwP g w t k C D) (2 * c - 1) := fun t k => rw_zb hc zC zD
  have gr : ∀ t k, gP (rwP g w t k C D) := fun t k => rw_g hc zC zD (by omega)
  have gc : ∀ h l, gP (crP g w h l C D) := fun h l => cr_g hc zC zD (by omega)
  have zc : ∀ h l, zB (crP g w h l C D) (4 * c - 3) := fun h l => cr_zb hc zC zD
  have sA := sz_zb (by omega) zA
  have sB := sz_zb (by omega) zzB
  have sc := fun h l => sz_zb (by omega) (zc h l)
  have zu := u_zb (g := g) (w := w) hc zA zzB zC zD
  have zv := v_zb (g := g) (w := w) hc zA zzB zC zD
  have gu : gP (uP g w A B C D) := gP_of (fun _ => nm_mod _) zu (by omega)
  have gv : gP (vP g w A B C D) := gP_of (fun _ => nm_mod _) zv (by omega)
  refine vX2_swaps_0 isT2 hF3 hF4 ?_
  refine c_readSquares (by omega) hW gC gD zC zD ⟨hc, by omega⟩ mC mD (fun I1 f1 w1 s0 s1 s2 => ?_)
  -- the rows of a power
  have row2 : ∀ (k : Int) (J : ax_H), 0 ≤ k ∧ k ≤ 2 → Rf2 27 46 I J → WT J → cP J 27 (mulP D D) → cP J 29 (mulP C D) → cP J 31 (mulP C C) → (∀ J', Rf2 27 46 I J' → WT J' → cP J' 27 (mulP D D) → cP J' 29 (mulP C D) → cP J' 31 (mulP C C) → (∀ b P, dj b (34 + 2 * k.toNat) → dj b (41 + 2 * k.toNat) → cP J b P → cP J' b P) → cP J' (34 + 2 * k.toNat) (rwP g w 0 k C D) → cP J' (41 + 2 * k.toNat) (rwP g w 1 k C D) → RI (d + 4) kX2_swaps 9 [some (ax_r 15), some (ax_r 2), some (ax_i w), some (ax_r a3), none, some (ax_i (k + 1))] J' Q) →
      RI (d + 4) kX2_swaps 9 [some (ax_r 15), some (ax_r 2), some (ax_i w), some (ax_r a3), none, some (ax_i k)] J Q := by
    intro k J hk fJ wJ t0 t1 t2 K
    have hm1 : 34 + 2 * k.toNat ∈ tmpL := by
      have : k = 0 ∨ k = 1 ∨ k = 2 := by omega
      rcases this with rfl | rfl | rfl <;> decide
    have hm2 : 41 + 2 * k.toNat ∈ tmpL := by
      have : k = 0 ∨ k = 1 ∨ k = 2 := by omega
      rcases this with rfl | rfl | rfl <;> decide
    have hd1 : ∀ b ∈ tmpL, b = 34 + 2 * k.toNat ∨ (34 + 2 * k.toNat + 1 < b ∨ b + 1 < 34 + 2 * k.toNat) := by
      have : k = 0 ∨ k = 1 ∨ k = 2 := by omega
      rcases this with rfl | rfl | rfl <;> decide
    have hd2 : ∀ b ∈ tmpL, b = 41 + 2 * k.toNat ∨ (41 + 2 * k.toNat + 1 < b ∨ b + 1 < 41 + 2 * k.toNat) := by
      have : k = 0 ∨ k = 1 ∨ k = 2 := by omega
      rcases this with rfl | rfl | rfl <;> decide
    refine vX2_swaps_9 isT2 hF3 ⟨by omega, by omega⟩ ⟨fun q => absurd q (by omega), fun _ => ⟨by omega, fun b e hp => ?_⟩⟩
    subst e
    refine c_readRow hp (by omega) (hT.of (fJ 3 (by decide))) hw (by decide) hk (wJ _ hm1) zC zD ⟨hc, by omega⟩ t0 t1 t2 (fun J1 f1' c1' => ?_)
    intro b2 e2 hp2
    subst e2
    have w1' : WT J1 := wJ.step f1' (c1'.wf (gr 0 k)) hd1
    have F1' : Rf2 27 46 I J1 := fJ.trans (f1'.rg (by omega))
    refine c_readRow hp2 (by omega) (hT.of (F1' 3 (by decide))) hw (by decide) hk (w1' _ hm2) zC zD ⟨hc, by omega⟩ (f1'.cp (by unfold dj; omega) t0) (f1'.cp (by unfold dj; omega) t1) (f1'.cp (by unfold dj; omega) t2) (fun J2 f2' c2' => ?_)
    exact K J2 (F1'.trans (f2'.rg (by omega))) (w1'.step f2' (c2'.wf (gr 1 k)) hd2) (f2'.cp (by unfold dj; omega) (f1'.cp (by unfold dj; omega) t0)) (f2'.cp (by unfold dj; omega) (f1'.cp (by unfold dj; omega) t1)) (f2'.cp (by unfold dj; omega) (f1'.cp (by unfold dj; omega) t2)) (fun b P q1 q2 hP => f2'.cp (by unfold dj at *; omega) (f1'.cp (by unfold dj at *; omega) hP)) (f2'.cp (by unfold dj; omega) c1') c2'
  refine row2 0 I1 (by decide) (f1.mono (by decide) (by decide)) w1 s0 s1 s2 (fun I2 f2 w2 s0 s1 s2 _ a0 b0' => ?_)
  refine row2 (0 + 1) I2 (by decide) f2 w2 s0 s1 s2 (fun I3 f3 w3 s0 s1 s2 k3 a1' b1' => ?_)
  have a0 := k3 34 _ (by unfold dj; decide) (by unfold dj; decide) a0
  have b0' := k3 41 _ (by unfold dj; decide) (by unfold dj; decide) b0'
  refine row2 (0 + 1 + 1) I3 (by decide) f3 w3 s0 s1 s2 (fun I4 f4 w4 s0 s1 s2 k4 a2 b2 => ?_)
  have a0 := k4 34 _ (by unfold dj; decide) (by unfold dj; decide) a0
  have b0' := k4 41 _ (by unfold dj; decide) (by unfold dj; decide) b0'
  have a1' := k4 36 _ (by unfold dj; decide) (by unfold dj; decide) a1'
  have b1' := k4 43 _ (by unfold dj; decide) (by unfold dj; decide) b1'
  have hA : ∀ J, Rf2 47 62 I4 J → ∀ k, 0 ≤ k → k ≤ 2 → cP J (34 + 2 * k.toNat) (rwP g w 0 k C D) := fun J fJ k k0 k1 => by
    have : k = 0 ∨ k = 1 ∨ k = 2 := by omega
    rcases this with rfl | rfl | rfl
    · exact fJ.cp (by decide) a0
    · exact fJ.cp (by decide) a1'
    · exact fJ.cp (by decide) a2
  have hB : ∀ J, Rf2 47 62 I4 J → ∀ k, 0 ≤ k → k ≤ 2 → cP J (41 + 2 * k.toNat) (rwP g w 1 k C D) := fun J fJ k k0 k1 => by
    have : k = 0 ∨ k = 1 ∨ k = 2 := by omega
    rcases this with rfl | rfl | rfl
    · exact fJ.cp (by decide) b0'
    · exact fJ.cp (by decide) b1'
    · exact fJ.cp (by decide) b2
  refine vX2_swaps_9 isT2 hF3 (by decide) ⟨fun _ => ?_, fun q => absurd (by decide) q⟩
  refine c_readCross (r := 47) ⟨rfl, rfl⟩ (by decide) (by decide) (by decide) (w4 47 (by decide)) ⟨hc, by omega⟩ zC zD (hA I4 (Rf2.rf _ _ _)) (hB I4 (Rf2.rf _ _ _)) (fun I5 f5 c5 => ?_)
  have w5 : WT I5 := w4.step f5 (c5.wf (gc 2 1)) (by decide)
  have F5 : Rf2 47 62 I4 I5 := f5.rg (by decide)
  refine c_readCross (r := 49) ⟨rfl, rfl⟩ (by decide) (by decide) (by decide) (w5 49 (by decide)) ⟨hc, by omega⟩ zC zD (hA I5 F5) (hB I5 F5) (fun I6 f6 c6 => ?_)
  have w6 : WT I6 := w5.step f6 (c6.wf (gc 2 0)) (by decide)
  have F6 : Rf2 47 62 I4 I6 := F5.trans (f6.rg (by decide))
  refine c_readCross (r := 51) ⟨rfl, rfl⟩ (by decide) (by decide) (by decide) (w6 51 (by decide)) ⟨hc, by omega⟩ zC zD (hA I6 F6) (hB I6 F6) (fun I7 f7 c7 => ?_)
  have w7 : WT I7 := w6.step f7 (c7.wf (gc 1 0)) (by decide)
  have F7 : Rf2 47 62 I4 I7 := F6.trans (f7.rg (by decide))
  have pp : cP I7 47 (crP g w 2 1 C D) := f7.cp (by unfold dj; decide) (f6.cp (by unfold dj; decide) c5)
  have pq : cP I7 49 (crP g w 2 0 C D) := f7.cp (by unfold dj; decide) c6
  have G7 : Rf2 27 62 I I7 := (f4.mono (by decide) (by decide)).trans (F7.mono (by decide) (by decide))
  refine c_clear isPo53 (w7 53 (by decide)) (fun I8 f8 c8 => ?_)
  have w8 : WT I8 := w7.step f8 (c8.wf Z0_g) (by decide)
  have G8 : Rf2 27 62 I I8 := G7.trans (f8.rg (by decide))
  refine c_addProduct isPo53 (b := 49) ⟨rfl, rfl⟩ hF3.2.1 (by unfold dj; decide) (by unfold dj; omega) (Or.inr rfl) Z0_g (gc 2 0) gA c8 (f8.cp (by unfold dj; decide) pq) (G8.cp (by omega) mA) (by have := sc 2 0; omega) (fun I9 f9 c9 => ?_)
  have g9 := pP_g (P := Z0) (sg := -1) (N := 4 * c - 4 + a) (by omega) ((Z0_K ▸ Kp0_zb : zB Z0 0).mono (by omega)) (zc 2 0) zA (by omega)
  have w9 : WT I9 := w8.step f9 (c9.wf g9.1) (by decide)
  have G9 : Rf2 27 62 I I9 := G8.trans (f9.rg (by decide))
  refine c_addProduct isPo53 (b := 51) ⟨rfl, rfl⟩ hF3.2.2 (by unfold dj; decide) (by unfold dj; omega) (Or.inr rfl) g9.1 (gc 1 0) gB c9 (f9.cp (by unfold dj; decide) (f8.cp (by unfold dj; decide) c7)) (G9.cp (by omega) mB) (by have := sc 1 0; omega) (fun I10 f10 c10 => ?_)
  rw [pP_u] at c10
  have cu : cP I10 53 (uP g w A B C D) := c10
  have w10 : WT I10 := w9.step f10 (cu.wf gu) (by decide)
  have G10 : Rf2 27 62 I I10 := G9.trans (f10.rg (by decide))
  refine c_clear isPo55 (w10 55 (by decide)) (fun I11 f11 c11 => ?_)
  have w11 : WT I11 := w10.step f11 (c11.wf Z0_g) (by decide)
  have G11 : Rf2 27 62 I I11 := G10.trans (f11.rg (by decide))
  have U11 : ∀ b P, dj 53 b → dj 55 b → cP I7 b P → cP I11 b P := fun b P q1 q2 hP => f11.cp q2 (f10.cp q1 (f9.cp q1 (f8.cp q1 hP)))
  refine c_addProduct isPo55 (b := 47) ⟨rfl, rfl⟩ hF3.2.1 (by unfold dj; decide) (by unfold dj; omega) (Or.inl rfl) Z0_g (gc 2 1) gA c11 (U11 47 _ (by unfold dj; decide) (by unfold dj; decide) pp) (G11.cp (by omega) mA) (by have := sc 2 1; omega) (fun I12 f12 c12 => ?_)
  have g12 := pP_g (P := Z0) (sg := 1) (N := 4 * c - 4 + a) (by omega) ((Z0_K ▸ Kp0_zb : zB Z0 0).mono (by omega)) (zc 2 1) zA (by omega)
  have w12 : WT I12 := w11.step f12 (c12.wf g12.1) (by decide)
  have G12 : Rf2 27 62 I I12 := G11.trans (f12.rg (by decide))
  refine c_addProduct isPo55 (b := 49) ⟨rfl, rfl⟩ hF3.2.2 (by unfold dj; decide) (by unfold dj; omega) (Or.inl rfl) g12.1 (gc 2 0) gB c12 (f12.cp (by unfold dj; decide) (U11 49 _ (by unfold dj; decide) (by unfold dj; decide) pq)) (G12.cp (by omega) mB) (by have := sc 2 0; omega) (fun I13 f13 c13 => ?_)
  rw [pP_v] at c13
  have cvv : cP I13 55 (vP g w A B C D) := c13
  have w13 : WT I13 := w12.step f13 (cvv.wf gv) (by decide)
  have G13 : Rf2 27 62 I I13 := G12.trans (f13.rg (by decide))
  have cuu : cP I13 53 (uP g w A B C D) := f13.cp (by unfold dj; decide) (f12.cp (by unfold dj; decide) (f11.cp (by unfold dj; decide) cu))
  have bu := sz_bd (uP g w A B C D)
  have bv := sz_bd (vP g w A B C D)
  have go : ¬ (szP (uP g w A B C D) = 0 ∧ szP (vP g w A B C D) = 0) → cA (d + 3) kX2_commonFactor [ax_r 15] I13 (fun q16 I15 =>
      isPo q16 ∧ cV (d + 3) kX7_divide [ax_r 53, ax_r q16, ax_r (a3 + 1)] I15 (fun I18 =>
      cV (d + 3) kX7_divide [ax_r 55, ax_r q16, ax_r (a3 + 3)] I18 (fun I19 =>
      Q 1 I19))) := by
    intro hnz
    have gG := gcP_g 1300 _ _ gu gv bv.2 (by omega)
    refine c_gcd gu gv cuu cvv (w13 57 (by decide)) (w13 59 (by decide)) (w13 61 (by decide)) (fun q J hq fJ j57 j59 j61 cJ => ?_)
    have hqp : isPo q := by rcases hq with h | h <;> rw [h] <;> first | exact isPo57 | exact isPo59
    have wJ : WT J := fun b hb => by
      simp only [tmpL, List.mem_cons, List.not_mem_nil, or_false] at hb
      by_cases q1 : b < 57
      · exact (w13 b (by simp only [tmpL, List.mem_cons, List.not_mem_nil, or_false]; exact hb)).of (fJ b (by omega)) (fJ (b + 1) (by omega))
      · have : b = 57 ∨ b = 59 ∨ b = 61 := by omega
        rcases this with h | h | h <;> rw [h]
        · exact j57
        · exact j59
        · exact j61
    have GJ : Rf2 27 62 I J := G13.trans (fun b hb => fJ b (by omega))
    refine ⟨hqp, ?_⟩
    refine c_divide isPo53 hqp hF3.2.1 (by unfold dj; omega) (by unfold dj; omega) (by unfold dj; omega) gu gG.1 gG.2 (cuu.of (fJ 53 (by decide)) (fJ 54 (by decide))) cJ ((GJ.cp (by omega) mA).wf gA) (fun J1 e1 r1 q1 => ?_)
    have rg := rem_g gu gG.1 gG.2
    have rv := rem_g gv gG.1 gG.2
    have qu := quo_g gu gG.1 gG.2
    have wJ1 : WT J1 := fun b hb => by
      by_cases q1 : b = 53
      · rw [q1]; exact r1.wf rg.1
      · have hb2 := hb
        simp only [tmpL, List.mem_cons, List.not_mem_nil, or_false] at hb2
        exact (wJ b hb).of (e1 b (by omega) (by omega) (by omega) (by omega)) (e1 (b + 1) (by omega) (by omega) (by omega) (by omega))
    have G1 : Rf2 17 62 I J1 := fun b hb => by rw [e1 b (by omega) (by omega) (by omega) (by omega), GJ b (by omega)]
    refine c_divide isPo55 hqp hF3.2.2 (by unfold dj; omega) (by unfold dj; omega) (by unfold dj; omega) gv gG.1 gG.2 (e1.cp (by unfold dj; omega) (by unfold dj; omega) (cvv.of (fJ 55 (by decide)) (fJ 56 (by decide)))) (e1.cp (by unfold dj; omega) (by unfold dj; omega) cJ) ((e1.cp (by unfold dj; omega) (by unfold dj; omega) (GJ.cp (by omega) mB)).wf gB) (fun J2 e2 r2 q2 => ?_)
    have wJ2 : WT J2 := fun b hb => by
      by_cases q1 : b = 55
      · rw [q1]; exact r2.wf rv.1
      · have hb2 := hb
        simp only [tmpL, List.mem_cons, List.not_mem_nil, or_false] at hb2
        exact (wJ1 b hb).of (e2 b (by omega) (by omega) (by omega) (by omega)) (e2 (b + 1) (by omega) (by omega) (by omega) (by omega))
    have far : ∀ b P, (b = a4 + 1 ∨ b = a4 + 3) → cP I b P → cP J2 b P := fun b P hb hP => e2.cp (by unfold dj; omega) (by unfold dj; omega) (e1.cp (by unfold dj; omega) (by unfold dj; omega) (GJ.cp (by omega) hP))
    exact h1 J2 hnz (fun b hb => by rw [e2 b (by omega) (by omega) (by omega) (by omega), G1 b hb]) wJ2 (e2.cp (by unfold dj; omega) (by unfold dj; omega) q1) q2 (far _ _ (Or.inl rfl) mC) (far _ _ (Or.inr rfl) mD)
  refine c_isZero isPo53 cuu (fun q => b0 (go (fun r => q r.1))) (fun q => b1 ?_)
  refine c_isZero isPo55 cvv (fun r => b0 (go (fun s => r s.2))) (fun r => b1 ?_)
  exact h0 I13 ⟨q, r⟩ (G13.mono (by decide) (by decide)) w13 (G13.cp (by omega) mA) (G13.cp (by omega) mB) (G13.cp (by omega) mC) (G13.cp (by omega) mD)
