/-! degrees on both sides -/
def swA (g : Int → Int) (w : Int) (A B C D : Int → Int) : Int → Int := quoP (uP g w A B C D) (gcP 1300 (uP g w A B C D) (vP g w A B C D))
def swB (g : Int → Int) (w : Int) (A B C D : Int → Int) : Int → Int := quoP (vP g w A B C D) (gcP 1300 (uP g w A B C D) (vP g w A B C D))
def fdg (A B : Int → Int) : Int := if szP A = 0 ∨ szP B = 0 then 0 else (if szP A < szP B then szP B else szP A) - 1
def dgn (g : Int → Int) (which : Int) : Nat → (Int → Int) → (Int → Int) → (Int → Int) → (Int → Int) → Int
  | 0, A, B, C, D => if which = 0 then fdg A B else fdg C D
  | n + 1, A, B, C, D =>
    if szP (uP g 0 A B C D) = 0 ∧ szP (vP g 0 A B C D) = 0 then -7
    else if szP (uP g 1 C D (swA g 0 A B C D) (swB g 0 A B C D)) = 0 ∧ szP (vP g 1 C D (swA g 0 A B C D) (swB g 0 A B C D)) = 0 then -7
    else dgn g which n (swA g 0 A B C D) (swB g 0 A B C D) (swA g 1 C D (swA g 0 A B C D) (swB g 0 A B C D)) (swB g 1 C D (swA g 0 A B C D) (swB g 0 A B C D))
theorem fdg_bd (A B : Int → Int) : 0 ≤ fdg A B ∧ fdg A B ≤ 1299 := by
  have := sz_bd A
  have := sz_bd B
  unfold fdg
  split
  · omega
  · split <;> omega
theorem dgn_bd (g : Int → Int) (which : Int) : ∀ (n : Nat) (A B C D : Int → Int), -7 ≤ dgn g which n A B C D ∧ dgn g which n A B C D ≤ 1299
  | 0, A, B, C, D => by
    have := fdg_bd A B
    have := fdg_bd C D
    unfold dgn
    split <;> omega
  | n + 1, A, B, C, D => by
    unfold dgn
    split
    · omega
    · split
      · omega
      · exact dgn_bd g which n _ _ _ _
def bok : Nat → Int → Int → Prop
  | 0, _, _ => True
  | n + 1, a, c => 4 * c + a ≤ 1303 ∧ 4 * (4 * c - 4 + a) + c ≤ 1303 ∧ bok n (4 * c - 4 + a) (4 * (4 * c - 4 + a) - 4 + c)
theorem bok3 : ∀ n : Nat, n ≤ 3 → bok n 2 1
  | 0, _ => trivial
  | 1, _ => by refine ⟨by decide, by decide, trivial⟩
  | 2, _ => by refine ⟨by decide, by decide, by decide, by decide, trivial⟩
  | 3, _ => by refine ⟨by decide, by decide, by decide, by decide, by decide, by decide, trivial⟩
  | n + 4, h => by omega
/-- what a swap leaves -/
theorem sw_ok {g : Int → Int} {w a c : Int} {A B C D : Int → Int} (hc : 1 ≤ c) (haa : 1 ≤ a) (hb : 4 * c + a ≤ 1303) (zA : zB A a) (zzB : zB B a) (zC : zB C c) (zD : zB D c) (hnz : ¬ (szP (uP g w A B C D) = 0 ∧ szP (vP g w A B C D) = 0)) :
    gP (swA g w A B C D) ∧ gP (swB g w A B C D) ∧ zB (swA g w A B C D) (4 * c - 4 + a) ∧ zB (swB g w A B C D) (4 * c - 4 + a) := by
  have zu := u_zb (g := g) (w := w) hc zA zzB zC zD
  have zv := v_zb (g := g) (w := w) hc zA zzB zC zD
  have gu : gP (uP g w A B C D) := gP_of (fun _ => nm_mod _) zu (by omega)
  have gv : gP (vP g w A B C D) := gP_of (fun _ => nm_mod _) zv (by omega)
  have su := sz_zb (by omega) zu
  have sv := sz_zb (by omega) zv
  have bu := sz_bd (uP g w A B C D)
  have bv := sz_bd (vP g w A B C D)
  have gG := gcP_g 1300 _ _ gu gv bv.2 (by omega)
  have qu := quo_g gu gG.1 gG.2
  have qv := quo_g gv gG.1 gG.2
  exact ⟨qu.1, qv.1, qu.1.zb.mono (by have := qu.2; unfold swA at *; omega), qv.1.zb.mono (by have := qv.2; unfold swB at *; omega)⟩
def PA (I : ax_H) : Prop := WT I ∧ wf I 17 ∧ wf I 19 ∧ wf I 22 ∧ wf I 24
theorem c_ofDeg {d a0 : Nat} {I : ax_H} {A B : Int → Int} {Q : Int → ax_H → Prop} (h : a0 = 16 ∨ a0 = 21) (mA : cP I (a0 + 1) A) (mB : cP I (a0 + 3) B) (hQ : Q (fdg A B) I) : cI (d + 1) kX3_ofDegree [ax_r a0] I Q := by
  have hF : isFr a0 := by rcases h with h | h <;> rw [h] <;> exact ⟨rfl, ⟨rfl, rfl⟩, ⟨rfl, rfl⟩⟩
  have bA := sz_bd A
  have bB := sz_bd B
  unfold fdg at hQ
  refine vX3_ofDegree_0 hF ?_
  refine c_isZero hF.2.1 mA (fun q => n0 ?_) (fun q => n1 ?_)
  · refine c_isZero hF.2.2 mB (fun r => ⟨by decide, fun _ => ?_, fun c => absurd rfl c⟩) (fun r => ⟨by decide, fun c => absurd c (by decide), fun _ => ?_⟩)
    · rw [if_neg (by omega)] at hQ
      rw [mA.1, mB.1]
      exact j_max ⟨by omega, by omega⟩ ⟨by omega, by omega⟩ hQ
    · rw [if_pos (Or.inr r)] at hQ; exact hQ
  · rw [if_pos (Or.inl q)] at hQ; exact hQ
theorem c_deg46 {d : Nat} {g : Int → Int} {Q : Int → ax_H → Prop} {which : Int} {N : Nat} (hw : 0 ≤ which ∧ which ≤ 1) (hN : N ≤ 3) : ∀ (m s : Nat) (A B C D : Int → Int) (a c : Int) (I : ax_H), s + m = N → bok m a c → 1 ≤ a → 1 ≤ c → gP A → gP B → gP C → gP D → zB A a → zB B a → zB C c → zB D c → WT I → tabs I 3 g → cP I 17 A → cP I 19 B → cP I 22 C → cP I 24 D →
    (∀ I', Rf2 17 62 I I' → PA I' → Q (dgn g which m A B C D) I') →
    RI (d + 5) kX2_behindSteps 46 [some (ax_r 15), some (ax_r 2), some (ax_i (N : Int)), none, some (ax_i which), some (ax_i (s : Int))] I Q := by
  intro m
  induction m with
  | zero =>
    intro s A B C D a c I hs _ _ _ gA gB gC gD _ _ _ _ hW hT mA mB mC mD hQ
    have fin := hQ I (Rf2.rf _ _ _) ⟨hW, mA.wf gA, mB.wf gB, mC.wf gC, mD.wf gD⟩
    unfold dgn at fin
    refine vX2_behindSteps_46 isT2 ⟨by omega, by omega⟩ ⟨by omega, by omega⟩ ⟨by omega, by omega⟩ ⟨fun _ => ⟨fun q => ?_, fun q => ?_⟩, fun q => absurd (by omega) q⟩
    · rw [if_neg q] at fin
      exact c_ofDeg (Or.inr rfl) mC mD fin
    · rw [if_pos q] at fin
      exact c_ofDeg (Or.inl rfl) mA mB fin
  | succ m ih =>
    intro s A B C D a c I hs hb ha hc gA gB gC gD zA zzB zC zD hW hT mA mB mC mD hQ
    obtain ⟨hb1, hb2, hb3⟩ := hb
    unfold dgn at hQ
    refine vX2_behindSteps_46 isT2 ⟨by omega, by omega⟩ ⟨by omega, by omega⟩ ⟨by omega, by omega⟩ ⟨fun q => absurd q (by omega), fun _ => ?_⟩
    refine c_swaps (a3 := 16) (a4 := 21) (Or.inl ⟨rfl, rfl⟩) hT (by decide) hc ha hb1 gA gB gC gD zA zzB zC zD hW mA mB mC mD (fun I1 l f1 w1 p1 p2 p3 p4 => b0 ?_) (fun I1 l f1 w1 p1 p2 p3 p4 => b1 ?_)
    · have fin := hQ I1 f1 ⟨w1, p1.wf gA, p2.wf gB, p3.wf gC, p4.wf gD⟩
      rw [if_pos l] at fin; exact fin
    · have so := sw_ok hc ha hb1 zA zzB zC zD l
      refine c_swaps (a3 := 21) (a4 := 16) (a := c) (c := 4 * c - 4 + a) (Or.inr ⟨rfl, rfl⟩) (hT.of (f1 3 (by decide))) (by decide) (by omega) hc hb2 gC gD so.1 so.2.1 zC zD so.2.2.1 so.2.2.2 w1 p3 p4 p1 p2 (fun I2 l2 f2 w2 r1 r2 r3 r4 => n0 ?_) (fun I2 l2 f2 w2 r1 r2 r3 r4 => n1 ?_)
      · have fin := hQ I2 (f1.trans f2) ⟨w2, r3.wf so.1, r4.wf so.2.1, r1.wf gC, r2.wf gD⟩
        rw [if_neg l, if_pos l2] at fin; exact fin
      · have so2 := sw_ok (g := g) (w := 1) (show (1 : Int) ≤ 4 * c - 4 + a by omega) hc hb2 zC zD so.2.2.1 so.2.2.2 l2
        rw [show (s : Int) + 1 = ((s + 1 : Nat) : Int) by omega]
        refine ih (s + 1) _ _ _ _ _ _ I2 (by omega) hb3 (by omega) (by omega) so.1 so.2.1 so2.1 so2.2.1 so.2.2.1 so.2.2.2 so2.2.2.1 so2.2.2.2 w2 (hT.of (by rw [f2 3 (by decide), f1 3 (by decide)])) r3 r4 r1 r2 (fun I' f' p' => ?_)
        have fin := hQ I' ((f1.trans f2).trans f') p'
        rw [if_neg l, if_neg l2] at fin; exact fin
def r_degree (g : Int → Int) (n y which : Int) : Int := if (0 ≤ which ∧ which ≤ 1) ∧ nm y then (if 0 ≤ n ∧ n ≤ 3 then dgn g which n.toNat Tp (Kp 1) (Kp y) (Kp 1) else -2) else -1
theorem r_degree_R (g : Int → Int) (n y which : Int) : ax_R (r_degree g n y which) := by
  unfold r_degree
  split
  · split
    · have := dgn_bd g which n.toNat Tp (Kp 1) (Kp y) (Kp 1); exact ⟨by omega, by omega⟩
    · decide
  · decide
theorem nm1 : nm 1 := ⟨by decide, by decide⟩
theorem Kp_zb1 (c : Int) : zB (Kp c) 1 := fun i hi => by unfold Kp; rw [if_neg (by omega)]
theorem Tp_zb2 : zB Tp 2 := fun i hi => by unfold Tp; rw [if_neg (by omega)]
theorem a_degree {d : Nat} {g : Int → Int} {I : ax_H} {Q : Int → ax_H → Prop} {n y which : Int} (hn : ax_R n) (hy : ax_R y) (hw : ax_R which) (hT : tabs I 3 g) (hP : PA I) (hQ : ∀ I', Rf2 17 62 I I' → PA I' → Q (r_degree g n y which) I') : cI (d + 6) kX10_degree [ax_r 0, ax_i n, ax_i y, ax_i which] I Q := by
  have h0 := hQ I (Rf2.rf _ _ _) hP
  unfold r_degree at hQ h0
  refine vX10_degree_0 hn ?_
  refine c_isAxis hw (fun h1 => b1 ?_) (fun h1 => b0 ?_)
  · refine c_isNumber hy (fun h2 => n1 ⟨fun c => ?_, fun c => ⟨fun c2 => ?_, fun c2 => ?_⟩⟩) (fun h2 => n0 ?_)
    · rw [if_pos ⟨h1, h2⟩, if_neg (by omega)] at h0; exact h0
    · simp only [if_pos (show (0 ≤ which ∧ which ≤ 1) ∧ nm y from ⟨h1, h2⟩), if_pos (show 0 ≤ n ∧ n ≤ 3 by omega)] at hQ
      refine vX2_behindSteps_0 isT2 ?_
      refine c_unknown (a := 17) ⟨rfl, rfl⟩ hP.2.1 (fun I1 f1 c1 => ?_)
      refine c_number (a := 19) ⟨rfl, rfl⟩ (f1.wf (by unfold dj; decide) hP.2.2.1) nm1 (fun I2 f2 c2 => ?_)
      refine c_number (a := 22) ⟨rfl, rfl⟩ (f2.wf (by unfold dj; decide) (f1.wf (by unfold dj; decide) hP.2.2.2.1)) h2 (fun I3 f3 c3 => ?_)
      refine c_number (a := 24) ⟨rfl, rfl⟩ (f3.wf (by unfold dj; decide) (f2.wf (by unfold dj; decide) (f1.wf (by unfold dj; decide) hP.2.2.2.2))) nm1 (fun I4 f4 c4 => ?_)
      have F : Rf2 17 25 I I4 := ((((f1.rg (by decide)).trans (f2.rg (by decide))).trans (f3.rg (by decide))).trans (f4.rg (by decide)))
      have W : WT I4 := fun b hb => by
        have hb2 := hb
        simp only [tmpL, List.mem_cons, List.not_mem_nil, or_false] at hb2
        exact (hP.1 b hb).of (F b (by omega)) (F (b + 1) (by omega))
      have := c_deg46 (d := d) (g := g) (Q := Q) (which := which) (N := n.toNat) h1 (by omega) n.toNat 0 Tp (Kp 1) (Kp y) (Kp 1) 2 1 I4 (by omega) (bok3 _ (by omega)) (by omega) (by omega) Tp_g (Kp_g nm1) (Kp_g h2) (Kp_g nm1) Tp_zb2 ((Kp_zb1 1).mono (by omega)) (Kp_zb1 y) (Kp_zb1 1) W (hT.of (F 3 (by decide))) (f4.cp (by unfold dj; decide) (f3.cp (by unfold dj; decide) (f2.cp (by unfold dj; decide) c1))) (f4.cp (by unfold dj; decide) (f3.cp (by unfold dj; decide) c2)) (f4.cp (by unfold dj; decide) c3) c4 (fun I' f' p' => hQ I' ((F.mono (by decide) (by decide)).trans f') p')
      rw [show ((n.toNat : Nat) : Int) = n by omega] at this
      exact this
    · rw [if_pos ⟨h1, h2⟩, if_neg (by omega)] at h0; exact h0
    · rw [if_neg (fun q => h2 q.2)] at h0; exact h0
  · rw [if_neg (fun q => h1 q.1)] at h0; exact h0
/-! the reference's -/
theorem m_deg87 {d : Nat} {g : Int → Int} {Q : Int → ax_H → Prop} {which : Int} {N : Nat} (hg : gd g) (hw : 0 ≤ which ∧ which ≤ 1) (hN : N ≤ 3) : ∀ (m s : Nat) (A B C D : Int → Int) (a c : Int) (I : ax_H), s + m = N → bok m a c → 1 ≤ a → 1 ≤ c → gP A → gP B → gP C → gP D → zB A a → zB B a → zB C c → zB D c → I 86 = g → mP I 93 A → mP I 94 B → mP I 95 C → mP I 96 D →
    (∀ I', Yf I I' → Q (dgn g which m A B C D) I') →
    RI (d + 4) kX11_degree 87 [some (ax_r 85), some (ax_i (N : Int)), none, some (ax_i which), some (ax_i (s : Int)), none] I Q := by
  intro m
  induction m with
  | zero =>
    intro s A B C D a c I hs _ _ _ gA gB gC gD _ _ _ _ h6 mA mB mC mD hQ
    have fin := hQ I (fun _ _ => rfl)
    unfold dgn at fin
    have bA := sz_bd A
    have bB := sz_bd B
    have bC := sz_bd C
    have bD := sz_bd D
    refine vX11_degree_87 ⟨by omega, by omega⟩ ⟨by omega, by omega⟩ ⟨by omega, by omega⟩ ⟨fun _ => ⟨fun q => ?_, fun q => ?_⟩, fun q => absurd (by omega) q⟩
    · rw [if_neg q] at fin
      unfold fdg at fin
      rw [mC.1, mD.1]
      refine ⟨fun r => ?_, fun r => ⟨fun r2 => ⟨fun r3 => ?_, fun r3 => ?_⟩, fun r2 => ?_⟩⟩
      · rw [if_pos (by omega)] at fin; exact fin
      · rw [if_neg (by omega)] at fin
        rw [show szP D - 1 = (if szP C < szP D then szP D else szP C) - 1 by split <;> omega]; exact fin
      · rw [if_neg (by omega)] at fin
        rw [show szP C - 1 = (if szP C < szP D then szP D else szP C) - 1 by split <;> omega]; exact fin
      · rw [if_pos (by omega)] at fin; exact fin
    · rw [if_pos q] at fin
      unfold fdg at fin
      rw [mA.1, mB.1]
      refine ⟨fun r => ?_, fun r => ⟨fun r2 => ⟨fun r3 => ?_, fun r3 => ?_⟩, fun r2 => ?_⟩⟩
      · rw [if_pos (by omega)] at fin; exact fin
      · rw [if_neg (by omega)] at fin
        rw [show szP B - 1 = (if szP A < szP B then szP B else szP A) - 1 by split <;> omega]; exact fin
      · rw [if_neg (by omega)] at fin
        rw [show szP A - 1 = (if szP A < szP B then szP B else szP A) - 1 by split <;> omega]; exact fin
      · rw [if_pos (by omega)] at fin; exact fin
  | succ m ih =>
    intro s A B C D a c I hs hb ha hc gA gB gC gD zA zzB zC zD h6 mA mB mC mD hQ
    obtain ⟨hb1, hb2, hb3⟩ := hb
    unfold dgn at hQ
    refine vX11_degree_87 ⟨by omega, by omega⟩ ⟨by omega, by omega⟩ ⟨by omega, by omega⟩ ⟨fun q => absurd q (by omega), fun _ => ?_⟩
    refine m_isSwapped (Or.inl ⟨rfl, rfl, rfl, rfl⟩) hg h6 (by decide) hc ha hb1 gA gB gC gD zA zzB zC zD mA mB mC mD (fun I1 l f1 => b0 ?_) (fun I1 l f1 p1 p2 p3 p4 => b1 ?_)
    · have fin := hQ I1 f1
      rw [if_pos l] at fin; exact fin
    · have so := sw_ok hc ha hb1 zA zzB zC zD l
      refine m_isSwapped (a := c) (c := 4 * c - 4 + a) (Or.inr ⟨rfl, rfl, rfl, rfl⟩) hg (by rw [f1 86 (by decide), h6]) (by decide) (by omega) hc hb2 gC gD so.1 so.2.1 zC zD so.2.2.1 so.2.2.2 p3 p4 p1 p2 (fun I2 l2 f2 => n0 ?_) (fun I2 l2 f2 r1 r2 r3 r4 => n1 ?_)
      · have fin := hQ I2 (fun b hb => by rw [f2 b hb, f1 b hb])
        rw [if_neg l, if_pos l2] at fin; exact fin
      · have so2 := sw_ok (g := g) (w := 1) (show (1 : Int) ≤ 4 * c - 4 + a by omega) hc hb2 zC zD so.2.2.1 so.2.2.2 l2
        rw [show (s : Int) + 1 = ((s + 1 : Nat) : Int) by omega]
        refine ih (s + 1) _ _ _ _ _ _ I2 (by omega) hb3 (by omega) (by omega) so.1 so.2.1 so2.1 so2.2.1 so.2.2.1 so.2.2.2 so2.2.2.1 so2.2.2.2 (by rw [f2 86 (by decide), f1 86 (by decide), h6]) r3 r4 r1 r2 (fun I' f' => ?_)
        have fin := hQ I' (fun b hb => by rw [f' b hb, f2 b hb, f1 b hb])
        rw [if_neg l, if_neg l2] at fin; exact fin
theorem z_degree {d : Nat} {I : ax_H} {Q : Int → ax_H → Prop} {n y which : Int} (hn : ax_R n) (hy : ax_R y) (hw : ax_R which) (hg : gd (I 86)) (hQ : ∀ I', Yf I I' → Q (r_degree (I 86) n y which) I') : cI (d + 4) kX11_degree [ax_r 85, ax_i n, ax_i y, ax_i which] I Q := by
  have h0 := hQ I (fun _ _ => rfl)
  unfold r_degree at hQ h0
  refine vX11_degree_0 hn hy hw ?_
  refine m_in (R8_of hw) (by decide) (by decide) (fun h1 => b1 ?_) (fun h1 => b0 ?_)
  · refine m_in (R8_of hy) (by decide) (by decide) (fun h2 => n1 ?_) (fun h2 => n0 ?_)
    · have h2' : nm y := by unfold nm; omega
      refine m_in (R8_of hn) (by decide) (by decide) (fun h3 => n1 ?_) (fun h3 => n0 ?_)
      · simp only [if_pos (show (0 ≤ which ∧ which ≤ 1) ∧ nm y from ⟨h1, h2'⟩), if_pos h3] at hQ
        have w0 : ∀ b, b ≠ 93 → (ax_st (ax_st (ax_st I 93 0 1) 93 1 0) 93 2 1) b = I b := fun b hb => by rw [st_cell hb, st_cell hb, st_cell hb]
        have mT : mP (ax_st (ax_st (ax_st I 93 0 1) 93 1 0) 93 2 1) 93 Tp := by
          refine ⟨?_, fun i i0 i1 => ?_⟩
          · rw [st_ne (Or.inr (by decide)), st_ne (Or.inr (by decide)), st_same, Tp_sz]; rfl
          · rw [Tp_sz] at i1
            have : i = 0 ∨ i = 1 := by omega
            rcases this with rfl | rfl
            · rw [st_ne (Or.inr (by decide)), show (0 : Int) + 1 = 1 from rfl, st_same]; rfl
            · rw [show (1 : Int) + 1 = 2 from rfl, st_same]; rfl
        refine m_constant (a := 94) rfl nm1 (fun I2 f2 c2 => ?_)
        refine m_constant (a := 95) rfl h2' (fun I3 f3 c3 => ?_)
        refine m_constant (a := 96) rfl nm1 (fun I4 f4 c4 => ?_)
        have F : ∀ b, (b < 93 ∨ 111 < b) → I4 b = I b := fun b hb => by rw [f4 b (by omega), f3 b (by omega), f2 b (by omega), w0 b (by omega)]
        have := m_deg87 (d := d) (g := I 86) (Q := Q) (which := which) (N := n.toNat) hg h1 (by omega) n.toNat 0 Tp (Kp 1) (Kp y) (Kp 1) 2 1 I4 (by omega) (bok3 _ (by omega)) (by omega) (by omega) Tp_g (Kp_g nm1) (Kp_g h2') (Kp_g nm1) Tp_zb2 ((Kp_zb1 1).mono (by omega)) (Kp_zb1 y) (Kp_zb1 1) (F 86 (by decide)) (f4.mp (by decide) (f3.mp (by decide) (f2.mp (by decide) mT))) (f4.mp (by decide) (f3.mp (by decide) c2)) (f4.mp (by decide) c3) c4 (fun I' f' => hQ I' (fun b hb => by rw [f' b hb, F b hb]))
        rw [show ((n.toNat : Nat) : Int) = n by omega] at this
        exact this
      · rw [if_pos ⟨h1, h2'⟩, if_neg h3] at h0; exact h0
    · rw [if_neg (fun q => h2 (by have := q.2; unfold nm at this; omega))] at h0; exact h0
  · rw [if_neg (fun q => h1 q.1)] at h0; exact h0
