/-! swaps of fractions of polynomials: what they are -/
def S0p (C D : Int → Int) (o : Int) : Int → Int := if o = 0 then mulP D D else if o = 1 then mulP C D else mulP C C
/-- the row of power k of a table at the fraction C by D -/
def rwP (g : Int → Int) (w t k : Int) (C D : Int → Int) : Int → Int := sP 1 (sP 1 (sP 1 (Kp 0) (nu g w t k 0) (mulP D D)) (nu g w t k 1) (mulP C D)) (nu g w t k 2) (mulP C C)
def crP (g : Int → Int) (w h l : Int) (C D : Int → Int) : Int → Int := sP 1 (mulP (rwP g w 0 h C D) (rwP g w 1 l C D)) 30 (mulP (rwP g w 0 l C D) (rwP g w 1 h C D))
def uP (g : Int → Int) (w : Int) (A B C D : Int → Int) : Int → Int := sP 30 (mulP (crP g w 2 0 C D) A) 30 (mulP (crP g w 1 0 C D) B)
def vP (g : Int → Int) (w : Int) (A B C D : Int → Int) : Int → Int := sP 1 (mulP (crP g w 2 1 C D) A) 1 (mulP (crP g w 2 0 C D) B)
theorem Kp0_zb : zB (Kp 0) 0 := fun i _ => by unfold Kp; split <;> rfl
theorem zB.max {P : Int → Int} {N M : Int} (h : zB P N) (hNM : N ≤ M) : zB P M := h.mono hNM
theorem sP_g {P R : Int → Int} {x y N : Int} (hP : zB P N) (hR : zB R N) (hN : N ≤ 1300) : gP (sP x P y R) := gP_of (fun i => nm_mod _) (sP_zb hP hR (Int.le_refl _) (Int.le_refl _)) hN
theorem mul_g {A B : Int → Int} {p q : Int} (hA : zB A p) (hB : zB B q) (h : p + q ≤ 1301) : gP (mulP A B) := gP_of (fun i => nm_mod _) (mul_zb hA hB) (by omega)
theorem rw_zb {g : Int → Int} {w t k c : Int} {C D : Int → Int} (hc : 1 ≤ c) (hC : zB C c) (hD : zB D c) : zB (rwP g w t k C D) (2 * c - 1) := by
  have h1 : zB (mulP D D) (2 * c - 1) := (mul_zb hD hD).mono (by omega)
  have h2 : zB (mulP C D) (2 * c - 1) := (mul_zb hC hD).mono (by omega)
  have h3 : zB (mulP C C) (2 * c - 1) := (mul_zb hC hC).mono (by omega)
  exact sP_zb (sP_zb (sP_zb (Kp0_zb.mono (show (0 : Int) ≤ 2 * c - 1 by omega)) h1 (Int.le_refl _) (Int.le_refl _)) h2 (Int.le_refl _) (Int.le_refl _)) h3 (Int.le_refl _) (Int.le_refl _)
theorem rw_g {g : Int → Int} {w t k c : Int} {C D : Int → Int} (hc : 1 ≤ c) (hC : zB C c) (hD : zB D c) (h : 2 * c - 1 ≤ 1300) : gP (rwP g w t k C D) := gP_of (fun i => nm_mod _) (rw_zb hc hC hD) h
theorem cr_zb {g : Int → Int} {w h l c : Int} {C D : Int → Int} (hc : 1 ≤ c) (hC : zB C c) (hD : zB D c) : zB (crP g w h l C D) (4 * c - 3) := by
  have r : ∀ t k, zB (rwP g w t k C D) (2 * c - 1) := fun t k => rw_zb hc hC hD
  exact sP_zb ((mul_zb (r 0 h) (r 1 l)).mono (by omega)) ((mul_zb (r 0 l) (r 1 h)).mono (by omega)) (Int.le_refl _) (Int.le_refl _)
theorem cr_g {g : Int → Int} {w h l c : Int} {C D : Int → Int} (hc : 1 ≤ c) (hC : zB C c) (hD : zB D c) (hb : 4 * c - 3 ≤ 1300) : gP (crP g w h l C D) := gP_of (fun i => nm_mod _) (cr_zb hc hC hD) hb
theorem u_zb {g : Int → Int} {w a c : Int} {A B C D : Int → Int} (hc : 1 ≤ c) (hA : zB A a) (hB : zB B a) (hC : zB C c) (hD : zB D c) : zB (uP g w A B C D) (4 * c - 4 + a) := by
  exact sP_zb ((mul_zb (cr_zb hc hC hD) hA).mono (by omega)) ((mul_zb (cr_zb hc hC hD) hB).mono (by omega)) (Int.le_refl _) (Int.le_refl _)
theorem v_zb {g : Int → Int} {w a c : Int} {A B C D : Int → Int} (hc : 1 ≤ c) (hA : zB A a) (hB : zB B a) (hC : zB C c) (hD : zB D c) : zB (vP g w A B C D) (4 * c - 4 + a) := by
  exact sP_zb ((mul_zb (cr_zb hc hC hD) hA).mono (by omega)) ((mul_zb (cr_zb hc hC hD) hB).mono (by omega)) (Int.le_refl _) (Int.le_refl _)
/-! the reference's -/
def Yf (I I' : ax_H) : Prop := ∀ b, (b < 93 ∨ 111 < b) → I' b = I b
def Rf2 (lo hi : Nat) (I I' : ax_H) : Prop := ∀ b, (b < lo ∨ hi < b) → I' b = I b
theorem Rf2.rf (lo hi : Nat) (I : ax_H) : Rf2 lo hi I I := fun _ _ => rfl
theorem Rf2.trans {lo hi : Nat} {I I' I'' : ax_H} (h : Rf2 lo hi I I') (h' : Rf2 lo hi I' I'') : Rf2 lo hi I I'' := fun b hb => (h' b hb).trans (h b hb)
theorem Rf2.o {lo hi a : Nat} {I I' : ax_H} (h : Of a I I') (h1 : lo ≤ a ∧ a ≤ hi) : Rf2 lo hi I I' := fun b hb => h b (by omega)
theorem Rf2.mono {lo hi lo' hi' : Nat} {I I' : ax_H} (h : Rf2 lo hi I I') (h1 : lo' ≤ lo) (h2 : hi ≤ hi') : Rf2 lo' hi' I I' := fun b hb => h b (by omega)
theorem Rf2.mp {lo hi b : Nat} {I I' : ax_H} {P : Int → Int} (h : Rf2 lo hi I I') (hb : b < lo ∨ hi < b) (hc : mP I b P) : mP I' b P := hc.of (h b hb)
theorem isA98 : isAr 98 := rfl
theorem isA104 : isAr 104 := rfl
theorem isA105 : isAr 105 := rfl
theorem isA106 : isAr 106 := rfl
theorem isA110 : isAr 110 := rfl
theorem isA111 : isAr 111 := rfl
/-- cells 98 to 109 but for one row -/
def Rw (r : Nat) (I I' : ax_H) : Prop := ∀ b, b ≠ r → b ≠ 107 → b ≠ 108 → I' b = I b
theorem m_row41 {d a b r : Nat} {g : Int → Int} {I : ax_H} {C D acc : Int → Int} {Q : ax_H → Prop} {w t k o c : Int} (ha : isAr a) (hb : isAr b) (hr : isAr r) (ha9 : a < 98) (hb9 : b < 98) (hr9 : 98 ≤ r ∧ r ≤ 103) (hg : gd g) (h6 : I 86 = g) (hw : 0 ≤ w ∧ w ≤ 1) (ht : 0 ≤ t ∧ t ≤ 1) (hk : 0 ≤ k ∧ k ≤ 2) (ho : 0 ≤ o ∧ o ≤ 2) (hc : 1 ≤ c ∧ 2 * c - 1 ≤ 1300) (hC : gP C) (hD : gP D) (hCz : zB C c) (hDz : zB D c) (hmC : mP I a C) (hmD : mP I b D) (hacc : gP acc) (hmr : mP I r acc)
    (K : ∀ I', Rw r I I' → mP I' r (sP 1 acc (nu g w t k o) (S0p C D o)) → RV (d + 2) kX11_rowsAt 41 [some (ax_r 85), some (ax_i w), some (ax_r a), some (ax_r b), some (ax_i t), some (ax_i k), some (ax_r r), some (ax_i (o + 1)), none] I' Q) :
    RV (d + 2) kX11_rowsAt 41 [some (ax_r 85), some (ax_i w), some (ax_r a), some (ax_r b), some (ax_i t), some (ax_i k), some (ax_r r), some (ax_i o), none] I Q := by
  have sC := sz_zb (by omega) hCz
  have sD := sz_zb (by omega) hDz
  have nn := nu_nm (which := w) hg ht hk ho
  have tail : ∀ (I4 : ax_H), Of 108 I I4 → mP I4 108 (S0p C D o) → gP (S0p C D o) → cV (d + 1) kX11_becomes [ax_r 107, ax_r r] I4 (fun I5 =>
        (w ≠ 0 →
          cI (d + 1) kX11_placeOf [ax_i t, ax_i o, ax_i k] I5 (fun w8 I7 =>
          (0 ≤ w8 ∧ w8 < 48) ∧
          (cV (d + 1) kX11_sums [ax_r r, ax_i 1, ax_r 107, ax_i (I7 86 w8), ax_r 108] I7 (fun I10 =>
          RV (d + 2) kX11_rowsAt 41 [some (ax_r 85), some (ax_i w), some (ax_r a), some (ax_r b), some (ax_i t), some (ax_i k), some (ax_r r), some (ax_i (o + 1)), none] I10 Q)))) ∧
        (w = 0 →
          cI (d + 1) kX11_placeOf [ax_i t, ax_i k, ax_i o] I5 (fun w12 I11 =>
          (0 ≤ w12 ∧ w12 < 48) ∧
          (cV (d + 1) kX11_sums [ax_r r, ax_i 1, ax_r 107, ax_i (I11 86 w12), ax_r 108] I11 (fun I14 =>
          RV (d + 2) kX11_rowsAt 41 [some (ax_r 85), some (ax_i w), some (ax_r a), some (ax_r b), some (ax_i t), some (ax_i k), some (ax_r r), some (ax_i (o + 1)), none] I14 Q))))) := by
    intro I4 f4 p4 gS
    refine m_becomes isA107 hr (by omega) (f4.mp (by omega) hmr) (fun I5 f5 p5 => ?_)
    have e6 : I5 86 = g := by rw [f5 86 (by decide), f4 86 (by decide), h6]
    have p4' := f5.mp (show 108 ≠ 107 by decide) p4
    have fin : ∀ v, v = nu g w t k o → cV (d + 1) kX11_sums [ax_r r, ax_i 1, ax_r 107, ax_i v, ax_r 108] I5 (fun I10 => RV (d + 2) kX11_rowsAt 41 [some (ax_r 85), some (ax_i w), some (ax_r a), some (ax_r b), some (ax_i t), some (ax_i k), some (ax_r r), some (ax_i (o + 1)), none] I10 Q) := by
      intro v hv
      refine m_sums hr isA107 isA108 (by omega) (by omega) ⟨by decide, by decide⟩ (by rw [hv]; exact nn) hacc gS p5 p4' (fun I6 f6 p6 => K I6 (fun x h1 h2 h3 => by rw [f6 x h1, f5 x h2, f4 x h3]) (by rw [← hv]; exact p6))
    unfold nu at fin
    refine ⟨fun q => ?_, fun q => ?_⟩
    · refine m_placeOf ⟨by omega, ?_⟩
      rw [e6]
      exact fin _ (by rw [if_neg q])
    · refine m_placeOf ⟨by omega, ?_⟩
      rw [e6]
      exact fin _ (by rw [if_pos q])
  refine vX11_rowsAt_41 ha hb hr ⟨by omega, by omega⟩ ⟨by omega, by omega⟩ ⟨fun q => absurd q (by omega), fun _ => ⟨fun q => ⟨fun q2 => ?_, fun q2 => ?_⟩, fun q => ⟨fun _ => ?_, fun q2 => absurd q2 (by omega)⟩⟩⟩
  · have eS : S0p C D o = mulP C D := by unfold S0p; rw [if_neg q, if_pos (by omega)]
    exact m_times isA108 ha hb (by omega) (by omega) hC hD hmC hmD (by omega) (fun I4 f4 p4 => tail I4 f4 (by rw [eS]; exact p4) (by rw [eS]; exact mul_g hCz hDz (by omega)))
  · have eS : S0p C D o = mulP C C := by unfold S0p; rw [if_neg q, if_neg (by omega)]
    exact m_times isA108 ha ha (by omega) (by omega) hC hC hmC hmC (by omega) (fun I4 f4 p4 => tail I4 f4 (by rw [eS]; exact p4) (by rw [eS]; exact mul_g hCz hCz (by omega)))
  · have eS : S0p C D o = mulP D D := by unfold S0p; rw [if_pos q]
    exact m_times isA108 hb hb (by omega) (by omega) hD hD hmD hmD (by omega) (fun I4 f4 p4 => tail I4 f4 (by rw [eS]; exact p4) (by rw [eS]; exact mul_g hDz hDz (by omega)))
theorem m_row12 {d a b : Nat} {g : Int → Int} {I : ax_H} {C D : Int → Int} {Q : ax_H → Prop} {w t k c : Int} (ha : isAr a) (hb : isAr b) (ha9 : a < 98) (hb9 : b < 98) (hg : gd g) (h6 : I 86 = g) (hw : 0 ≤ w ∧ w ≤ 1) (ht : 0 ≤ t ∧ t ≤ 1) (hk : 0 ≤ k ∧ k ≤ 2) (hc : 1 ≤ c ∧ 2 * c - 1 ≤ 1300) (hC : gP C) (hD : gP D) (hCz : zB C c) (hDz : zB D c) (hmC : mP I a C) (hmD : mP I b D)
    (K : ∀ I' r, r = 98 + (3 * t + k).toNat → Rw r I I' → mP I' r (rwP g w t k C D) → RV (d + 2) kX11_rowsAt 12 [some (ax_r 85), some (ax_i w), some (ax_r a), some (ax_r b), some (ax_i t), some (ax_i (k + 1)), none, none, none] I' Q) :
    RV (d + 2) kX11_rowsAt 12 [some (ax_r 85), some (ax_i w), some (ax_r a), some (ax_r b), some (ax_i t), some (ax_i k), none, none, none] I Q := by
  refine vX11_rowsAt_12 ha hb ⟨by omega, by omega⟩ ⟨fun q => absurd q (by omega), fun _ => ⟨by omega, fun r hr har => ?_⟩⟩
  have hr9 : 98 ≤ r ∧ r ≤ 103 := by omega
  refine m_constant har ⟨by decide, by decide⟩ (fun I1 f1 p1 => ?_)
  have gK : gP (Kp 0) := Kp_g ⟨by decide, by decide⟩
  have S : ∀ o, zB (S0p C D o) (2 * c - 1) := fun o => by
    unfold S0p
    split
    · exact (mul_zb hDz hDz).mono (by omega)
    · split
      · exact (mul_zb hCz hDz).mono (by omega)
      · exact (mul_zb hCz hCz).mono (by omega)
  have z0 : zB (Kp 0) (2 * c - 1) := Kp0_zb.mono (by omega)
  have z1 := sP_zb (x := 1) (y := nu g w t k 0) z0 (S 0) (Int.le_refl _) (Int.le_refl _)
  have z2 := sP_zb (x := 1) (y := nu g w t k 1) z1 (S 1) (Int.le_refl _) (Int.le_refl _)
  have go : ∀ (I2 : ax_H), Rw r I I2 → mP I2 a C ∧ mP I2 b D ∧ I2 86 = g := fun I2 f => ⟨hmC.of (f a (by omega) (by omega) (by omega)), hmD.of (f b (by omega) (by omega) (by omega)), by rw [f 86 (by omega) (by decide) (by decide), h6]⟩
  have f1' : Rw r I I1 := fun x h1 _ _ => f1 x h1
  have q1 := go I1 f1'
  refine m_row41 ha hb har ha9 hb9 hr9 hg q1.2.2 hw ht hk (o := 0) (by decide) hc hC hD hCz hDz q1.1 q1.2.1 gK p1 (fun I2 f2 p2 => ?_)
  have f2' : Rw r I I2 := fun x h1 h2 h3 => by rw [f2 x h1 h2 h3, f1' x h1 h2 h3]
  have q2 := go I2 f2'
  refine m_row41 ha hb har ha9 hb9 hr9 hg q2.2.2 hw ht hk (o := 0 + 1) (by decide) hc hC hD hCz hDz q2.1 q2.2.1 (gP_of (fun _ => nm_mod _) z1 hc.2) p2 (fun I3 f3 p3 => ?_)
  have f3' : Rw r I I3 := fun x h1 h2 h3 => by rw [f3 x h1 h2 h3, f2' x h1 h2 h3]
  have q3 := go I3 f3'
  refine m_row41 ha hb har ha9 hb9 hr9 hg q3.2.2 hw ht hk (o := 0 + 1 + 1) (by decide) hc hC hD hCz hDz q3.1 q3.2.1 (gP_of (fun _ => nm_mod _) z2 hc.2) p3 (fun I4 f4 p4 => ?_)
  have f4' : Rw r I I4 := fun x h1 h2 h3 => by rw [f4 x h1 h2 h3, f3' x h1 h2 h3]
  refine vX11_rowsAt_41 ha hb har ⟨by omega, by omega⟩ (by decide) ⟨fun _ => K I4 r hr f4' p4, fun q => absurd (by decide) q⟩
/-- all rows stand -/
def rows6 (g : Int → Int) (w : Int) (C D : Int → Int) (I : ax_H) : Prop := mP I 98 (rwP g w 0 0 C D) ∧ mP I 99 (rwP g w 0 1 C D) ∧ mP I 100 (rwP g w 0 2 C D) ∧ mP I 101 (rwP g w 1 0 C D) ∧ mP I 102 (rwP g w 1 1 C D) ∧ mP I 103 (rwP g w 1 2 C D)
theorem m_rowsAt {d a b : Nat} {g : Int → Int} {I : ax_H} {C D : Int → Int} {Q : ax_H → Prop} {w c : Int} (ha : isAr a) (hb : isAr b) (ha9 : a < 98) (hb9 : b < 98) (hg : gd g) (h6 : I 86 = g) (hw : 0 ≤ w ∧ w ≤ 1) (hc : 1 ≤ c ∧ 2 * c - 1 ≤ 1300) (hC : gP C) (hD : gP D) (hCz : zB C c) (hDz : zB D c) (hmC : mP I a C) (hmD : mP I b D)
    (hQ : ∀ I', Rf2 98 108 I I' → I' 104 = I 104 → I' 105 = I 105 → I' 106 = I 106 → rows6 g w C D I' → Q I') : cV (d + 2) kX11_rowsAt [ax_r 85, ax_i w, ax_r a, ax_r b] I Q := by
  have go : ∀ (I2 : ax_H), (∀ x, (x < 98 ∨ 103 < x) → x ≠ 107 → x ≠ 108 → I2 x = I x) → mP I2 a C ∧ mP I2 b D ∧ I2 86 = g := fun I2 f => ⟨hmC.of (f a (by omega) (by omega) (by omega)), hmD.of (f b (by omega) (by omega) (by omega)), by rw [f 86 (by omega) (by decide) (by decide), h6]⟩
  refine vX11_rowsAt_0 ha hb ?_
  refine vX11_rowsAt_3 ha hb (by decide) ⟨fun q => absurd q (by decide), fun _ => ?_⟩
  refine m_row12 (t := 0) (k := 0) ha hb ha9 hb9 hg h6 hw (by decide) (by decide) hc hC hD hCz hDz hmC hmD (fun I1 r1 e1 f1 p1 => ?_)
  obtain rfl : r1 = 98 := e1
  have F1 : ∀ x, (x < 98 ∨ 103 < x) → x ≠ 107 → x ≠ 108 → I1 x = I x := fun x h1 h2 h3 => f1 x (by omega) h2 h3
  refine m_row12 (t := 0) (k := 0 + 1) ha hb ha9 hb9 hg (go I1 F1).2.2 hw (by decide) (by decide) hc hC hD hCz hDz (go I1 F1).1 (go I1 F1).2.1 (fun I2 r2 e2 f2 p2 => ?_)
  obtain rfl : r2 = 99 := e2
  have F2 : ∀ x, (x < 98 ∨ 103 < x) → x ≠ 107 → x ≠ 108 → I2 x = I x := fun x h1 h2 h3 => by rw [f2 x (by omega) h2 h3, F1 x h1 h2 h3]
  refine m_row12 (t := 0) (k := 0 + 1 + 1) ha hb ha9 hb9 hg (go I2 F2).2.2 hw (by decide) (by decide) hc hC hD hCz hDz (go I2 F2).1 (go I2 F2).2.1 (fun I3 r3 e3 f3 p3 => ?_)
  obtain rfl : r3 = 100 := e3
  have F3 : ∀ x, (x < 98 ∨ 103 < x) → x ≠ 107 → x ≠ 108 → I3 x = I x := fun x h1 h2 h3 => by rw [f3 x (by omega) h2 h3, F2 x h1 h2 h3]
  refine vX11_rowsAt_12 ha hb (by decide) ⟨fun _ => ?_, fun q => absurd (by decide) q⟩
  refine vX11_rowsAt_3 ha hb (by decide) ⟨fun q => absurd q (by decide), fun _ => ?_⟩
  refine m_row12 (t := 0 + 1) (k := 0) ha hb ha9 hb9 hg (go I3 F3).2.2 hw (by decide) (by decide) hc hC hD hCz hDz (go I3 F3).1 (go I3 F3).2.1 (fun I4 r4 e4 f4 p4 => ?_)
  obtain rfl : r4 = 101 := e4
  have F4 : ∀ x, (x < 98 ∨ 103 < x) → x ≠ 107 → x ≠ 108 → I4 x = I x := fun x h1 h2 h3 => by rw [f4 x (by omega) h2 h3, F3 x h1 h2 h3]
  refine m_row12 (t := 0 + 1) (k := 0 + 1) ha hb ha9 hb9 hg (go I4 F4).2.2 hw (by decide) (by decide) hc hC hD hCz hDz (go I4 F4).1 (go I4 F4).2.1 (fun I5 r5 e5 f5 p5 => ?_)
  obtain rfl : r5 = 102 := e5
  have F5 : ∀ x, (x < 98 ∨ 103 < x) → x ≠ 107 → x ≠ 108 → I5 x = I x := fun x h1 h2 h3 => by rw [f5 x (by omega) h2 h3, F4 x h1 h2 h3]
  refine m_row12 (t := 0 + 1) (k := 0 + 1 + 1) ha hb ha9 hb9 hg (go I5 F5).2.2 hw (by decide) (by decide) hc hC hD hCz hDz (go I5 F5).1 (go I5 F5).2.1 (fun I6 r6 e6 f6 p6 => ?_)
  obtain rfl : r6 = 103 := e6
  have F6 : ∀ x, (x < 98 ∨ 103 < x) → x ≠ 107 → x ≠ 108 → I6 x = I x := fun x h1 h2 h3 => by rw [f6 x (by omega) h2 h3, F5 x h1 h2 h3]
  refine vX11_rowsAt_12 ha hb (by decide) ⟨fun _ => ?_, fun q => absurd (by decide) q⟩
  refine vX11_rowsAt_3 ha hb (by decide) ⟨fun _ => ?_, fun q => absurd (by decide) q⟩
  refine hQ I6 (fun x hx => F6 x (by omega) (by omega) (by omega)) (F6 104 (by decide) (by decide) (by decide)) (F6 105 (by decide) (by decide) (by decide)) (F6 106 (by decide) (by decide) (by decide)) ⟨?_, ?_, ?_, ?_, ?_, p6⟩
  · exact p1.of (by rw [f6 98 (by decide) (by decide) (by decide), f5 98 (by decide) (by decide) (by decide), f4 98 (by decide) (by decide) (by decide), f3 98 (by decide) (by decide) (by decide), f2 98 (by decide) (by decide) (by decide)])
  · exact p2.of (by rw [f6 99 (by decide) (by decide) (by decide), f5 99 (by decide) (by decide) (by decide), f4 99 (by decide) (by decide) (by decide), f3 99 (by decide) (by decide) (by decide)])
  · exact p3.of (by rw [f6 100 (by decide) (by decide) (by decide), f5 100 (by decide) (by decide) (by decide), f4 100 (by decide) (by decide) (by decide)])
  · exact p4.of (by rw [f6 101 (by decide) (by decide) (by decide), f5 101 (by decide) (by decide) (by decide)])
  · exact p5.of (by rw [f6 102 (by decide) (by decide) (by decide)])
theorem m_crosses {d a x1 x2 x3 x4 : Nat} {I : ax_H} {R1 R2 R3 R4 : Int → Int} {Q : ax_H → Prop} {k l : Int} {N : Int} (ha : isAr a) (ha9 : 104 ≤ a ∧ a ≤ 106) (hk : 0 ≤ k ∧ k ≤ 2) (hl : 0 ≤ l ∧ l ≤ 2) (e1 : x1 = 98 + k.toNat) (e2 : x2 = 98 + (3 + l).toNat) (e3 : x3 = 98 + l.toNat) (e4 : x4 = 98 + (3 + k).toNat) (h1 : mP I x1 R1) (h2 : mP I x2 R2) (h3 : mP I x3 R3) (h4 : mP I x4 R4) (g1 : gP R1) (g2 : gP R2) (g3 : gP R3) (g4 : gP R4) (z1 : zB R1 N) (z2 : zB R2 N) (z3 : zB R3 N) (z4 : zB R4 N) (hN : 0 ≤ N ∧ 2 * N ≤ 1301)
    (hQ : ∀ I', (∀ b, b ≠ a → b ≠ 107 → b ≠ 108 → I' b = I b) → mP I' a (sP 1 (mulP R1 R2) 30 (mulP R3 R4)) → Q I') : cV (d + 2) kX11_crosses [ax_r 85, ax_r a, ax_i k, ax_i l] I Q := by
  have s1 := sz_zb hN.1 z1
  have s2 := sz_zb hN.1 z2
  have s3 := sz_zb hN.1 z3
  have s4 := sz_zb hN.1 z4
  refine vX11_crosses_0 ha ⟨by omega, fun b1 hb1 ha1 => ⟨by omega, fun b2 hb2 ha2 => ?_⟩⟩
  obtain rfl : b1 = x1 := by omega
  obtain rfl : b2 = x2 := by omega
  refine m_times isA107 ha1 ha2 (by omega) (by omega) g1 g2 h1 h2 (by omega) (fun I1 f1 p1 => ⟨by omega, fun b3 hb3 ha3 => ⟨by omega, fun b4 hb4 ha4 => ?_⟩⟩)
  obtain rfl : b3 = x3 := by omega
  obtain rfl : b4 = x4 := by omega
  refine m_times isA108 ha3 ha4 (by omega) (by omega) g3 g4 (f1.mp (by omega) h3) (f1.mp (by omega) h4) (by omega) (fun I2 f2 p2 => ?_)
  refine m_sums ha isA107 isA108 (by omega) (by omega) ⟨by decide, by decide⟩ ⟨by decide, by decide⟩ (mul_g z1 z2 (by omega)) (mul_g z3 z4 (by omega)) (f2.mp (by decide) p1) p2 (fun I3 f3 p3 => hQ I3 (fun b q1 q2 q3 => by rw [f3 b q1, f2 b q3, f1 b q2]) p3)
theorem m_isSwapped {d a1 a2 a3 a4 : Nat} {g : Int → Int} {I : ax_H} {A B C D : Int → Int} {Q : Int → ax_H → Prop} {w a c : Int} (ha : (a1 = 93 ∧ a2 = 94 ∧ a3 = 95 ∧ a4 = 96) ∨ (a1 = 95 ∧ a2 = 96 ∧ a3 = 93 ∧ a4 = 94)) (hg : gd g) (h6 : I 86 = g) (hw : 0 ≤ w ∧ w ≤ 1) (hc : 1 ≤ c) (haa : 1 ≤ a) (hb : 4 * c + a ≤ 1303) (gA : gP A) (gB : gP B) (gC : gP C) (gD : gP D) (zA : zB A a) (zzB : zB B a) (zC : zB C c) (zD : zB D c) (mA : mP I a1 A) (mB : mP I a2 B) (mC : mP I a3 C) (mD : mP I a4 D)
    (h0 : ∀ I', szP (uP g w A B C D) = 0 ∧ szP (vP g w A B C D) = 0 → Yf I I' → Q 0 I')
    (h1 : ∀ I', ¬ (szP (uP g w A B C D) = 0 ∧ szP (vP g w A B C D) = 0) → Yf I I' → mP I' a1 (quoP (uP g w A B C D) (gcP 1300 (uP g w A B C D) (vP g w A B C D))) → mP I' a2 (quoP (vP g w A B C D) (gcP 1300 (uP g w A B C D) (vP g w A B C D))) → mP I' a3 C → mP I' a4 D → Q 1 I') : cI (d + 3) kX11_isSwapped [ax_r 85, ax_i w, ax_r a1, ax_r a2, ax_r a3, ax_r a4] I Q := by
  have i1 : isAr a1 := by rcases ha with ⟨h, _⟩ | ⟨h, _⟩ <;> rw [h] <;> rfl
  have i2 : isAr a2 := by rcases ha with ⟨_, h, _⟩ | ⟨_, h, _⟩ <;> rw [h] <;> rfl
  have i3 : isAr a3 := by rcases ha with ⟨_, _, h, _⟩ | ⟨_, _, h, _⟩ <;> rw [h] <;> rfl
  have i4 : isAr a4 := by rcases ha with ⟨_, _, _, h⟩ | ⟨_, _, _, h⟩ <;> rw [h] <;> rfl
  have hne : a1 < 98 ∧ a2 < 98 ∧ a3 < 98 ∧ a4 < 98 ∧ 92 < a1 ∧ 92 < a2 ∧ a1 ≠ a2 ∧ a3 ≠ a1 ∧ a3 ≠ a2 ∧ a4 ≠ a1 ∧ a4 ≠ a2 := by omega
  have gr : ∀ t k, gP (rwP g w t k C D) := fun t k => rw_g hc zC zD (by omega)
  have zr : ∀ t k, zB (rwP g w t k C D) (2 * c - 1) := fun t k => rw_zb hc zC zD
  have gc : ∀ h l, gP (crP g w h l C D) := fun h l => cr_g hc zC zD (by omega)
  have zc : ∀ h l, zB (crP g w h l C D) (4 * c - 3) := fun h l => cr_zb hc zC zD
  have sA := sz_zb (by omega) zA
  have sB := sz_zb (by omega) zzB
  have sc := fun h l => sz_zb (by omega) (zc h l)
  have zu := u_zb (g := g) (w := w) hc zA zzB zC zD
  have zv := v_zb (g := g) (w := w) hc zA zzB zC zD
  have gu : gP (uP g w A B C D) := gP_of (fun _ => nm_mod _) zu (by omega)
  have gv : gP (vP g w A B C D) := gP_of (fun _ => nm_mod _) zv (by omega)
  refine vX11_isSwapped_0 i1 i2 i3 i4 ?_
  refine m_rowsAt i3 i4 hne.2.2.1 hne.2.2.2.1 hg h6 hw ⟨hc, by omega⟩ gC gD zC zD mC mD (fun I1 f1 _ _ _ r1 => ?_)
  refine m_crosses (x1 := 100) (x2 := 102) (x3 := 99) (x4 := 103) isA104 (by decide) (by decide) (by decide) rfl rfl rfl rfl r1.2.2.1 r1.2.2.2.2.1 r1.2.1 r1.2.2.2.2.2 (gr 0 2) (gr 1 1) (gr 0 1) (gr 1 2) (zr 0 2) (zr 1 1) (zr 0 1) (zr 1 2) ⟨by omega, by omega⟩ (fun I2 f2 p2 => ?_)
  have w2 : ∀ b, b < 104 → I2 b = I1 b := fun b hb => f2 b (by omega) (by omega) (by omega)
  refine m_crosses (x1 := 100) (x2 := 101) (x3 := 98) (x4 := 103) isA105 (by decide) (by decide) (by decide) rfl rfl rfl rfl (r1.2.2.1.of (w2 100 (by decide))) (r1.2.2.2.1.of (w2 101 (by decide))) (r1.1.of (w2 98 (by decide))) (r1.2.2.2.2.2.of (w2 103 (by decide))) (gr 0 2) (gr 1 0) (gr 0 0) (gr 1 2) (zr 0 2) (zr 1 0) (zr 0 0) (zr 1 2) ⟨by omega, by omega⟩ (fun I3 f3 p3 => ?_)
  have w3 : ∀ b, b < 104 → I3 b = I1 b := fun b hb => by rw [f3 b (by omega) (by omega) (by omega), w2 b hb]
  refine m_crosses (x1 := 99) (x2 := 101) (x3 := 98) (x4 := 102) isA106 (by decide) (by decide) (by decide) rfl rfl rfl rfl (r1.2.1.of (w3 99 (by decide))) (r1.2.2.2.1.of (w3 101 (by decide))) (r1.1.of (w3 98 (by decide))) (r1.2.2.2.2.1.of (w3 102 (by decide))) (gr 0 1) (gr 1 0) (gr 0 0) (gr 1 1) (zr 0 1) (zr 1 0) (zr 0 0) (zr 1 1) ⟨by omega, by omega⟩ (fun I4 f4 p4 => ?_)
  have w4 : ∀ b, b < 98 → I4 b = I b := fun b hb => by rw [f4 b (by omega) (by omega) (by omega), w3 b (by omega), f1 b (by omega)]
  have q104 : mP I4 104 (crP g w 2 1 C D) := p2.of (by rw [f4 104 (by decide) (by decide) (by decide), f3 104 (by decide) (by decide) (by decide)])
  have q105 : mP I4 105 (crP g w 2 0 C D) := p3.of (f4 105 (by decide) (by decide) (by decide))
  have q106 : mP I4 106 (crP g w 1 0 C D) := p4
  refine m_times isA107 isA105 i1 (by decide) (by omega) (gc 2 0) gA q105 (mA.of (w4 a1 hne.1)) (by have := sc 2 0; omega) (fun I5 f5 p5 => ?_)
  refine m_times isA108 isA106 i2 (by decide) (by omega) (gc 1 0) gB (f5.mp (by decide) q106) ((mB.of (w4 a2 hne.2.1)).of (f5 a2 (by omega))) (by have := sc 1 0; omega) (fun I6 f6 p6 => ?_)
  refine m_sums isA110 isA107 isA108 (by decide) (by decide) ⟨by decide, by decide⟩ ⟨by decide, by decide⟩ (mul_g (zc 2 0) zA (by omega)) (mul_g (zc 1 0) zzB (by omega)) (f6.mp (by decide) p5) p6 (fun I7 f7 p7 => ?_)
  have w7 : ∀ b, b ≠ 107 → b ≠ 108 → b ≠ 110 → I7 b = I4 b := fun b h1 h2 h3 => by rw [f7 b h3, f6 b h2, f5 b h1]
  refine m_times isA107 isA104 i1 (by decide) (by omega) (gc 2 1) gA (q104.of (w7 104 (by decide) (by decide) (by decide))) (mA.of (by rw [w7 a1 (by omega) (by omega) (by omega), w4 a1 hne.1])) (by have := sc 2 1; omega) (fun I8 f8 p8 => ?_)
  refine m_times isA108 isA105 i2 (by decide) (by omega) (gc 2 0) gB (f8.mp (by decide) (q105.of (w7 105 (by decide) (by decide) (by decide)))) (mB.of (by rw [f8 a2 (by omega), w7 a2 (by omega) (by omega) (by omega), w4 a2 hne.2.1])) (by have := sc 2 0; omega) (fun I9 f9 p9 => ?_)
  refine m_sums isA111 isA107 isA108 (by decide) (by decide) ⟨by decide, by decide⟩ ⟨by decide, by decide⟩ (mul_g (zc 2 1) zA (by omega)) (mul_g (zc 2 0) zzB (by omega)) (f9.mp (by decide) p8) p9 (fun I10 f10 p10 => ?_)
  have pu : mP I10 110 (uP g w A B C D) := p7.of (by rw [f10 110 (by decide), f9 110 (by decide), f8 110 (by decide)])
  have pv : mP I10 111 (vP g w A B C D) := p10
  have w10 : ∀ b, b < 98 → I10 b = I b := fun b hb => by rw [f10 b (by omega), f9 b (by omega), f8 b (by omega), w7 b (by omega) (by omega) (by omega), w4 b hb]
  have y10 : Yf I I10 := fun b hb => by
    rw [f10 b (by omega), f9 b (by omega), f8 b (by omega), w7 b (by omega) (by omega) (by omega), f4 b (by omega) (by omega) (by omega), f3 b (by omega) (by omega) (by omega), f2 b (by omega) (by omega) (by omega), f1 b (by omega)]
  have bu := sz_bd (uP g w A B C D)
  have bv := sz_bd (vP g w A B C D)
  have go : ¬ (szP (uP g w A B C D) = 0 ∧ szP (vP g w A B C D) = 0) → cV (d + 2) kX11_becomes [ax_r a1, ax_r 110] I10 (fun I13 =>
    cV (d + 2) kX11_becomes [ax_r a2, ax_r 111] I13 (fun I14 =>
    cV (d + 2) kX11_lowers [ax_r 85, ax_r a1, ax_r a2] I14 (fun I15 =>
    Q 1 I15))) := by
    intro hnz
    refine m_becomes i1 isA110 (by omega) pu (fun I11 f11 p11 => ?_)
    refine m_becomes i2 isA111 (by omega) (f11.mp (by omega) pv) (fun I12 f12 p12 => ?_)
    refine m_lowers i1 i2 hne.2.2.2.2.2.2.1 (by omega) (by omega) gu gv (by omega) (f12.mp hne.2.2.2.2.2.2.1 p11) p12 (fun I13 f13 p13 q13 => ?_)
    refine h1 I13 hnz (fun b hb => ?_) p13 q13 (mC.of ?_) (mD.of ?_)
    · rw [f13 b (by omega) (by omega) (by omega), f12 b (by omega), f11 b (by omega), y10 b hb]
    · rw [f13 a3 (by omega) (by omega) (by omega), f12 a3 (by omega), f11 a3 (by omega), w10 a3 (by omega)]
    · rw [f13 a4 (by omega) (by omega) (by omega), f12 a4 (by omega), f11 a4 (by omega), w10 a4 (by omega)]
  rw [pu.1, pv.1]
  exact ⟨fun q => go (by omega), fun q => ⟨fun r => go (by omega), fun r => h0 I10 ⟨by omega, by omega⟩ y10⟩⟩
