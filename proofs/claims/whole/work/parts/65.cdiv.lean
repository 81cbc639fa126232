/-! the class's division and greatest common factor -/
def Df (a b : Nat) (I I' : ax_H) : Prop := ∀ c, c ≠ a → c ≠ a + 1 → c ≠ b → c ≠ b + 1 → I' c = I c
theorem Df.rf (a b : Nat) (I : ax_H) : Df a b I I := fun _ _ _ _ _ => rfl
theorem Df.trans {a b : Nat} {I I' I'' : ax_H} (h : Df a b I I') (h' : Df a b I' I'') : Df a b I I'' := fun c h1 h2 h3 h4 => (h' c h1 h2 h3 h4).trans (h c h1 h2 h3 h4)
theorem Df.l {a b : Nat} {I I' : ax_H} (h : Uf a I I') : Df a b I I' := fun c h1 h2 _ _ => h c h1 h2
theorem Df.r {a b : Nat} {I I' : ax_H} (h : Uf b I I') : Df a b I I' := fun c _ _ h3 h4 => h c h3 h4
theorem Df.cp {a b c : Nat} {I I' : ax_H} {P : Int → Int} (h : Df a b I I') (h1 : dj a c) (h2 : dj b c) (hc : cP I c P) : cP I' c P := by
  unfold dj at h1 h2
  exact hc.of (h c (by omega) (by omega) (by omega) (by omega)) (h (c + 1) (by omega) (by omega) (by omega) (by omega))
theorem c_dv112 {d a b c s : Nat} {I0 : ax_H} {P B : Int → Int} {Q : ax_H → Prop} {v f : Int} (ha : isPo a) (hb : isPo b) (hc : isPo c) (hd : dj a b) (hPn : ∀ i, nm (P i)) (hB : gP B) (hcB : cP I0 b B) (hs : (s : Int) + szP B ≤ 1300) (hf : nm f) (hI0 : ∀ k, 0 ≤ k → k < 1300 → I0 (a + 1) k = P k)
    (K : ∀ I', Uf a I0 I' → I' a = I0 a → (∀ k, 0 ≤ k → k < 1300 → I' (a + 1) k = (P k - f * B (k - s)) % 31) → RV (d + 2) kX7_divide 74 [some (ax_r a), some (ax_r b), some (ax_r c), some (ax_i v), some (ax_i ((s : Int) + (-1))), none, none] I' Q) : ∀ (m : Nat) (j : Int) (I : ax_H), j = szP B - m → (m : Int) ≤ szP B → Uf a I0 I → I a = I0 a → (∀ k, 0 ≤ k → k < 1300 → I (a + 1) k = if 0 ≤ k - s ∧ k - s < j then (P k - f * B (k - s)) % 31 else P k) →
    RV (d + 2) kX7_divide 112 [some (ax_r a), some (ax_r b), some (ax_r c), some (ax_i v), some (ax_i (s : Int)), some (ax_i f), some (ax_i j)] I Q := by
  have hd2 := hd
  unfold dj at hd2
  have bB := sz_bd B
  intro m
  induction m with
  | zero =>
    intro j I hj _ hu ea h1
    have eb : I b = I0 b := hu b (by omega) (by omega)
    have fin := K I hu ea (fun k k0 k1 => by
      rw [h1 k k0 k1]
      split
      · rfl
      · rename_i q
        rw [hB.zb (k - s) (by omega), Int.mul_zero, Int.sub_zero]
        exact (nm_self (hPn k)).symm)
    exact vX7_divide_112 ha hb hc (nm_R hf) ⟨by omega, by omega⟩ ⟨fun _ => fin, fun _ => ⟨fun _ => fin, fun q => absurd (by rw [eb, hcB.1]; omega) q⟩⟩
  | succ m ih =>
    intro j I hj hm hu ea h1
    have eb : I b = I0 b := hu b (by omega) (by omega)
    have eb2 : I (b + 1) = I0 (b + 1) := hu (b + 1) (by omega) (by omega)
    have eB := hcB.2 j (by omega) (by omega)
    have nB := hB.1 j
    have e1 := h1 ((s : Int) + j) (by omega) (by omega)
    rw [if_neg (by omega)] at e1
    have nP := hPn ((s : Int) + j)
    refine vX7_divide_112 ha hb hc (nm_R hf) ⟨by omega, by omega⟩ ⟨fun q => ?_, fun q => ⟨fun r => absurd r (by rw [eb, hcB.1]; omega), fun _ => ⟨by omega, by omega, ?_⟩⟩⟩
    · refine K I hu ea (fun k k0 k1 => ?_)
      rw [h1 k k0 k1, q, Int.zero_mul, Int.sub_zero, nm_self (hPn k)]
      split <;> rfl
    · rw [eb2, eB, e1]
      have n1 := nP.1
      have n2 := nP.2
      have bd := md_bd hf.1 (show f ≤ 30 by have := hf.2; omega) nB.1 (show _ ≤ 30 by have := nB.2; omega)
      refine c_modulo ⟨by omega, by omega⟩ ⟨ax_mod31 _, ?_⟩
      refine ih (j + 1) _ (by omega) (by omega) (hu.trans Uf.st1) (by rw [st_cell (by omega), ea]) (fun k k0 k1 => ?_)
      rw [st_at]
      by_cases e : k = (s : Int) + j
      · rw [if_pos e, if_pos (by omega), e, show (s : Int) + j - s = j by omega]
      · rw [if_neg e, h1 k k0 k1]
        by_cases r : 0 ≤ k - s ∧ k - s < j
        · rw [if_pos r, if_pos (by omega)]
        · rw [if_neg r, if_neg (by omega)]
theorem c_dv74 {d a b c : Nat} {I0 : ax_H} {P0 B : Int → Int} {Q : ax_H → Prop} (ha : isPo a) (hb : isPo b) (hc : isPo c) (hab : dj a b) (hac : dj a c) (hbc : dj b c) (hP0 : gP P0) (hB : gP B) (hm : 1 ≤ szP B) (hcB : cP I0 b B) (hle : szP B ≤ szP P0)
    (hQ : ∀ I', Df a c I0 I' → cP I' a (remP P0 B) → cP I' c (quoP P0 B) → Q I') : ∀ (s : Nat) (P Z : Int → Int) (I : ax_H), (s : Int) + szP B ≤ szP P0 + 1 → (∀ i, nm (P i)) → zB P (szP P0) → dvP B (szP B) (ax_inv (B (szP B - 1))) s P = remP P0 B → dvQ B (szP B) (ax_inv (B (szP B - 1))) s P Z = quoP P0 B → Df a c I0 I → I a 1 = szP P0 → (∀ k, 0 ≤ k → k < 1300 → I (a + 1) k = P k) → (∀ k, 0 ≤ k → k < 1300 → I (c + 1) k = Z k) →
    RV (d + 2) kX7_divide 74 [some (ax_r a), some (ax_r b), some (ax_r c), some (ax_i (ax_inv (B (szP B - 1)))), some (ax_i ((s : Int) - 1)), none, none] I Q := by
  have hab2 := hab
  have hac2 := hac
  have hbc2 := hbc
  unfold dj at hab2 hac2 hbc2
  have bP := sz_bd P0
  have bB := sz_bd B
  intro s
  induction s with
  | zero =>
    intro P Z I hs hPn hPz hR hZ hu ea h1 h2
    have eb : I b = I0 b := hu b (by omega) (by omega) (by omega) (by omega)
    have hR2 : P = remP P0 B := hR
    have hZ2 : Z = quoP P0 B := hZ
    have gR := rem_g hP0 hB hm
    have gQ := quo_g hP0 hB hm
    have sQ := quo_sz hP0 hB hm
    refine vX7_divide_74 ha hb hc ⟨by omega, by omega⟩ ⟨fun _ => ?_, fun q => absurd (by omega) q⟩
    rw [ea, eb, hcB.1]
    have en : szP (quoP P0 B) = szP P0 - szP B + 1 := by rw [sQ]; unfold nsh; omega
    refine c_trim (P := quoP P0 B) hc gQ.1 ⟨by omega, by omega⟩ (fun i hi => sz_ge gQ.1 (by omega)) (fun i i0 i1 => by rw [h2 i i0 i1, hZ2]) (fun I1 f1 c1 => ?_)
    have e1 : I1 a = I a := f1 a (by omega)
    have e2 : I1 (a + 1) = I (a + 1) := f1 (a + 1) (by omega)
    rw [e1, ea]
    refine c_trim (P := remP P0 B) ha gR.1 ⟨by omega, by omega⟩ (fun i hi => sz_ge gR.1 (by omega)) (fun i i0 i1 => by rw [e2, h1 i i0 i1, hR2]) (fun I2 f2 c2 => ?_)
    exact hQ I2 (hu.trans (fun x h1 h2 h3 h4 => by rw [f2 x h1, f1 x h3])) c2 (c1.of (f2 c (by omega)) (f2 (c + 1) (by omega)))
  | succ s ih =>
    intro P Z I hs hPn hPz hR hZ hu ea h1 h2
    have eb : I b = I0 b := hu b (by omega) (by omega) (by omega) (by omega)
    have hcB' : cP I b B := hu.cp (by unfold dj; omega) (by unfold dj; omega) hcB
    have eP := h1 ((s : Int) + szP B - 1) (by omega) (by omega)
    have nP := hPn ((s : Int) + szP B - 1)
    have nv := inv_nm' (hB.1 (szP B - 1))
    have bd := md_bd nP.1 (show _ ≤ 30 by have := nP.2; omega) nv.1 (show _ ≤ 30 by have := nv.2; omega)
    rw [show ((s + 1 : Nat) : Int) - 1 = (s : Int) by omega]
    refine vX7_divide_74 ha hb hc ⟨by omega, by omega⟩ ⟨fun q => absurd q (by omega), fun _ => ?_⟩
    rw [eb, hcB.1, eP]
    refine ⟨by omega, by omega, fun f hf => ⟨by omega, ⟨by omega, by omega⟩, ?_⟩⟩
    have nf : nm f := by rw [hf]; exact nm_mod _
    have w : ∀ x, x ≠ c + 1 → (ax_st I (c + 1) (s : Int) f) x = I x := fun x hx => st_cell hx
    refine c_dv112 (I0 := ax_st I (c + 1) (s : Int) f) (P := P) ha hb hc hab hPn hB (hcB'.of (w b (by omega)) (w (b + 1) (by omega))) (by omega) nf (fun k k0 k1 => by rw [w (a + 1) (by omega)]; exact h1 k k0 k1) (fun I1 f1 e1 v1 => ?_) (szP B).toNat 0 _ (by omega) (by omega) (Uf.rf _ _) rfl (fun k k0 k1 => by rw [if_neg (by omega), w (a + 1) (by omega)]; exact h1 k k0 k1)
    rw [show (s : Int) + (-1) = (s : Int) - 1 by omega]
    refine ih (rd B (szP B) (ax_inv (B (szP B - 1))) s P) (upg Z (s : Int) (P ((s : Int) + szP B - 1) * ax_inv (B (szP B - 1)) % 31)) I1 (by omega) (rd_nm _ _ _ _ _) (rd_zb hB.zb hPz (by omega)) hR hZ (hu.trans (fun x q1 q2 q3 q4 => by rw [f1 x q1 q2, w x q4])) (by rw [e1, w a (by omega), ea]) (fun k k0 k1 => ?_) (fun k k0 k1 => ?_)
    · rw [v1 k k0 k1, hf]; rfl
    · rw [f1 (c + 1) (by omega) (by omega), st_at]
      unfold upg
      rw [← hf]
      split
      · rfl
      · exact h2 k k0 k1
theorem c_divide {d a b c : Nat} {I0 : ax_H} {P B : Int → Int} {Q : ax_H → Prop} (ha : isPo a) (hb : isPo b) (hc : isPo c) (hab : dj a b) (hac : dj a c) (hbc : dj b c) (hP : gP P) (hB : gP B) (hm : 1 ≤ szP B) (hcP : cP I0 a P) (hcB : cP I0 b B) (hw : wf I0 c)
    (hQ : ∀ I', Df a c I0 I' → cP I' a (remP P B) → cP I' c (quoP P B) → Q I') : cV (d + 2) kX7_divide [ax_r a, ax_r b, ax_r c] I0 Q := by
  have hab2 := hab
  have hac2 := hac
  have hbc2 := hbc
  unfold dj at hab2 hac2 hbc2
  have bP := sz_bd P
  have bB := sz_bd B
  refine vX7_divide_0 ha hb hc ?_
  refine c_clear hc hw (fun I1 f1 c1 => ?_)
  have hcP1 : cP I1 a P := f1.cp (by unfold dj; omega) hcP
  have hcB1 : cP I1 b B := f1.cp (by unfold dj; omega) hcB
  rw [hcP1.1, hcB1.1]
  refine ⟨fun q => absurd q (by omega), fun _ => ⟨fun q => absurd q (by omega), fun _ => ⟨fun q => absurd q (by omega), fun _ => ⟨fun q => ⟨by omega, ?_⟩, fun q => ?_⟩⟩⟩⟩
  · rw [hcB1.2 (szP B - 1) (by omega) (by omega)]
    refine c_modulo (nm_R (hB.1 _)) ?_
    rw [nm_self (hB.1 _)]
    refine ⟨hB.1 _, ?_⟩
    intro y3 h3 y4 h4
    rw [hcP1.1, hcB1.1] at h4
    have es : ((nsh P B : Nat) : Int) = szP P - szP B + 1 := by unfold nsh; omega
    rw [show y4 = ((nsh P B : Nat) : Int) - 1 by omega, h3]
    exact c_dv74 (I0 := I1) ha hb hc hab hac hbc hP hB hm hcB1 q (fun I' f' p' q' => hQ I' ((Df.r f1).trans f') p' q') (nsh P B) P Z0 I1 (by omega) hP.1 hP.zb rfl rfl (Df.rf _ _ _) hcP1.1 hcP1.2 c1.2
  · have es : nsh P B = 0 := by unfold nsh; omega
    refine hQ I1 (Df.r f1) ?_ ?_
    · have : remP P B = P := by unfold remP; rw [es]; rfl
      rw [this]; exact hcP1
    · have : quoP P B = Z0 := by unfold quoP; rw [es]; rfl
      rw [this]; exact c1
theorem isPo57 : isPo 57 := ⟨rfl, rfl⟩
theorem isPo59 : isPo 59 := ⟨rfl, rfl⟩
theorem isPo61 : isPo 61 := ⟨rfl, rfl⟩
theorem isPo53 : isPo 53 := ⟨rfl, rfl⟩
theorem isPo55 : isPo 55 := ⟨rfl, rfl⟩
def Ff (I I' : ax_H) : Prop := ∀ c, (c < 57 ∨ 62 < c) → I' c = I c
theorem c_gcd34 {d : Nat} {I0 : ax_H} {Q : Nat → ax_H → Prop} : ∀ (f a b : Nat) (x : Int) (P B : Int → Int) (I : ax_H), ((a = 57 ∧ b = 59) ∨ (a = 59 ∧ b = 57)) → 0 ≤ x → x + f ≤ 2500 → gP P → gP B → szP B ≤ f → cP I a P → cP I b B → wf I 61 → Ff I0 I →
    (∀ q I', (q = 57 ∨ q = 59) → Ff I0 I' → wf I' 57 → wf I' 59 → wf I' 61 → cP I' q (gcP f P B) → Q q I') →
    RA (d + 3) kX2_commonFactor 34 [some (ax_r 15), some (ax_r a), some (ax_r b), some (ax_i x), none] I Q := by
  intro f
  induction f with
  | zero =>
    intro a b x P B I hab x0 x1 hP hB hf hcP hcB hw hu hQ
    have ha : isPo a := by rcases hab with ⟨h, _⟩ | ⟨h, _⟩ <;> rw [h] <;> first | exact isPo57 | exact isPo59
    have hb : isPo b := by rcases hab with ⟨_, h⟩ | ⟨_, h⟩ <;> rw [h] <;> first | exact isPo57 | exact isPo59
    have bB := sz_bd B
    have fin := hQ a I (by omega) hu (by rcases hab with ⟨h, h'⟩ | ⟨h, h'⟩ <;> subst h <;> subst h' <;> first | exact hcP.wf hP | exact hcB.wf hB) (by rcases hab with ⟨h, h'⟩ | ⟨h, h'⟩ <;> subst h <;> subst h' <;> first | exact hcP.wf hP | exact hcB.wf hB) hw hcP
    refine vX2_commonFactor_34 ha hb ⟨by omega, by omega⟩ ⟨fun c => absurd c (by omega), fun _ => ?_⟩
    exact c_isZero hb hcB (fun q => absurd (by omega) q) (fun _ => n1 fin)
  | succ f ih =>
    intro a b x P B I hab x0 x1 hP hB hf hcP hcB hw hu hQ
    have ha : isPo a := by rcases hab with ⟨h, _⟩ | ⟨h, _⟩ <;> rw [h] <;> first | exact isPo57 | exact isPo59
    have hb : isPo b := by rcases hab with ⟨_, h⟩ | ⟨_, h⟩ <;> rw [h] <;> first | exact isPo57 | exact isPo59
    have bB := sz_bd B
    unfold gcP at hQ
    refine vX2_commonFactor_34 ha hb ⟨by omega, by omega⟩ ⟨fun c => absurd c (by omega), fun _ => ?_⟩
    refine c_isZero hb hcB (fun q => n0 ?_) (fun q => n1 ?_)
    · simp only [if_neg q] at hQ
      have r := rem_g hP hB (by omega)
      have g := quo_g hP hB (by omega)
      refine c_divide ha hb isPo61 (by unfold dj; omega) (by unfold dj; omega) (by unfold dj; omega) hP hB (by omega) hcP hcB hw (fun I1 f1 p1 q1 => ?_)
      exact ih b a (x + 1) B (remP P B) I1 (by omega) (by omega) (by omega) hB r.1 (by omega) (f1.cp (by unfold dj; omega) (by unfold dj; omega) hcB) p1 (q1.wf g.1) (fun c hc => by rw [f1 c (by omega) (by omega) (by omega) (by omega), hu c hc]) hQ
    · simp only [if_pos q] at hQ
      exact hQ a I (by omega) hu (by rcases hab with ⟨h, h'⟩ | ⟨h, h'⟩ <;> subst h <;> subst h' <;> first | exact hcP.wf hP | exact hcB.wf hB) (by rcases hab with ⟨h, h'⟩ | ⟨h, h'⟩ <;> subst h <;> subst h' <;> first | exact hcP.wf hP | exact hcB.wf hB) hw hcP
theorem c_gcd {d : Nat} {I : ax_H} {U V : Int → Int} {Q : Nat → ax_H → Prop} (hU : gP U) (hV : gP V) (hcU : cP I 53 U) (hcV : cP I 55 V) (h57 : wf I 57) (h59 : wf I 59) (h61 : wf I 61) (hQ : ∀ q I', (q = 57 ∨ q = 59) → Ff I I' → wf I' 57 → wf I' 59 → wf I' 61 → cP I' q (gcP 1300 U V) → Q q I') : cA (d + 3) kX2_commonFactor [ax_r 15] I Q := by
  refine vX2_commonFactor_0 ?_
  refine c_copyPo isPo57 isPo53 (by unfold dj; omega) hcU (fun I1 f1 c1 => ?_)
  refine c_copyPo isPo59 isPo55 (by unfold dj; omega) (f1.cp (by unfold dj; omega) hcV) (fun I2 f2 c2 => ?_)
  refine c_gcd34 (I0 := I) 1300 57 59 0 U V I2 (by omega) (by omega) (by omega) hU hV (sz_bd V).2 (f2.cp (by unfold dj; omega) c1) c2 (f2.wf (by unfold dj; omega) (f1.wf (by unfold dj; omega) h61)) (fun c hc => by rw [f2 c (by omega) (by omega), f1 c (by omega) (by omega)]) hQ
