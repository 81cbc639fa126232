/-! the class's polynomials -/
def cP (I : ax_H) (a : Nat) (P : Int → Int) : Prop := I a 1 = szP P ∧ ∀ i, 0 ≤ i → i < 1300 → I (a + 1) i = P i
def wf (I : ax_H) (a : Nat) : Prop := (0 ≤ I a 1 ∧ I a 1 ≤ 1300) ∧ ∀ i, I a 1 ≤ i → i < 1300 → I (a + 1) i = 0
theorem cP.of {I I' : ax_H} {a : Nat} {P : Int → Int} (h : cP I a P) (e1 : I' a = I a) (e2 : I' (a + 1) = I (a + 1)) : cP I' a P := by
  unfold cP at *
  rw [e1, e2]; exact h
theorem wf.of {I I' : ax_H} {a : Nat} (h : wf I a) (e1 : I' a = I a) (e2 : I' (a + 1) = I (a + 1)) : wf I' a := by
  unfold wf at *
  rw [e1, e2]; exact h
theorem cP.wf {I : ax_H} {a : Nat} {P : Int → Int} (h : cP I a P) (hP : gP P) : wf I a := by
  have b := sz_bd P
  exact ⟨by rw [h.1]; exact b, fun i h1 h2 => by rw [h.1] at h1; rw [h.2 i (by omega) h2]; exact sz_ge hP h1⟩
def Uf (a : Nat) (I I' : ax_H) : Prop := ∀ b, b ≠ a → b ≠ a + 1 → I' b = I b
theorem Uf.rf (a : Nat) (I : ax_H) : Uf a I I := fun _ _ _ => rfl
theorem Uf.trans {a : Nat} {I I' I'' : ax_H} (h : Uf a I I') (h' : Uf a I' I'') : Uf a I I'' := fun b h1 h2 => (h' b h1 h2).trans (h b h1 h2)
theorem Uf.st0 {a : Nat} {I : ax_H} {p v : Int} : Uf a I (ax_st I a p v) := fun b h1 _ => st_cell h1
theorem Uf.st1 {a : Nat} {I : ax_H} {p v : Int} : Uf a I (ax_st I (a + 1) p v) := fun b _ h2 => st_cell h2
/-- places of two polynomials that have nothing in common -/
def dj (a b : Nat) : Prop := a + 1 < b ∨ b + 1 < a
theorem Uf.cp {a b : Nat} {I I' : ax_H} {P : Int → Int} (h : Uf a I I') (hd : dj a b) (hc : cP I b P) : cP I' b P := by
  unfold dj at hd
  exact hc.of (h b (by omega) (by omega)) (h (b + 1) (by omega) (by omega))
theorem Uf.wf {a b : Nat} {I I' : ax_H} (h : Uf a I I') (hd : dj a b) (hc : wf I b) : wf I' b := by
  unfold dj at hd
  exact hc.of (h b (by omega) (by omega)) (h (b + 1) (by omega) (by omega))
def Z0 : Int → Int := fun _ => 0
theorem Z0_g : gP Z0 := ⟨fun _ => ⟨by show (0 : Int) ≤ 0; decide, by show (0 : Int) < 31; decide⟩, fun _ _ => rfl⟩
theorem Z0_sz : szP Z0 = 0 := sz_eq Z0_g (by omega) (fun _ _ => rfl) (fun h => absurd h (by omega))
theorem c_clear {d a : Nat} {I0 : ax_H} {Q : ax_H → Prop} (ha : isPo a) (h : wf I0 a) (hQ : ∀ I', Uf a I0 I' → cP I' a Z0 → Q I') : cV d kX7_clear [ax_r a] I0 Q := by
  have hb := h.1
  have loop : ∀ (m : Nat) (k : Int) (I : ax_H), k = I0 a 1 - m → (m : Int) ≤ I0 a 1 → Uf a I0 I → I a = I0 a → (∀ i, 0 ≤ i → i < k → I (a + 1) i = 0) → (∀ i, I0 a 1 ≤ i → i < 1300 → I (a + 1) i = 0) → RV d kX7_clear 2 [some (ax_r a), some (ax_i k)] I Q := by
    intro m
    induction m with
    | zero =>
      intro k I hk _ hf ea h1 h2
      have fin : Q (ax_st I a 1 0) := hQ _ (hf.trans Uf.st0) ⟨by rw [st_same, Z0_sz], fun i i0 i1 => by
        rw [st_cell (by omega)]
        rcases Int.lt_or_le i k with q | q
        · exact h1 i i0 q
        · exact h2 i (by omega) i1⟩
      refine vX7_clear_2 ha ⟨by omega, by omega⟩ ⟨fun _ => fin, fun c => absurd (by rw [ea]; omega) c⟩
    | succ m ih =>
      intro k I hk hm hf ea h1 h2
      refine vX7_clear_2 ha ⟨by omega, by omega⟩ ⟨fun c => absurd c (by rw [ea]; omega), fun _ => ⟨fun c => absurd c (by omega), fun _ => ⟨by omega, ?_⟩⟩⟩
      refine ih (k + 1) _ (by omega) (by omega) (hf.trans Uf.st1) (by rw [st_cell (by omega), ea]) (fun i i0 i1 => ?_) (fun i i0 i1 => ?_)
      · rw [st_at]
        split
        · rfl
        · exact h1 i i0 (by omega)
      · rw [st_at]
        split
        · rfl
        · exact h2 i i0 i1
  exact vX7_clear_0 ha (loop (I0 a 1).toNat 0 I0 (by omega) (by omega) (Uf.rf _ _) rfl (fun i i0 i1 => absurd i1 (by omega)) h.2)
theorem c_trim {d a : Nat} {I0 : ax_H} {P : Int → Int} {Q : ax_H → Prop} {x : Int} (ha : isPo a) (hP : gP P) (hx : 0 ≤ x ∧ x ≤ 1300) (hz : ∀ i, x ≤ i → P i = 0) (hc : ∀ i, 0 ≤ i → i < 1300 → I0 (a + 1) i = P i) (hQ : ∀ I', (∀ b, b ≠ a → I' b = I0 b) → cP I' a P → Q I') : cV d kX7_trim [ax_r a, ax_i x] I0 Q := by
  have loop : ∀ (m : Nat) (I : ax_H), (m : Int) ≤ 1300 → I a 1 = m → (∀ b, b ≠ a → I b = I0 b) → (∀ i, (m : Int) ≤ i → P i = 0) → RV d kX7_trim 18 [some (ax_r a), none] I Q := by
    intro m
    induction m with
    | zero =>
      intro I _ e hf h1
      have fin := hQ I hf ⟨by rw [e]; exact (sz_eq hP (by omega) h1 (fun q => absurd q (by omega))).symm, fun i i0 i1 => by rw [hf (a + 1) (by omega)]; exact hc i i0 i1⟩
      exact vX7_trim_18 ha ⟨fun _ => fin, fun c => absurd (by omega) c⟩
    | succ m ih =>
      intro I hm e hf h1
      have e2 : I (a + 1) (I a 1 - 1) = P m := by rw [e, hf (a + 1) (by omega), show ((m + 1 : Nat) : Int) - 1 = m by omega]; exact hc m (by omega) (by omega)
      refine vX7_trim_18 ha ⟨fun c => absurd c (by omega), fun _ => ⟨by omega, fun c => ?_, fun c => ⟨⟨by omega, by omega⟩, ?_⟩⟩⟩
      · rw [e2] at c
        exact hQ I hf ⟨by rw [e]; exact (sz_eq hP (by omega) h1 (fun _ => by rw [show ((m + 1 : Nat) : Int) - 1 = m by omega]; exact c)).symm, fun i i0 i1 => by rw [hf (a + 1) (by omega)]; exact hc i i0 i1⟩
      · rw [e2] at c
        refine ih _ (by omega) (by rw [st_same, e]; omega) (fun b hb => by rw [st_cell hb, hf b hb]) (fun i hi => ?_)
        by_cases q : i = m
        · rw [q]; exact c
        · exact h1 i (by omega)
  refine vX7_trim_0 ha ⟨by omega, by omega⟩ ⟨fun c => loop 1300 _ (by omega) (by rw [st_same]; rfl) (fun b hb => st_cell hb) (fun i hi => hP.2 i (Or.inr hi)), fun c => loop x.toNat _ (by omega) (by rw [st_same]; omega) (fun b hb => st_cell hb) (fun i hi => hz i (by omega))⟩
theorem c_isZero {d a : Nat} {I : ax_H} {P : Int → Int} {Q : Int → ax_H → Prop} (ha : isPo a) (h : cP I a P) (h0 : szP P ≠ 0 → Q 0 I) (h1 : szP P = 0 → Q 1 I) : cI d kX7_isZero [ax_r a] I Q :=
  vX7_isZero_0 ha ⟨fun c => h0 (by rw [← h.1]; exact c), fun c => h1 (by rw [← h.1]; exact c)⟩
theorem c_copyPo {d a b : Nat} {I : ax_H} {P : Int → Int} {Q : ax_H → Prop} (ha : isPo a) (hb : isPo b) (hd : dj a b) (h : cP I b P) (hQ : ∀ I', Uf a I I' → cP I' a P → Q I') : cV (d + 1) kX7_copyFrom [ax_r a, ax_r b] I Q := by
  unfold dj at hd
  refine vX7_copyFrom_0 ha hb ?_
  refine hQ _ (fun c h1 h2 => by rw [st_cell h1, cp_cell h2]) ⟨?_, fun i i0 i1 => ?_⟩
  · rw [st_same, cp_cell (by omega)]; exact h.1
  · rw [st_cell (by omega), cp_at (by omega), show (0 : Int) + (i - 0) = i by omega]
    exact h.2 i i0 i1
def Kp (c : Int) : Int → Int := fun k => if k = 0 then c else 0
def Tp : Int → Int := fun k => if k = 1 then 1 else 0
theorem Kp_g {c : Int} (hc : nm c) : gP (Kp c) := ⟨fun i => by
  unfold Kp
  split
  · exact hc
  · exact ⟨by decide, by decide⟩, fun i hi => if_neg (by omega)⟩
theorem Kp_sz {c : Int} (hc : nm c) : szP (Kp c) = if c = 0 then 0 else 1 := by
  split
  · rename_i e
    exact sz_eq (Kp_g hc) (by omega) (fun i _ => by unfold Kp; rw [e]; split <;> rfl) (fun h => absurd h (by omega))
  · rename_i e
    exact sz_eq (Kp_g hc) (by omega) (fun i hi => if_neg (by omega)) (fun _ => by unfold Kp; rw [if_pos (by omega)]; exact e)
theorem Tp_g : gP Tp := ⟨fun i => by
  unfold Tp
  split <;> exact ⟨by decide, by decide⟩, fun i hi => if_neg (by omega)⟩
theorem Tp_sz : szP Tp = 2 := sz_eq Tp_g (by omega) (fun i hi => if_neg (by omega)) (fun _ => by unfold Tp; rw [if_pos (by omega)]; decide)
theorem c_number {d a : Nat} {I : ax_H} {Q : ax_H → Prop} {c : Int} (ha : isPo a) (h : wf I a) (hc : nm c) (hQ : ∀ I', Uf a I I' → cP I' a (Kp c) → Q I') : cV (d + 2) kX7_becomeNumber [ax_r a, ax_i c] I Q := by
  refine vX7_becomeNumber_0 ha ?_
  refine c_clear ha h (fun I1 f1 c1 => ?_)
  refine c_modulo (nm_R hc) ⟨ax_mod31 _, ?_⟩
  rw [nm_self hc]
  refine c_trim (P := Kp c) ha (Kp_g hc) (by decide) (fun i hi => if_neg (by omega)) (fun i i0 i1 => ?_) (fun I' f' c' => hQ I' ((f1.trans Uf.st1).trans (fun b h1 _ => f' b h1)) c')
  rw [st_at]
  unfold Kp
  split
  · rfl
  · exact c1.2 i i0 i1
theorem c_unknown {d a : Nat} {I : ax_H} {Q : ax_H → Prop} (ha : isPo a) (h : wf I a) (hQ : ∀ I', Uf a I I' → cP I' a Tp → Q I') : cV (d + 1) kX7_becomeUnknown [ax_r a] I Q := by
  refine vX7_becomeUnknown_0 ha ?_
  refine c_clear ha h (fun I1 f1 c1 => ?_)
  refine hQ _ ((f1.trans Uf.st1).trans Uf.st0) ⟨by rw [st_same, Tp_sz], fun i i0 i1 => ?_⟩
  rw [st_cell (by omega), st_at]
  unfold Tp
  split
  · rfl
  · exact c1.2 i i0 i1
/-- P and x times S -/
def aP (P : Int → Int) (x : Int) (S : Int → Int) : Int → Int := fun k => (P k + x * S k) % 31
theorem aP_g {P S : Int → Int} {x : Int} {N : Int} (hN : N ≤ 1300) (hP : zB P N) (hS : zB S N) : gP (aP P x S) ∧ zB (aP P x S) N := by
  have z : zB (aP P x S) N := fun i hi => by
    unfold aP
    rw [hP i hi, hS i hi, Int.mul_zero]; rfl
  exact ⟨gP_of (fun i => nm_mod _) z hN, z⟩
theorem c_addTimes {d a b : Nat} {I0 : ax_H} {P S : Int → Int} {Q : ax_H → Prop} {x : Int} (ha : isPo a) (hb : isPo b) (hd : dj a b) (hP : gP P) (hS : gP S) (hcP : cP I0 a P) (hcS : cP I0 b S) (hx : nm x) (hQ : ∀ I', Uf a I0 I' → cP I' a (aP P x S) → Q I') : cV (d + 2) kX7_addTimes [ax_r a, ax_r b, ax_i x] I0 Q := by
  have hd2 := hd
  unfold dj at hd2
  have bP := sz_bd P
  have bS := sz_bd S
  have N1 : ∃ N, N = (if szP P < szP S then szP S else szP P) := ⟨_, rfl⟩
  obtain ⟨N, hN⟩ := N1
  have hN2 : szP P ≤ N ∧ szP S ≤ N ∧ N ≤ 1300 ∧ 0 ≤ N := by split at hN <;> omega
  have g := aP_g (x := x) hN2.2.2.1 (hP.zb.mono hN2.1) (hS.zb.mono hN2.2.1)
  have loop : ∀ (m : Nat) (k : Int) (I : ax_H), k = szP S - m → (m : Int) ≤ szP S → Uf a I0 I → I a = I0 a → (∀ i, 0 ≤ i → i < k → I (a + 1) i = aP P x S i) → (∀ i, k ≤ i → i < 1300 → I (a + 1) i = P i) → RV (d + 2) kX7_addTimes 2 [some (ax_r a), some (ax_r b), some (ax_i x), some (ax_i k)] I Q := by
    intro m
    induction m with
    | zero =>
      intro k I hk _ hf ea h1 h2
      have eb : I b = I0 b := hf b (by omega) (by omega)
      refine vX7_addTimes_2 ha hb ⟨by omega, by omega⟩ ⟨fun _ => ?_, fun c => absurd (by rw [eb, hcS.1]; omega) c⟩
      rw [ea, eb, hcP.1, hcS.1]
      refine j_max ⟨by omega, by omega⟩ ⟨by omega, by omega⟩ ?_
      rw [← hN]
      refine c_trim (P := aP P x S) ha g.1 ⟨hN2.2.2.2, hN2.2.2.1⟩ (fun i hi => g.2 i (Or.inr hi)) (fun i i0 i1 => ?_) (fun I' f' c' => hQ I' (hf.trans (fun c h1 _ => f' c h1)) c')
      rcases Int.lt_or_le i k with q | q
      · exact h1 i i0 q
      · rw [h2 i q i1]
        unfold aP
        rw [sz_ge hS (show szP S ≤ i by omega), Int.mul_zero, Int.add_zero]
        exact (nm_self (hP.1 i)).symm
    | succ m ih =>
      intro k I hk hm hf ea h1 h2
      have eb : I b = I0 b := hf b (by omega) (by omega)
      have eb2 : I (b + 1) = I0 (b + 1) := hf (b + 1) (by omega) (by omega)
      refine vX7_addTimes_2 ha hb ⟨by omega, by omega⟩ ⟨fun c => absurd c (by rw [eb, hcS.1]; omega), fun _ => ⟨fun c => absurd c (by omega), fun _ => ⟨by omega, ?_⟩⟩⟩
      rw [h2 k (Int.le_refl _) (by omega), eb2, hcS.2 k (by omega) (by omega)]
      have p1 := hP.1 k
      have s1 := hS.1 k
      have bd := md_bd hx.1 (show x ≤ 30 by have := hx.2; omega) s1.1 (show _ ≤ 30 by have := s1.2; omega)
      refine c_modulo ⟨by have := p1.1; omega, by have := p1.2; omega⟩ ⟨ax_mod31 _, ?_⟩
      refine ih (k + 1) _ (by omega) (by omega) (hf.trans Uf.st1) (by rw [st_cell (by omega), ea]) (fun i i0 i1 => ?_) (fun i i0 i1 => ?_)
      · rw [st_at]
        split
        · rename_i e; rw [e]; rfl
        · exact h1 i i0 (by omega)
      · rw [st_ne (Or.inr (by omega))]
        exact h2 i (by omega) i1
  exact vX7_addTimes_0 ha hb (loop (szP S).toNat 0 I0 (by omega) (by omega) (Uf.rf _ _) rfl (fun i i0 i1 => absurd i1 (by omega)) (fun i i0 i1 => hcP.2 i (by omega) i1))
/-- P and a product, with a sign -/
def pP (P : Int → Int) (sg : Int) (A B : Int → Int) : Int → Int := fun k => (P k + sg * cv A B k 1300) % 31
theorem pP_g {P A B : Int → Int} {sg : Int} {N p q : Int} (hN : N ≤ 1300) (hP : zB P N) (hA : zB A p) (hB : zB B q) (hpq : p + q - 1 ≤ N) : gP (pP P sg A B) ∧ zB (pP P sg A B) N := by
  have z : zB (pP P sg A B) N := fun i hi => by
    unfold pP
    rw [hP i hi, cv_z hA hB (by omega), Int.mul_zero]; rfl
  exact ⟨gP_of (fun i => nm_mod _) z hN, z⟩
theorem c_ap34 {d a b c : Nat} {I0 : ax_H} {F B : Int → Int} {Q : ax_H → Prop} {sg f x4 : Int} (ha : isPo a) (hb : isPo b) (hc : isPo c) (hd : dj a c) (hB : gP B) (hcB : cP I0 c B) (hx4 : 0 ≤ x4 ∧ x4 + szP B ≤ 1300) (hf : -30 ≤ f ∧ f ≤ 30) (hF : ∀ k, -1200000 ≤ F k ∧ F k ≤ 1200000) (hI0 : ∀ k, 0 ≤ k → k < 1300 → I0 (a + 1) k = F k)
    (K : ∀ I', Uf a I0 I' → I' a = I0 a → (∀ k, 0 ≤ k → k < 1300 → I' (a + 1) k = F k + f * B (k - x4)) → RV (d + 2) kX7_addProduct 3 [some (ax_r a), some (ax_r b), some (ax_r c), some (ax_i sg), some (ax_i (x4 + 1)), none, none] I' Q) : ∀ (m : Nat) (j : Int) (I : ax_H), j = szP B - m → (m : Int) ≤ szP B → Uf a I0 I → I a = I0 a → (∀ k, 0 ≤ k → k < 1300 → I (a + 1) k = F k + if 0 ≤ k - x4 ∧ k - x4 < j then f * B (k - x4) else 0) →
    RV (d + 2) kX7_addProduct 34 [some (ax_r a), some (ax_r b), some (ax_r c), some (ax_i sg), some (ax_i x4), some (ax_i f), some (ax_i j)] I Q := by
  have hd2 := hd
  unfold dj at hd2
  have bB := sz_bd B
  intro m
  induction m with
  | zero =>
    intro j I hj _ hu ea h1
    have ec : I c = I0 c := hu c (by omega) (by omega)
    have fin := K I hu ea (fun k k0 k1 => by
      rw [h1 k k0 k1]
      split
      · rfl
      · rename_i q
        rw [hB.zb (k - x4) (by omega), Int.mul_zero])
    exact vX7_addProduct_34 ha hb hc ⟨by omega, by omega⟩ ⟨by omega, by omega⟩ ⟨fun _ => fin, fun _ => ⟨fun _ => fin, fun q => absurd (by rw [ec, hcB.1]; omega) q⟩⟩
  | succ m ih =>
    intro j I hj hm hu ea h1
    have ec : I c = I0 c := hu c (by omega) (by omega)
    have ec2 : I (c + 1) = I0 (c + 1) := hu (c + 1) (by omega) (by omega)
    have eB := hcB.2 j (by omega) (by omega)
    have nB := hB.1 j
    have e1 := h1 (x4 + j) (by omega) (by omega)
    rw [if_neg (by omega), Int.add_zero] at e1
    have hF1 := hF (x4 + j)
    refine vX7_addProduct_34 ha hb hc ⟨by omega, by omega⟩ ⟨by omega, by omega⟩ ⟨fun q => ?_, fun q => ⟨fun r => absurd r (by rw [ec, hcB.1]; omega), fun _ => ⟨⟨by omega, by omega⟩, fun r => absurd r (by omega), fun _ => ⟨by omega, by omega, ?_⟩⟩⟩⟩
    · refine K I hu ea (fun k k0 k1 => ?_)
      rw [h1 k k0 k1, q]
      simp
    · rw [ec2, eB, e1]
      have bd : -900 ≤ f * B j ∧ f * B j ≤ 900 := by
        have n1 := nB.1
        have n2 := nB.2
        rcases Int.le_total 0 f with s | s
        · have := md_bd s hf.2 n1 (show B j ≤ 30 by omega); omega
        · have := md_bd (show 0 ≤ -f by omega) (show -f ≤ 30 by omega) n1 (show B j ≤ 30 by omega)
          rw [Int.neg_mul] at this; omega
      refine ⟨⟨by omega, by omega⟩, ?_⟩
      refine ih (j + 1) _ (by omega) (by omega) (hu.trans Uf.st1) (by rw [st_cell (by omega), ea]) (fun k k0 k1 => ?_)
      rw [st_at]
      by_cases e : k = x4 + j
      · rw [if_pos e, if_pos (by omega), e, show x4 + j - x4 = j by omega]
      · rw [if_neg e, h1 k k0 k1]
        by_cases r : 0 ≤ k - x4 ∧ k - x4 < j
        · rw [if_pos r, if_pos (by omega)]
        · rw [if_neg r, if_neg (by omega)]
theorem c_ap121 {d a : Nat} {I0 : ax_H} {N P : Int → Int} {Q : ax_H → Prop} {E : Int} (ha : isPo a) (hE : 0 ≤ E ∧ E ≤ 1300) (hN : ∀ k, ax_R (N k)) (hP : gP P) (hz : ∀ i, E ≤ i → P i = 0) (hNP : ∀ k, 0 ≤ k → k < 1300 → N k % 31 = P k) (hNz : ∀ k, E ≤ k → k < 1300 → N k = 0)
    (hQ : ∀ I', Uf a I0 I' → cP I' a P → Q I') : ∀ (m : Nat) (j : Int) (I : ax_H), j = E - m → (m : Int) ≤ E → Uf a I0 I → (∀ k, 0 ≤ k → k < 1300 → I (a + 1) k = if k < j then P k else N k) →
    RV (d + 2) kX7_addProduct 121 [some (ax_r a), none, none, none, some (ax_i E), some (ax_i j), none] I Q := by
  intro m
  induction m with
  | zero =>
    intro j I hj _ hu h1
    refine vX7_addProduct_121 ha ⟨by omega, by omega⟩ ⟨by omega, by omega⟩ ⟨fun _ => ?_, fun c => absurd (by omega) c⟩
    refine c_trim (P := P) ha hP hE hz (fun i i0 i1 => ?_) (fun I' f' c' => hQ I' (hu.trans (fun c h1 _ => f' c h1)) c')
    rw [h1 i i0 i1]
    split
    · rfl
    · rw [hNz i (by omega) i1, hz i (by omega)]
  | succ m ih =>
    intro j I hj hm hu h1
    have e1 := h1 j (by omega) (by omega)
    rw [if_neg (by omega)] at e1
    refine vX7_addProduct_121 ha ⟨by omega, by omega⟩ ⟨by omega, by omega⟩ ⟨fun c => absurd c (by omega), fun _ => ⟨by omega, ?_⟩⟩
    rw [e1]
    refine c_modulo (hN j) ⟨ax_mod31 _, ?_⟩
    rw [hNP j (by omega) (by omega)]
    refine ih (j + 1) _ (by omega) (by omega) (hu.trans Uf.st1) (fun k k0 k1 => ?_)
    rw [st_at]
    by_cases e : k = j
    · rw [if_pos e, if_pos (by omega), e]
    · rw [if_neg e, h1 k k0 k1]
      by_cases r : k < j
      · rw [if_pos r, if_pos (by omega)]
      · rw [if_neg r, if_neg (by omega)]
theorem c_addProduct {d a b c : Nat} {I0 : ax_H} {P A B : Int → Int} {Q : ax_H → Prop} {sg : Int} (ha : isPo a) (hb : isPo b) (hc : isPo c) (hab : dj a b) (hac : dj a c) (hs : sg = 1 ∨ sg = -1) (hP : gP P) (hA : gP A) (hB : gP B) (hcP : cP I0 a P) (hcA : cP I0 b A) (hcB : cP I0 c B) (hpq : szP A + szP B ≤ 1300)
    (hQ : ∀ I', Uf a I0 I' → cP I' a (pP P sg A B) → Q I') : cV (d + 2) kX7_addProduct [ax_r a, ax_r b, ax_r c, ax_i sg] I0 Q := by
  have hab2 := hab
  have hac2 := hac
  unfold dj at hab2 hac2
  have bP := sz_bd P
  have bA := sz_bd A
  have bB := sz_bd B
  have sgz : ∀ z : Int, sg * z = z ∨ sg * z = -z := fun z => by
    rcases hs with e | e
    · rw [e, Int.one_mul]; exact Or.inl rfl
    · rw [e, Int.neg_mul, Int.one_mul]; exact Or.inr rfl
  have Fb : ∀ (i : Nat) (k : Int), i ≤ 1300 → -1200000 ≤ P k + sg * cv A B k i ∧ P k + sg * cv A B k i ≤ 1200000 := fun i k hi => by
    have h1 := cv_bd hA.1 hB.1 k i
    have h2 := hP.1 k
    have h3 := h2.1
    have h4 := h2.2
    rcases sgz (cv A B k i) with e | e <;> omega
  have loop : ∀ (m i : Nat) (I : ax_H), (i : Int) + m = szP A → Uf a I0 I → I a = I0 a → (∀ k, 0 ≤ k → k < 1300 → I (a + 1) k = P k + sg * cv A B k i) → RV (d + 2) kX7_addProduct 3 [some (ax_r a), some (ax_r b), some (ax_r c), some (ax_i sg), some (ax_i (i : Int)), none, none] I Q := by
    intro m
    induction m with
    | zero =>
      intro i I hi hu ea h1
      have eb : I b = I0 b := hu b (by omega) (by omega)
      have ec : I c = I0 c := hu c (by omega) (by omega)
      have ei : i = (szP A).toNat := by omega
      have h2 : ∀ k, 0 ≤ k → k < 1300 → I (a + 1) k = P k + sg * cv A B k 1300 := fun k k0 k1 => by rw [h1 k k0 k1, ei, cv_1300 hA]
      obtain ⟨M, hM⟩ : ∃ M, M = if szP P < szP A + szP B then szP A + szP B else szP P := ⟨_, rfl⟩
      have hM2 : szP P ≤ M ∧ szP A + szP B ≤ M ∧ 0 ≤ M ∧ M ≤ 1300 := by split at hM <;> omega
      have g := pP_g (sg := sg) (N := M) (by omega) (hP.zb.mono hM2.1) hA.zb hB.zb (by omega)
      refine vX7_addProduct_3 ha hb hc ⟨by omega, by omega⟩ ⟨fun _ => ?_, fun q => absurd (by rw [eb, hcA.1]; omega) q⟩
      rw [ea, eb, ec, hcP.1, hcA.1, hcB.1]
      refine j_max ⟨by omega, by omega⟩ ⟨by omega, by omega⟩ ?_
      rw [← hM]
      refine j_min (by decide) ⟨by omega, by omega⟩ ?_
      rw [show (if M < 1300 then M else 1300) = M by split <;> omega]
      refine c_ap121 (I0 := I) (N := fun k => P k + sg * cv A B k 1300) (P := pP P sg A B) (E := M) ha ⟨hM2.2.2.1, hM2.2.2.2⟩ (fun k => by have := Fb 1300 k (Nat.le_refl _); exact ⟨by omega, by omega⟩) g.1 (fun i hi => g.2 i (Or.inr hi)) (fun k _ _ => rfl) (fun k k0 k1 => ?_) (fun I' f' c' => hQ I' (hu.trans f') c') M.toNat 0 I (by omega) (by omega) (Uf.rf _ _) (fun k k0 k1 => by rw [if_neg (by omega)]; exact h2 k k0 k1)
      show P k + sg * cv A B k 1300 = 0
      rw [hP.zb k (by omega), cv_z hA.zb hB.zb (by omega), Int.mul_zero]; rfl
    | succ m ih =>
      intro i I hi hu ea h1
      have eb : I b = I0 b := hu b (by omega) (by omega)
      have eb2 : I (b + 1) = I0 (b + 1) := hu (b + 1) (by omega) (by omega)
      have hcB' : cP I c B := hu.cp hac hcB
      have eA := hcA.2 i (by omega) (by omega)
      have nA := hA.1 i
      refine vX7_addProduct_3 ha hb hc ⟨by omega, by omega⟩ ⟨fun q => absurd q (by rw [eb, hcA.1]; omega), fun _ => ⟨fun q => absurd q (by omega), fun _ => ⟨by omega, ?_⟩⟩⟩
      intro f hf
      rw [eb2, eA] at hf
      have hfb : -30 ≤ f ∧ f ≤ 30 := by
        have n1 := nA.1
        have n2 := nA.2
        rcases sgz (A i) with e | e <;> omega
      refine c_ap34 (I0 := I) (F := fun k => P k + sg * cv A B k i) ha hb hc hac hB hcB' ⟨by omega, by omega⟩ hfb (fun k => Fb i k (by omega)) h1 (fun I' f' e' h' => ?_) (szP B).toNat 0 I (by omega) (by omega) (Uf.rf _ _) rfl (fun k k0 k1 => by rw [if_neg (by omega), Int.add_zero]; exact h1 k k0 k1)
      rw [show (i : Int) + 1 = ((i + 1 : Nat) : Int) by omega]
      refine ih (i + 1) I' (by omega) (hu.trans f') (by rw [e', ea]) (fun k k0 k1 => ?_)
      rw [h' k k0 k1, cv_suc, hf]
      show P k + sg * cv A B k i + sg * A i * B (k - i) = _
      rw [Int.mul_add, Int.mul_assoc, Int.add_assoc]
  exact vX7_addProduct_0 ha hb hc (loop (szP A).toNat 0 I0 (by omega) (Uf.rf _ _) rfl (fun k k0 k1 => by
    rw [show cv A B k 0 = 0 from rfl, Int.mul_zero, Int.add_zero]; exact hcP.2 k k0 k1))
