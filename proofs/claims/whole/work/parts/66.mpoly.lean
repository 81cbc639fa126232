/-! the reference's polynomials -/
def mP (I : ax_H) (a : Nat) (P : Int → Int) : Prop := I a 0 = szP P - 1 ∧ ∀ i, 0 ≤ i → i < szP P → I a (i + 1) = P i
theorem mP.of {I I' : ax_H} {a : Nat} {P : Int → Int} (h : mP I a P) (e : I' a = I a) : mP I' a P := by
  unfold mP at *
  rw [e]; exact h
def Of (a : Nat) (I I' : ax_H) : Prop := ∀ b, b ≠ a → I' b = I b
theorem Of.rf (a : Nat) (I : ax_H) : Of a I I := fun _ _ => rfl
theorem Of.trans {a : Nat} {I I' I'' : ax_H} (h : Of a I I') (h' : Of a I' I'') : Of a I I'' := fun b h1 => (h' b h1).trans (h b h1)
theorem Of.st {a : Nat} {I : ax_H} {p v : Int} : Of a I (ax_st I a p v) := fun b h1 => st_cell h1
theorem Of.mp {a b : Nat} {I I' : ax_H} {P : Int → Int} (h : Of a I I') (hd : b ≠ a) (hc : mP I b P) : mP I' b P := hc.of (h b hd)
theorem m_becomes {d a b : Nat} {I0 : ax_H} {P : Int → Int} {Q : ax_H → Prop} (ha : isAr a) (hb : isAr b) (hd : a ≠ b) (h : mP I0 b P) (hQ : ∀ I', Of a I0 I' → mP I' a P → Q I') : cV d kX11_becomes [ax_r a, ax_r b] I0 Q := by
  have bP := sz_bd P
  have loop : ∀ (m : Nat) (k : Int) (I : ax_H), k = szP P + 1 - m → (m : Int) ≤ szP P + 1 → Of a I0 I → (∀ i, 0 ≤ i → i < k → I a i = I0 b i) → RV d kX11_becomes 2 [some (ax_r a), some (ax_r b), some (ax_i k)] I Q := by
    intro m
    induction m with
    | zero =>
      intro k I hk _ hf h1
      have eb : I b = I0 b := hf b (fun e => hd e.symm)
      refine vX11_becomes_2 ha hb ⟨by omega, by omega⟩ ⟨by rw [eb, h.1]; exact ⟨by omega, by omega⟩, fun _ => hQ I hf ⟨?_, fun i i0 i1 => ?_⟩, fun c => absurd (by rw [eb, h.1]; omega) c⟩
      · rw [h1 0 (by omega) (by omega)]; exact h.1
      · rw [h1 (i + 1) (by omega) (by omega)]; exact h.2 i i0 i1
    | succ m ih =>
      intro k I hk hm hf h1
      have eb : I b = I0 b := hf b (fun e => hd e.symm)
      refine vX11_becomes_2 ha hb ⟨by omega, by omega⟩ ⟨by rw [eb, h.1]; exact ⟨by omega, by omega⟩, fun c => absurd c (by rw [eb, h.1]; omega), fun _ => ⟨by omega, ?_⟩⟩
      refine ih (k + 1) _ (by omega) (by omega) (hf.trans Of.st) (fun i i0 i1 => ?_)
      rw [st_at, eb]
      split
      · rename_i e; rw [e]
      · exact h1 i i0 (by omega)
  exact vX11_becomes_0 ha hb (loop (szP P + 1).toNat 0 I0 (by omega) (by omega) (Of.rf _ _) (fun i i0 i1 => absurd i1 (by omega)))
theorem m_constant {d a : Nat} {I : ax_H} {Q : ax_H → Prop} {c : Int} (ha : isAr a) (hc : nm c) (hQ : ∀ I', Of a I I' → mP I' a (Kp c) → Q I') : cV d kX11_constant [ax_r a, ax_i c] I Q := by
  refine vX11_constant_0 ha (nm_R hc) ⟨fun e => ?_, fun e => ?_⟩
  · refine hQ _ (Of.st.trans Of.st) ⟨?_, fun i i0 i1 => ?_⟩
    · rw [st_ne (Or.inr (by decide)), st_same, Kp_sz hc, if_neg e]; rfl
    · rw [Kp_sz hc, if_neg e] at i1
      rw [show i = 0 by omega, show (0 : Int) + 1 = 1 from rfl, st_same]
      unfold Kp; rw [if_pos rfl]
  · refine hQ _ (Of.st.trans Of.st) ⟨?_, fun i i0 i1 => ?_⟩
    · rw [st_ne (Or.inr (by decide)), st_same, Kp_sz hc, if_pos e]; rfl
    · rw [Kp_sz hc, if_pos e] at i1
      omega
theorem m_trims {d a : Nat} {I0 : ax_H} {P : Int → Int} {Q : ax_H → Prop} {x : Int} (ha : isAr a) (hP : gP P) (hx : -1 ≤ x ∧ x ≤ 1400) (hz : ∀ i, x < i → P i = 0) (hc : ∀ i, 0 ≤ i → i ≤ x → I0 a (i + 1) = P i) (hQ : ∀ I', Of a I0 I' → mP I' a P → Q I') : cV d kX11_trims [ax_r a, ax_i x] I0 Q := by
  have loop : ∀ (m : Nat) (I : ax_H), (m : Int) ≤ x + 1 → I a 0 = (m : Int) - 1 → Of a I0 I → (∀ i, 0 ≤ i → i ≤ x → I a (i + 1) = P i) → (∀ i, (m : Int) ≤ i → P i = 0) → RV d kX11_trims 4 [some (ax_r a), none] I Q := by
    intro m
    induction m with
    | zero =>
      intro I _ e hf h1 h2
      have es : szP P = 0 := sz_eq hP (by omega) h2 (fun q => absurd q (by omega))
      have fin := hQ I hf ⟨by rw [e, es]; rfl, fun i i0 i1 => absurd i1 (by omega)⟩
      exact vX11_trims_4 ha ⟨fun _ => fin, fun c => absurd (by omega) c⟩
    | succ m ih =>
      intro I hm e hf h1 h2
      have e2 : I a (I a 0 + 1) = P m := by rw [e, show ((m + 1 : Nat) : Int) - 1 + 1 = (m : Int) + 1 by omega]; exact h1 m (by omega) (by omega)
      refine vX11_trims_4 ha ⟨fun c => absurd c (by omega), fun _ => ⟨by omega, fun c => ?_, fun c => ⟨⟨by omega, by omega⟩, ?_⟩⟩⟩
      · rw [e2] at c
        have es : szP P = ((m + 1 : Nat) : Int) := sz_eq hP (by omega) h2 (fun _ => by rw [show ((m + 1 : Nat) : Int) - 1 = m by omega]; exact c)
        exact hQ I hf ⟨by rw [e, es], fun i i0 i1 => h1 i i0 (by omega)⟩
      · rw [e2] at c
        refine ih _ (by omega) (by rw [st_same, e]; omega) (hf.trans Of.st) (fun i i0 i1 => by rw [st_ne (Or.inr (by omega))]; exact h1 i i0 i1) (fun i hi => ?_)
        by_cases q : i = m
        · rw [q]; exact c
        · exact h2 i (by omega)
  refine vX11_trims_0 ha ⟨by omega, by omega⟩ (loop (x + 1).toNat _ (by omega) (by rw [st_same]; omega) Of.st (fun i i0 i1 => by rw [st_ne (Or.inr (by omega))]; exact hc i i0 i1) (fun i hi => hz i (by omega)))
theorem m_sums {d a b c : Nat} {I0 : ax_H} {B C : Int → Int} {Q : ax_H → Prop} {x y : Int} (ha : isAr a) (hb : isAr b) (hc : isAr c) (hab : a ≠ b) (hac : a ≠ c) (hx : nm x) (hy : nm y) (hB : gP B) (hC : gP C) (hmB : mP I0 b B) (hmC : mP I0 c C) (hQ : ∀ I', Of a I0 I' → mP I' a (sP x B y C) → Q I') : cV (d + 1) kX11_sums [ax_r a, ax_i x, ax_r b, ax_i y, ax_r c] I0 Q := by
  have bB := sz_bd B
  have bC := sz_bd C
  have run : ∀ D : Int, szP B - 1 ≤ D → szP C - 1 ≤ D → (D = szP B - 1 ∨ D = szP C - 1) → RV (d + 1) kX11_sums 25 [some (ax_r a), some (ax_i x), some (ax_r b), some (ax_i y), some (ax_r c), some (ax_i D), some (ax_i 0)] I0 Q := by
    intro D h1 h2 h3
    have z : zB (sP x B y C) (D + 1) := sP_zb hB.zb hC.zb (by omega) (by omega)
    have g : gP (sP x B y C) := gP_of (fun i => nm_mod _) z (by omega)
    have loop : ∀ (m : Nat) (k : Int) (I : ax_H), k = D + 1 - m → (m : Int) ≤ D + 1 → Of a I0 I → (∀ i, 0 ≤ i → i < k → I a (i + 1) = sP x B y C i) → RV (d + 1) kX11_sums 25 [some (ax_r a), some (ax_i x), some (ax_r b), some (ax_i y), some (ax_r c), some (ax_i D), some (ax_i k)] I Q := by
      intro m
      induction m with
      | zero =>
        intro k I hk _ hf hA
        refine vX11_sums_25 ha hb hc ⟨by omega, by omega⟩ ⟨by omega, by omega⟩ ⟨fun _ => ?_, fun q => absurd (by omega) q⟩
        exact m_trims (P := sP x B y C) ha g ⟨by omega, by omega⟩ (fun i hi => z i (Or.inr (by omega))) (fun i i0 i1 => hA i i0 (by omega)) (fun I' f' p' => hQ I' (hf.trans f') p')
      | succ m ih =>
        intro k I hk hm hf hA
        have eb : I b = I0 b := hf b (fun e => hab e.symm)
        have ec : I c = I0 c := hf c (fun e => hac e.symm)
        have nb := hB.1 k
        have nc := hC.1 k
        have bx := md_bd hx.1 (show x ≤ 30 by have := hx.2; omega) nb.1 (show _ ≤ 30 by have := nb.2; omega)
        have by' := md_bd hy.1 (show y ≤ 30 by have := hy.2; omega) nc.1 (show _ ≤ 30 by have := nc.2; omega)
        have nx : ∀ v, v = sP x B y C k → RV (d + 1) kX11_sums 25 [some (ax_r a), some (ax_i x), some (ax_r b), some (ax_i y), some (ax_r c), some (ax_i D), some (ax_i (k + 1))] (ax_st I a (k + 1) v) Q := by
          intro v hv
          refine ih (k + 1) _ (by omega) (by omega) (hf.trans Of.st) (fun i i0 i1 => ?_)
          rw [st_at]
          by_cases e : i = k
          · rw [if_pos (by omega), e]; exact hv
          · rw [if_neg (by omega)]; exact hA i i0 (by omega)
        have z1 : szP B - 1 < k → B k = 0 := fun q => sz_ge hB (by omega)
        have z2 : szP C - 1 < k → C k = 0 := fun q => sz_ge hC (by omega)
        refine vX11_sums_25 ha hb hc ⟨by omega, by omega⟩ ⟨by omega, by omega⟩ ⟨fun q => absurd q (by omega), fun _ => ?_⟩
        rw [eb, ec, hmB.1, hmC.1]
        refine ⟨fun q => ⟨fun r => ?_, fun r => ⟨by omega, ?_⟩⟩, fun q => ⟨by omega, fun r => ?_, fun r => ?_⟩⟩
        · refine m_mod (by rw [Int.mul_zero, Int.mul_zero]; decide) ⟨by omega, ax_mod31 _, nx _ ?_⟩
          unfold sP; rw [z1 q, z2 r]
        · rw [hmC.2 k (by omega) (by omega)]
          refine m_mod (by rw [Int.mul_zero]; exact ⟨by omega, by omega⟩) ⟨ax_mod31 _, nx _ ?_⟩
          unfold sP; rw [z1 q]
        · rw [hmB.2 k (by omega) (by omega)]
          refine m_mod (by rw [Int.mul_zero]; exact ⟨by omega, by omega⟩) ⟨ax_mod31 _, nx _ ?_⟩
          unfold sP; rw [z2 r]
        · rw [hmB.2 k (by omega) (by omega), hmC.2 k (by omega) (by omega)]
          exact m_mod ⟨by omega, by omega⟩ ⟨ax_mod31 _, nx _ rfl⟩
    exact loop (D + 1).toNat 0 I0 (by omega) (by omega) (Of.rf _ _) (fun i i0 i1 => absurd i1 (by omega))
  refine vX11_sums_0 ha hb hc ?_
  rw [hmB.1, hmC.1]
  exact ⟨fun q => run _ (by omega) (by omega) (Or.inr rfl), fun q => run _ (by omega) (by omega) (Or.inl rfl)⟩
theorem m_times {d a b c : Nat} {I0 : ax_H} {A B : Int → Int} {Q : ax_H → Prop} (ha : isAr a) (hb : isAr b) (hc : isAr c) (hab : a ≠ b) (hac : a ≠ c) (hA : gP A) (hB : gP B) (hmA : mP I0 b A) (hmB : mP I0 c B) (hpq : szP A + szP B ≤ 1301) (hQ : ∀ I', Of a I0 I' → mP I' a (mulP A B) → Q I') : cV (d + 1) kX11_times [ax_r a, ax_r b, ax_r c] I0 Q := by
  have bA := sz_bd A
  have bB := sz_bd B
  have run : ∀ D : Int, (D = szP A + szP B - 2 ∧ 0 < szP A ∧ 0 < szP B) ∨ (D = -1 ∧ (szP A ≤ 0 ∨ szP B ≤ 0)) → RV (d + 1) kX11_times 27 [some (ax_r a), some (ax_r b), some (ax_r c), some (ax_i D), some (ax_i 0), none] I0 Q := by
    intro D hD
    have z : zB (mulP A B) (D + 1) := by
      rcases hD with ⟨h, _, _⟩ | ⟨h, h'⟩
      · exact (mul_zb hA.zb hB.zb).mono (by omega)
      · exact (mul_zb0 hA.zb hB.zb h').mono (by omega)
    have g : gP (mulP A B) := gP_of (fun i => nm_mod _) z (by omega)
    -- rows of the inner loop
    have inner : ∀ (i : Nat) (I1 : ax_H), (i : Int) < szP A → Of a I0 I1 → (∀ k, 0 ≤ k → k ≤ D → I1 a (k + 1) = cv A B k i % 31) → (∀ I', Of a I0 I' → (∀ k, 0 ≤ k → k ≤ D → I' a (k + 1) = cv A B k (i + 1) % 31) → RV (d + 1) kX11_times 49 [some (ax_r a), some (ax_r b), some (ax_r c), some (ax_i D), some (ax_i ((i : Int) + 1)), none] I' Q) →
        ∀ (m : Nat) (j : Int) (I : ax_H), j = szP B - m → (m : Int) ≤ szP B → Of a I0 I → (∀ k, 0 ≤ k → k ≤ D → I a (k + 1) = (cv A B k i + if 0 ≤ k - i ∧ k - i < j then A i * B (k - i) else 0) % 31) → RV (d + 1) kX11_times 60 [some (ax_r a), some (ax_r b), some (ax_r c), some (ax_i D), some (ax_i (i : Int)), some (ax_i j)] I Q := by
      intro i I1 hi _ _ K m
      induction m with
      | zero =>
        intro j I hj _ hf h1
        have ec : I c = I0 c := hf c (fun e => hac e.symm)
        refine vX11_times_60 ha hb hc ⟨by omega, by omega⟩ ⟨fun _ => K I hf (fun k k0 k1 => ?_), fun q => absurd (by rw [ec, hmB.1]; omega) q⟩
        rw [h1 k k0 k1, cv_suc]
        split
        · rfl
        · rename_i q
          rw [hB.zb (k - i) (by omega), Int.mul_zero]
      | succ m ih =>
        intro j I hj hm hf h1
        have eb : I b = I0 b := hf b (fun e => hab e.symm)
        have ec : I c = I0 c := hf c (fun e => hac e.symm)
        have nA := hA.1 i
        have nB := hB.1 j
        have bd := md_bd nA.1 (show _ ≤ 30 by have := nA.2; omega) nB.1 (show _ ≤ 30 by have := nB.2; omega)
        have hD2 : D = szP A + szP B - 2 := by omega
        have e1 := h1 ((i : Int) + j) (by omega) (by omega)
        rw [if_neg (by omega), Int.add_zero] at e1
        refine vX11_times_60 ha hb hc ⟨by omega, by omega⟩ ⟨fun q => absurd q (by rw [ec, hmB.1]; omega), fun _ => ⟨by omega, by omega, by omega, ?_⟩⟩
        rw [eb, ec, hmA.2 i (by omega) hi, hmB.2 j (by omega) (by omega), e1]
        refine ⟨by omega, ?_⟩
        refine ih (j + 1) _ (by omega) (by omega) (hf.trans Of.st) (fun k k0 k1 => ?_)
        rw [st_at]
        by_cases e : k = (i : Int) + j
        · rw [if_pos (by omega), if_pos (by omega), e, show (i : Int) + j - i = j by omega]
          omega
        · rw [if_neg (by omega), h1 k k0 k1]
          by_cases r : 0 ≤ k - i ∧ k - i < j
          · rw [if_pos r, if_pos (by omega)]
          · rw [if_neg r, if_neg (by omega)]
    have outer : ∀ (m i : Nat) (I : ax_H), (i : Int) + m = szP A → Of a I0 I → (∀ k, 0 ≤ k → k ≤ D → I a (k + 1) = cv A B k i % 31) → RV (d + 1) kX11_times 49 [some (ax_r a), some (ax_r b), some (ax_r c), some (ax_i D), some (ax_i (i : Int)), none] I Q := by
      intro m
      induction m with
      | zero =>
        intro i I hi hf h1
        have eb : I b = I0 b := hf b (fun e => hab e.symm)
        have ei : i = (szP A).toNat := by omega
        refine vX11_times_49 ha hb hc ⟨by omega, by omega⟩ ⟨fun _ => ?_, fun q => absurd (by rw [eb, hmA.1]; omega) q⟩
        refine m_trims (P := mulP A B) ha g ⟨by omega, by omega⟩ (fun i hi => z i (Or.inr (by omega))) (fun k k0 k1 => ?_) (fun I' f' p' => hQ I' (hf.trans f') p')
        rw [h1 k k0 k1, ei, cv_1300 hA]; rfl
      | succ m ih =>
        intro i I hi hf h1
        have eb : I b = I0 b := hf b (fun e => hab e.symm)
        refine vX11_times_49 ha hb hc ⟨by omega, by omega⟩ ⟨fun q => absurd q (by rw [eb, hmA.1]; omega), fun _ => ?_⟩
        refine inner i I (by omega) hf h1 (fun I' f' h' => ?_) (szP B).toNat 0 I (by omega) (by omega) hf (fun k k0 k1 => by rw [if_neg (by omega), Int.add_zero]; exact h1 k k0 k1)
        rw [show (i : Int) + 1 = ((i + 1 : Nat) : Int) by omega]
        exact ih (i + 1) I' (by omega) f' h'
    have zero : ∀ (m : Nat) (k : Int) (I : ax_H), k = D + 1 - m → (m : Int) ≤ D + 1 → Of a I0 I → (∀ i, 0 ≤ i → i < k → I a (i + 1) = 0) → RV (d + 1) kX11_times 27 [some (ax_r a), some (ax_r b), some (ax_r c), some (ax_i D), some (ax_i k), none] I Q := by
      intro m
      induction m with
      | zero =>
        intro k I hk _ hf h1
        exact vX11_times_27 ha hb hc ⟨by omega, by omega⟩ ⟨by omega, by omega⟩ ⟨fun _ => outer (szP A).toNat 0 I (by omega) hf (fun k k0 k1 => by rw [h1 k k0 (by omega)]; rfl), fun q => absurd (by omega) q⟩
      | succ m ih =>
        intro k I hk hm hf h1
        refine vX11_times_27 ha hb hc ⟨by omega, by omega⟩ ⟨by omega, by omega⟩ ⟨fun q => absurd q (by omega), fun _ => ⟨by omega, ?_⟩⟩
        refine ih (k + 1) _ (by omega) (by omega) (hf.trans Of.st) (fun i i0 i1 => ?_)
        rw [st_at]
        split
        · rfl
        · exact h1 i i0 (by omega)
    exact zero (D + 1).toNat 0 I0 (by omega) (by omega) (Of.rf _ _) (fun i i0 i1 => absurd i1 (by omega))
  refine vX11_times_0 ha hb hc ?_
  rw [hmA.1, hmB.1]
  refine ⟨fun q => run _ (Or.inr ⟨rfl, by omega⟩), fun q => ⟨fun r y hy => run _ (Or.inl ⟨by omega, by omega, by omega⟩), fun r => run _ (Or.inr ⟨rfl, by omega⟩)⟩⟩
