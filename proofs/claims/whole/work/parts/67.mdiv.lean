/-! the reference's division and lowest terms -/
def Oo (a c : Nat) (I I' : ax_H) : Prop := ∀ b, b ≠ a → b ≠ c → I' b = I b
theorem Oo.rf (a c : Nat) (I : ax_H) : Oo a c I I := fun _ _ _ => rfl
theorem Oo.trans {a c : Nat} {I I' I'' : ax_H} (h : Oo a c I I') (h' : Oo a c I' I'') : Oo a c I I'' := fun b h1 h2 => (h' b h1 h2).trans (h b h1 h2)
theorem Oo.l {a c : Nat} {I I' : ax_H} (h : Of a I I') : Oo a c I I' := fun b h1 _ => h b h1
theorem Oo.r {a c : Nat} {I I' : ax_H} (h : Of c I I') : Oo a c I I' := fun b _ h2 => h b h2
theorem m_dv98 {d a b c s : Nat} {I0 : ax_H} {P B : Int → Int} {Q : ax_H → Prop} {v f : Int} (ha : isAr a) (hb : isAr b) (hc : isAr c) (hab : a ≠ b) (hP : gP P) (hB : gP B) (hmB : mP I0 b B) (hs : (s : Int) + szP B = szP P) (hf : nm f) (ha0 : I0 a 0 = szP P - 1) (hI0 : ∀ k, 0 ≤ k → k < szP P → I0 a (k + 1) = P k) (hg1 : gP (fun k => (P k - f * B (k - s)) % 31)) (hz1 : ∀ i, szP P - 1 < i → (fun k => (P k - f * B (k - s)) % 31) i = 0)
    (K : ∀ I', Of a I0 I' → mP I' a (fun k => (P k - f * B (k - s)) % 31) → RV (d + 1) kX11_divides 54 [some (ax_r a), some (ax_r b), some (ax_r c), none, some (ax_i v), none, none, none] I' Q) : ∀ (m : Nat) (j : Int) (I : ax_H), j = szP B - m → (m : Int) ≤ szP B → Of a I0 I → I a 0 = szP P - 1 → (∀ k, 0 ≤ k → k < szP P → I a (k + 1) = if 0 ≤ k - s ∧ k - s < j then (P k - f * B (k - s)) % 31 else P k) →
    RV (d + 1) kX11_divides 98 [some (ax_r a), some (ax_r b), some (ax_r c), none, some (ax_i v), some (ax_i f), some (ax_i (s : Int)), some (ax_i j)] I Q := by
  have bP := sz_bd P
  have bB := sz_bd B
  intro m
  induction m with
  | zero =>
    intro j I hj _ hu e0 h1
    have eb : I b = I0 b := hu b (fun e => hab e.symm)
    refine vX11_divides_98 ha hb hc ⟨by omega, by omega⟩ ⟨fun _ => ?_, fun q => absurd (by rw [eb, hmB.1]; omega) q⟩
    rw [e0]
    refine m_trims (P := fun k => (P k - f * B (k - s)) % 31) ha hg1 ⟨by omega, by omega⟩ hz1 (fun k k0 k1 => ?_) (fun I' f' p' => K I' (hu.trans f') p')
    rw [h1 k k0 (by omega)]
    split
    · rfl
    · show P k = (P k - f * B (k - s)) % 31
      rename_i q
      rw [hB.zb (k - s) (by omega), Int.mul_zero, Int.sub_zero]
      exact (nm_self (hP.1 k)).symm
  | succ m ih =>
    intro j I hj hm hu e0 h1
    have eb : I b = I0 b := hu b (fun e => hab e.symm)
    have nB := hB.1 j
    have e1 := h1 ((s : Int) + j) (by omega) (by omega)
    rw [if_neg (by omega)] at e1
    have nP := hP.1 ((s : Int) + j)
    refine vX11_divides_98 ha hb hc ⟨by omega, by omega⟩ ⟨fun q => absurd q (by rw [eb, hmB.1]; omega), fun _ => ⟨by omega, by omega, ?_⟩⟩
    rw [eb, hmB.2 j (by omega) (by omega), e1]
    have n1 := nP.1
    have n2 := nP.2
    have bd := md_bd hf.1 (show f ≤ 30 by have := hf.2; omega) nB.1 (show _ ≤ 30 by have := nB.2; omega)
    refine m_mod ⟨by omega, by omega⟩ ⟨ax_mod31 _, ?_⟩
    refine ih (j + 1) _ (by omega) (by omega) (hu.trans Of.st) (by rw [st_ne (Or.inr (by omega)), e0]) (fun k k0 k1 => ?_)
    rw [st_at]
    by_cases e : k = (s : Int) + j
    · rw [if_pos (by omega), if_pos (by omega), e, show (s : Int) + j - s = j by omega]
    · rw [if_neg (by omega), h1 k k0 k1]
      by_cases r : 0 ≤ k - s ∧ k - s < j
      · rw [if_pos r, if_pos (by omega)]
      · rw [if_neg r, if_neg (by omega)]
theorem m_dv54 {d a b c : Nat} {I0 : ax_H} {P0 B : Int → Int} {Q : ax_H → Prop} (ha : isAr a) (hb : isAr b) (hc : isAr c) (hab : a ≠ b) (hac : a ≠ c) (hbc : b ≠ c) (hP0 : gP P0) (hB : gP B) (hm : 1 ≤ szP B) (hmB : mP I0 b B)
    (hQ : ∀ I', Oo a c I0 I' → mP I' a (remP P0 B) → mP I' c (quoP P0 B) → Q I') : ∀ (N : Nat) (P Z : Int → Int) (I : ax_H), szP P ≤ N → gP P → szP P ≤ szP P0 → dvP B (szP B) (ax_inv (B (szP B - 1))) (nsh P B) P = remP P0 B → dvQ B (szP B) (ax_inv (B (szP B - 1))) (nsh P B) P Z = quoP P0 B → (∀ k : Int, 0 ≤ k → k < nsh P B → Z k = 0) → Oo a c I0 I → mP I a P → I c 0 = szP (quoP P0 B) - 1 → (∀ k, 0 ≤ k → k < szP (quoP P0 B) → I c (k + 1) = Z k) →
    RV (d + 1) kX11_divides 54 [some (ax_r a), some (ax_r b), some (ax_r c), none, some (ax_i (ax_inv (B (szP B - 1)))), none, none, none] I Q := by
  have bP := sz_bd P0
  have bB := sz_bd B
  have sQ := quo_sz hP0 hB hm
  intro N
  induction N with
  | zero =>
    intro P Z I hN hP hle hR hZ hz hu hmP h0 h1
    have bP1 := sz_bd P
    have eb : I b = I0 b := hu b (fun e => hab e.symm) hbc
    have e0 : nsh P B = 0 := by unfold nsh; omega
    rw [e0] at hR hZ
    have hR2 : P = remP P0 B := hR
    have hZ2 : Z = quoP P0 B := hZ
    refine vX11_divides_54 ha hb hc ⟨fun _ => hQ I hu (by rw [← hR2]; exact hmP) ⟨h0, fun k k0 k1 => by rw [h1 k k0 k1, hZ2]⟩, fun q => absurd (by rw [hmP.1, eb, hmB.1]; omega) q⟩
  | succ N ih =>
    intro P Z I hN hP hle hR hZ hz hu hmP h0 h1
    have bP1 := sz_bd P
    have eb : I b = I0 b := hu b (fun e => hab e.symm) hbc
    rcases Int.lt_or_le (szP P) (szP B) with q | q
    · have e0 : nsh P B = 0 := by unfold nsh; omega
      rw [e0] at hR hZ
      have hR2 : P = remP P0 B := hR
      have hZ2 : Z = quoP P0 B := hZ
      exact vX11_divides_54 ha hb hc ⟨fun _ => hQ I hu (by rw [← hR2]; exact hmP) ⟨h0, fun k k0 k1 => by rw [h1 k k0 k1, hZ2]⟩, fun r => absurd (by rw [hmP.1, eb, hmB.1]; omega) r⟩
    · obtain ⟨s, hs⟩ : ∃ s : Nat, nsh P B = s + 1 := ⟨(szP P - szP B).toNat, by unfold nsh; omega⟩
      have hsi : (s : Int) + szP B = szP P := by unfold nsh at hs; omega
      have hsq : (s : Int) < szP (quoP P0 B) := by rw [sQ]; unfold nsh; omega
      rw [hs] at hR hZ hz
      have eP := hmP.2 (szP P - 1) (by omega) (by omega)
      rw [show szP P - 1 + 1 = szP P by omega] at eP
      have nP := hP.1 (szP P - 1)
      have nv := inv_nm' (hB.1 (szP B - 1))
      have bd := md_bd nP.1 (show _ ≤ 30 by have := nP.2; omega) nv.1 (show _ ≤ 30 by have := nv.2; omega)
      refine vX11_divides_54 ha hb hc ⟨fun r => absurd r (by rw [hmP.1, eb, hmB.1]; omega), fun _ => ?_⟩
      rw [hmP.1, eb, hmB.1, show szP P - 1 + 1 = szP P by omega, eP]
      refine ⟨by omega, by omega, ?_⟩
      intro f hf y6 h6
      rw [show y6 = (s : Int) by omega]
      have nf : nm f := by rw [hf]; exact nm_mod _
      refine ⟨by omega, nm_R nf, ?_⟩
      have w : ∀ x, x ≠ c → (ax_st I c ((s : Int) + 1) f) x = I x := fun x hx => st_cell hx
      have er : (fun k => (P k - f * B (k - s)) % 31) = rd B (szP B) (ax_inv (B (szP B - 1))) s P := by
        funext k
        unfold rd
        rw [show (s : Int) + szP B - 1 = szP P - 1 by omega, ← hf]
      have lead := rd_lead (s := s) hm hB.1 hB.zb (sz_top (by omega)) hP.1 (hP.zb.mono (by omega))
      have g1 : gP (rd B (szP B) (ax_inv (B (szP B - 1))) s P) := gP_of (rd_nm _ _ _ _ _) lead (by omega)
      have s1 : szP (rd B (szP B) (ax_inv (B (szP B - 1))) s P) ≤ szP P - 1 := by
        have := sz_zb (by omega) lead
        omega
      refine m_dv98 (I0 := ax_st I c ((s : Int) + 1) f) (P := P) ha hb hc hab hP hB (hmB.of (by rw [w b hbc, eb])) hsi nf (by rw [w a hac]; exact hmP.1) (fun k k0 k1 => by rw [w a hac]; exact hmP.2 k k0 k1) (by rw [er]; exact g1) (fun i hi => by rw [er]; exact lead i (Or.inr (by omega))) (fun I1 f1 p1 => ?_) (szP B).toNat 0 _ (by omega) (by omega) (Of.rf _ _) (by rw [w a hac]; exact hmP.1) (fun k k0 k1 => by rw [if_neg (by omega), w a hac]; exact hmP.2 k k0 k1)
      rw [er] at p1
      -- the rest of the shifts
      have hR1 : dvP B (szP B) (ax_inv (B (szP B - 1))) s (rd B (szP B) (ax_inv (B (szP B - 1))) s P) = remP P0 B := hR
      have hZ1 : dvQ B (szP B) (ax_inv (B (szP B - 1))) s (rd B (szP B) (ax_inv (B (szP B - 1))) s P) (upg Z (s : Int) f) = quoP P0 B := by
        rw [← hZ]
        show _ = dvQ _ _ _ s _ (upg Z (s : Int) (P ((s : Int) + szP B - 1) * ax_inv (B (szP B - 1)) % 31))
        rw [show (s : Int) + szP B - 1 = szP P - 1 by omega, ← hf]
      generalize hP1 : rd B (szP B) (ax_inv (B (szP B - 1))) s P = P1 at p1 g1 s1 hR1 hZ1
      have bP1' := sz_bd P1
      obtain ⟨n, hn⟩ : ∃ n, s = nsh P1 B + n := ⟨s - nsh P1 B, by unfold nsh; omega⟩
      have hzz : ∀ i, ((nsh P1 B : Nat) : Int) + szP B - 1 ≤ i → P1 i = 0 := fun i hi => sz_ge g1 (by unfold nsh at hi; omega)
      have zs : ∀ k, 0 ≤ k → k < (s : Int) → upg Z (s : Int) f k = 0 := fun k k0 k1 => by
        unfold upg
        rw [if_neg (by omega)]
        exact hz k k0 (by omega)
      refine ih P1 (upg Z (s : Int) f) I1 (by omega) g1 (by omega) ?_ ?_ (fun k k0 k1 => zs k k0 (by omega)) (hu.trans (fun x h2 h3 => by rw [f1 x h2, w x h3])) p1 ?_ (fun k k0 k1 => ?_)
      · rw [hn, dvP_skip g1.1 hzz] at hR1; exact hR1
      · have hk := dvQ_skip (B := B) (v := ax_inv (B (szP B - 1))) g1.1 hzz n (upg Z (s : Int) f) (fun i h1' h2' => zs i (by omega) (by omega))
        rw [← hn] at hk
        rw [← hk]; exact hZ1
      · rw [f1 c (fun e => hac e.symm), st_ne (Or.inr (by omega))]; exact h0
      · rw [f1 c (fun e => hac e.symm), st_at]
        unfold upg
        by_cases e : k = (s : Int)
        · rw [if_pos (by omega), if_pos e]
        · rw [if_neg (by omega), if_neg e]; exact h1 k k0 k1
theorem m_divides {d a b c : Nat} {I0 : ax_H} {P B : Int → Int} {Q : ax_H → Prop} (ha : isAr a) (hb : isAr b) (hc : isAr c) (hab : a ≠ b) (hac : a ≠ c) (hbc : b ≠ c) (hP : gP P) (hB : gP B) (hm : 1 ≤ szP B) (hmP : mP I0 a P) (hmB : mP I0 b B)
    (hQ : ∀ I', Oo a c I0 I' → mP I' a (remP P B) → mP I' c (quoP P B) → Q I') : cV (d + 1) kX11_divides [ax_r a, ax_r b, ax_r c] I0 Q := by
  have bP := sz_bd P
  have bB := sz_bd B
  have sQ := quo_sz hP hB hm
  have en : ((nsh P B : Nat) : Int) = if szP P - szP B < 0 then 0 else szP P - szP B + 1 := by unfold nsh; split <;> omega
  refine vX11_divides_0 ha hb hc ?_
  rw [hmP.1, hmB.1]
  intro D hD
  have hDD : D = szP P - szP B := by omega
  have loop : ∀ (m : Nat) (k : Int) (I : ax_H), (D < 0 → k = 0 ∧ m = 0) → (0 ≤ D → k = D + 1 - m ∧ (m : Int) ≤ D + 1) → Of c I0 I → (∀ i, 0 ≤ i → i < k → I c (i + 1) = 0) → RV (d + 1) kX11_divides 11 [some (ax_r a), some (ax_r b), some (ax_r c), some (ax_i D), some (ax_i k), none, none, none] I Q := by
    intro m
    induction m with
    | zero =>
      intro k I hn hp hf h1
      have go : ∀ x : Int, x = szP (quoP P B) - 1 → (0 ≤ (((ax_st I c 0 x) b 0) + 1) ∧ (((ax_st I c 0 x) b 0) + 1) < 2500) ∧
      (cI d kX11_inverse [ax_i ((ax_st I c 0 x) b (((ax_st I c 0 x) b 0) + 1))] (ax_st I c 0 x) (fun w5 I4 =>
      RV (d + 1) kX11_divides 54 [some (ax_r a), some (ax_r b), some (ax_r c), none, some (ax_i w5), none, none, none] I4 Q)) := by
        intro x hx
        have eb : (ax_st I c 0 x) b = I0 b := by rw [st_cell hbc, hf b hbc]
        have ea : (ax_st I c 0 x) a = I0 a := by rw [st_cell hac, hf a hac]
        rw [eb, hmB.1, show szP B - 1 + 1 = (szP B - 1) + 1 from rfl, hmB.2 (szP B - 1) (by omega) (by omega)]
        refine ⟨by omega, ?_⟩
        refine m_inverse (hB.1 _) ?_
        exact m_dv54 (I0 := ax_st I c 0 x) ha hb hc hab hac hbc hP hB hm (hmB.of eb) (fun I' f' p' q' => hQ I' (Oo.trans (Oo.r (hf.trans Of.st)) f') p' q') 1300 P (fun _ => 0) _ bP.2 hP (Int.le_refl _) rfl rfl (fun _ _ _ => rfl) (Oo.rf _ _ _) (hmP.of ea) (by rw [st_same]; exact hx) (fun k' k0 k1 => by
          rw [st_ne (Or.inr (by omega))]
          exact h1 k' k0 (by rw [sQ, en] at k1; split at k1 <;> omega))
      refine vX11_divides_11 ha hb hc ⟨by omega, by omega⟩ ⟨by omega, by omega⟩ ⟨fun _ => ⟨fun r => go D (by rw [sQ, en, if_neg (by omega)]; omega), fun r => go (-1) (by rw [sQ, en, if_pos (by omega)]; rfl)⟩, fun r => absurd (by omega) r⟩
    | succ m ih =>
      intro k I hn hp hf h1
      have hp2 := hp (by omega)
      refine vX11_divides_11 ha hb hc ⟨by omega, by omega⟩ ⟨by omega, by omega⟩ ⟨fun r => absurd r (by omega), fun _ => ⟨by omega, ?_⟩⟩
      refine ih (k + 1) _ (by omega) (by omega) (hf.trans Of.st) (fun i i0 i1 => ?_)
      rw [st_at]
      split
      · rfl
      · exact h1 i i0 (by omega)
  exact loop (D + 1).toNat 0 I0 (by omega) (by omega) (Of.rf _ _) (fun i i0 i1 => absurd i1 (by omega))
theorem isA107 : isAr 107 := rfl
theorem isA108 : isAr 108 := rfl
theorem isA109 : isAr 109 := rfl
def Lw (a b : Nat) (I I' : ax_H) : Prop := ∀ c, c ≠ a → c ≠ b → (c < 107 ∨ 109 < c) → I' c = I c
theorem m_low16 {d a b : Nat} {I0 : ax_H} {U V : Int → Int} {Q : ax_H → Prop} (ha : isAr a) (hb : isAr b) (hab : a ≠ b) (ha9 : a < 107) (hb9 : b < 107) (hU : gP U) (hV : gP V) (hnz : 0 < szP U ∨ 0 < szP V) (hmU : mP I0 a U) (hmV : mP I0 b V)
    (hQ : ∀ I', Lw a b I0 I' → mP I' a (quoP U (gcP 1300 U V)) → mP I' b (quoP V (gcP 1300 U V)) → Q I') : ∀ (f : Nat) (P B : Int → Int) (I : ax_H), gP P → gP B → szP B ≤ f → gcP f P B = gcP 1300 U V → (∀ c, (c < 107 ∨ 109 < c) → I c = I0 c) → mP I 107 P → mP I 108 B →
    RV (d + 2) kX11_lowers 16 [some (ax_r 85), some (ax_r a), some (ax_r b)] I Q := by
  have gG := gcP_g 1300 U V hU hV (sz_bd V).2 hnz
  have fin : ∀ (I : ax_H) (B : Int → Int), szP B = 0 → (∀ c, (c < 107 ∨ 109 < c) → I c = I0 c) → mP I 107 (gcP 1300 U V) → mP I 108 B → RV (d + 2) kX11_lowers 16 [some (ax_r 85), some (ax_r a), some (ax_r b)] I Q := by
    intro I B hz hu h7 h8
    refine vX11_lowers_16 ha hb ⟨fun _ => ?_, fun q => absurd (by rw [h8.1, hz]; decide) q⟩
    refine m_becomes isA108 ha (by omega) (hmU.of (hu a (by omega))) (fun I1 f1 p1 => ?_)
    refine m_divides isA108 isA107 isA109 (by decide) (by decide) (by decide) hU gG.1 gG.2 p1 (f1.mp (by decide) h7) (fun I2 f2 _ q2 => ?_)
    refine m_becomes ha isA109 (by omega) q2 (fun I3 f3 p3 => ?_)
    have e7 : mP I3 107 (gcP 1300 U V) := f3.mp (by omega) ((f1.mp (by decide) h7).of (f2 107 (by decide) (by decide)))
    have eb : mP I3 b V := hmV.of (by rw [f3 b (fun e => hab e.symm), f2 b (by omega) (by omega), f1 b (by omega), hu b (by omega)])
    refine m_becomes isA108 hb (by omega) eb (fun I4 f4 p4 => ?_)
    refine m_divides isA108 isA107 isA109 (by decide) (by decide) (by decide) hV gG.1 gG.2 p4 (f4.mp (by decide) e7) (fun I5 f5 _ q5 => ?_)
    refine m_becomes hb isA109 (by omega) q5 (fun I6 f6 p6 => ?_)
    refine hQ I6 (fun c h1 h2 h3 => by rw [f6 c h2, f5 c (by omega) (by omega), f4 c (by omega), f3 c h1, f2 c (by omega) (by omega), f1 c (by omega), hu c h3]) (p3.of (by rw [f6 a hab, f5 a (by omega) (by omega), f4 a (by omega)])) p6
  intro f
  induction f with
  | zero =>
    intro P B I hP hB hf hG hu h7 h8
    have bB := sz_bd B
    have hG2 : P = gcP 1300 U V := hG
    exact fin I B (by omega) hu (by rw [← hG2]; exact h7) h8
  | succ f ih =>
    intro P B I hP hB hf hG hu h7 h8
    have bB := sz_bd B
    unfold gcP at hG
    by_cases q : szP B = 0
    · rw [if_pos q] at hG
      have hG2 : P = gcP 1300 U V := by rw [hG]; rfl
      exact fin I B q hu (by rw [← hG2]; exact h7) h8
    · rw [if_neg q] at hG
      have r := rem_g hP hB (by omega)
      refine vX11_lowers_16 ha hb ⟨fun c => absurd c (by rw [h8.1]; omega), fun _ => ?_⟩
      refine m_divides isA107 isA108 isA109 (by decide) (by decide) (by decide) hP hB (by omega) h7 h8 (fun I1 f1 p1 _ => ?_)
      refine m_becomes isA109 isA107 (by decide) p1 (fun I2 f2 p2 => ?_)
      refine m_becomes isA107 isA108 (by decide) ((h8.of (f1 108 (by decide) (by decide))).of (f2 108 (by decide))) (fun I3 f3 p3 => ?_)
      refine m_becomes isA108 isA109 (by decide) (f3.mp (by decide) p2) (fun I4 f4 p4 => ?_)
      exact ih B (remP P B) I4 hB r.1 (by omega) hG (fun c hc => by rw [f4 c (by omega), f3 c (by omega), f2 c (by omega), f1 c (by omega) (by omega), hu c hc]) (f4.mp (by decide) p3) p4
theorem m_lowers {d a b : Nat} {I0 : ax_H} {U V : Int → Int} {Q : ax_H → Prop} (ha : isAr a) (hb : isAr b) (hab : a ≠ b) (ha9 : a < 107) (hb9 : b < 107) (hU : gP U) (hV : gP V) (hnz : 0 < szP U ∨ 0 < szP V) (hmU : mP I0 a U) (hmV : mP I0 b V)
    (hQ : ∀ I', Lw a b I0 I' → mP I' a (quoP U (gcP 1300 U V)) → mP I' b (quoP V (gcP 1300 U V)) → Q I') : cV (d + 2) kX11_lowers [ax_r 85, ax_r a, ax_r b] I0 Q := by
  refine vX11_lowers_0 ha hb ?_
  refine m_becomes isA107 ha (by omega) hmU (fun I1 f1 p1 => ?_)
  refine m_becomes isA108 hb (by omega) (f1.mp (by omega) hmV) (fun I2 f2 p2 => ?_)
  exact m_low16 ha hb hab ha9 hb9 hU hV hnz hmU hmV hQ 1300 U V I2 hU hV (sz_bd V).2 rfl (fun c hc => by rw [f2 c (by omega), f1 c (by omega)]) (f2.mp (by decide) p1) p2
