/-! the class: rows of swaps, steps; what has been worked out stands by the version -/
theorem st_same (I : ax_H) (a : Nat) (i v : Int) : ax_st I a i v a i = v := by simp [ax_st]
theorem st_ne {I : ax_H} {a b : Nat} {i j v : Int} (h : b ≠ a ∨ j ≠ i) : ax_st I a i v b j = I b j := by
  unfold ax_st
  rw [if_neg (by intro q; rcases h with h | h; exact h q.1; exact h q.2)]
theorem st_cell {I : ax_H} {a b : Nat} {i v : Int} (h : b ≠ a) : ax_st I a i v b = I b := by
  funext j; exact st_ne (Or.inl h)
theorem st_at {I : ax_H} {a : Nat} {i v j : Int} : ax_st I a i v a j = if j = i then v else I a j := by
  unfold ax_st
  by_cases h : j = i
  · rw [if_pos ⟨rfl, h⟩, if_pos h]
  · rw [if_neg (fun q => h q.2), if_neg h]
def rowsOK (I : ax_H) (g : Int → Int) : Prop := ∀ w c k : Int, 0 ≤ w → w ≤ 1 → 0 ≤ c → c ≤ 31 → 0 ≤ k → k ≤ 2 → I 4 ((w * 32 + c) * 3 + k) = cr g w c k
def aheadOK (I : ax_H) (g : Int → Int) : Prop := ∀ s, spt s → I 7 s = -100 ∨ I 7 s = stp g s 0
def RInv (g : Int → Int) (I : ax_H) : Prop := tabs I 3 g ∧ (I 1 2 = I 1 1 → rowsOK I g ∧ aheadOK I g) ∧ I 1 2 ≤ I 1 1
/-- rows have been learnt -/
def RRdy (g : Int → Int) (I : ax_H) : Prop := tabs I 3 g ∧ I 1 2 = I 1 1 ∧ rowsOK I g ∧ aheadOK I g
def Rf (I I' : ax_H) : Prop := (∀ a, a ≠ 1 → a ≠ 4 → a ≠ 7 → I' a = I a) ∧ ∀ k, k ≠ 2 → I' 1 k = I 1 k
theorem Rf.rf (I : ax_H) : Rf I I := ⟨fun _ _ _ _ => rfl, fun _ _ => rfl⟩
theorem Rf.trans {I I' I'' : ax_H} (h : Rf I I') (h' : Rf I' I'') : Rf I I'' := ⟨fun a h1 h2 h3 => (h'.1 a h1 h2 h3).trans (h.1 a h1 h2 h3), fun k h1 => (h'.2 k h1).trans (h.2 k h1)⟩
theorem RRdy.inv {g : Int → Int} {I : ax_H} (h : RRdy g I) : RInv g I := ⟨h.1, fun _ => h.2.2, Int.le_of_eq h.2.1⟩
theorem tabs.of {I I' : ax_H} {a : Nat} {g : Int → Int} (h : tabs I a g) (e : I' a = I a) : tabs I' a g := fun k h1 h2 => by rw [e]; exact h k h1 h2
/-- the rows' loop -/
theorem c_learn45 {d : Nat} {g : Int → Int} {Q : ax_H → Prop} : ∀ (n : Nat) (I : ax_H) (k : Int), k = 64 - n → n ≤ 64 → tabs I 3 g →
    (∀ w c r : Int, 0 ≤ w → 0 ≤ c → c ≤ 31 → 0 ≤ r → r ≤ 2 → w * 32 + c < k → I 4 ((w * 32 + c) * 3 + r) = cr g w c r) →
    (∀ I', (∀ a, a ≠ 4 → I' a = I a) → rowsOK I' g → Q I') →
    RV (d + 2) kX1_learnRows 45 [some (ax_r 1), some (ax_i k), none, none, none, none, none, none, none, none] I Q := by
  intro n
  induction n with
  | zero =>
    intro I k hk _ hT hR hQ
    refine vX1_learnRows_45 ⟨by omega, by omega⟩ ⟨fun _ => hQ I (fun _ _ => rfl) (fun w c r h1 h2 h3 h4 h5 h6 => hR w c r h1 h3 h4 h5 h6 (by omega)), fun c => absurd (by omega) c⟩
  | succ n ih =>
    intro I k hk hn hT hR hQ
    refine vX1_learnRows_45 ⟨by omega, by omega⟩ ⟨fun c => absurd c (by omega), fun _ => ⟨by omega, ?_⟩⟩
    intro w hw c hc
    have hwR : ax_R w := ⟨by omega, by omega⟩
    have hcc : co c := ⟨by omega, by omega⟩
    have ha : isT 2 := ⟨rfl, rfl⟩
    refine c_sumAt ha hT hwR (by decide) (by decide) hcc ?_
    refine c_sumAt ha hT hwR (by decide) (by decide) hcc ?_
    refine c_sumAt ha hT hwR (by decide) (by decide) hcc ?_
    refine c_sumAt ha hT hwR (by decide) (by decide) hcc ?_
    refine c_sumAt ha hT hwR (by decide) (by decide) hcc ?_
    refine c_sumAt ha hT hwR (by decide) (by decide) hcc ?_
    have R := @rw_nm g w
    refine c_modulo (cross_R (R _ _ _) (R _ _ _) (R _ _ _) (R _ _ _)) ⟨by omega, by omega, ?_⟩
    refine c_modulo (cross_R (R _ _ _) (R _ _ _) (R _ _ _) (R _ _ _)) ⟨by omega, by omega, ?_⟩
    refine c_modulo (cross_R (R _ _ _) (R _ _ _) (R _ _ _) (R _ _ _)) ⟨by omega, by omega, ?_⟩
    refine ih _ (k + 1) (by omega) (by omega) (hT.of (by rw [st_cell (by decide), st_cell (by decide), st_cell (by decide)])) ?_ ?_
    · intro w' c' r h1 h2 h3 h4 h5 h6
      by_cases e : w' * 32 + c' = k
      · have ew : w' = w := by omega
        have ec : c' = c := by omega
        subst ew
        subst ec
        rw [e]
        have hr : r = 0 ∨ r = 1 ∨ r = 2 := by omega
        rcases hr with rfl | rfl | rfl
        · rw [st_ne (Or.inr (by omega)), st_ne (Or.inr (by omega)), show k * 3 + 0 = 3 * k by omega, st_same]
          rfl
        · rw [st_ne (Or.inr (by omega)), show k * 3 + 1 = 3 * k + 1 by omega, st_same]
          rfl
        · rw [show k * 3 + 2 = 3 * k + 2 by omega, st_same]
          rfl
      · rw [st_ne (Or.inr (by omega)), st_ne (Or.inr (by omega)), st_ne (Or.inr (by omega))]
        exact hR w' c' r h1 h2 h3 h4 h5 (by omega)
    · intro I' hf hr
      exact hQ I' (fun a h => by rw [hf a h, st_cell h, st_cell h, st_cell h]) hr
theorem c_learn22 {d : Nat} {Q : ax_H → Prop} : ∀ (n : Nat) (I : ax_H) (k : Int), k = 1024 - n → n ≤ 1024 → (∀ s, 0 ≤ s → s < k → I 7 s = -100) →
    (∀ I', (∀ a, a ≠ 7 → I' a = I a) → (∀ s, spt s → I' 7 s = -100) → RV (d + 2) kX1_learnRows 45 [some (ax_r 1), some (ax_i 0), none, none, none, none, none, none, none, none] I' Q) →
    RV (d + 2) kX1_learnRows 22 [some (ax_r 1), some (ax_i k), none, none, none, none, none, none, none, none] I Q := by
  intro n
  induction n with
  | zero =>
    intro I k hk _ hA hQ
    exact vX1_learnRows_22 ⟨by omega, by omega⟩ ⟨fun _ => hQ I (fun _ _ => rfl) (fun s hs => hA s hs.1 (by have := hs.2; omega)), fun c => absurd (by omega) c⟩
  | succ n ih =>
    intro I k hk hn hA hQ
    refine vX1_learnRows_22 ⟨by omega, by omega⟩ ⟨fun c => absurd c (by omega), fun _ => ⟨by omega, ?_⟩⟩
    refine ih _ (k + 1) (by omega) (by omega) (fun s h1 h2 => ?_) (fun I' hf hs => hQ I' (fun a h => by rw [hf a h, st_cell h]) hs)
    rw [st_at]
    split
    · rfl
    · exact hA s h1 (by omega)
theorem c_learnRows {d : Nat} {g : Int → Int} {I : ax_H} {Q : ax_H → Prop} (h : RInv g I) (hQ : ∀ I', Rf I I' → RRdy g I' → Q I') : cV (d + 2) kX1_learnRows [ax_r 1] I Q := by
  refine vX1_learnRows_0 ⟨fun c => ?_, fun c => hQ I (Rf.rf I) ⟨h.1, c, h.2.1 c⟩⟩
  refine c_learn22 1024 _ 0 (by omega) (by omega) (fun s h1 h2 => absurd h2 (by omega)) ?_
  intro I1 hf1 hA1
  have e1 : ∀ a, a ≠ 7 → a ≠ 1 → I1 a = I a := fun a h7 h1 => by rw [hf1 a h7, st_cell h1]
  refine c_learn45 (g := g) 64 _ 0 (by omega) (by omega) (h.1.of (e1 3 (by decide) (by decide))) (fun w c r h1 h2 h3 h4 h5 h6 => absurd h6 (by omega)) ?_
  intro I2 hf2 hR2
  have v2 : I2 1 2 = I 1 1 := by rw [hf2 1 (by decide), hf1 1 (by decide), st_same]
  have v1 : I2 1 1 = I 1 1 := by rw [hf2 1 (by decide), hf1 1 (by decide), st_ne (Or.inr (by decide))]
  refine hQ I2 ⟨fun a h1 h4 h7 => by rw [hf2 a h4, e1 a h7 h1], fun k hk => by rw [hf2 1 (by decide), hf1 1 (by decide), st_ne (Or.inr hk)]⟩ ⟨h.1.of (by rw [hf2 3 (by decide), e1 3 (by decide) (by decide)]), v2.trans v1.symm, hR2, fun s hs => Or.inl (by rw [hf2 7 (by decide)]; exact hA1 s hs)⟩
theorem c_knownRow {d : Nat} {g : Int → Int} {I : ax_H} {Q : Int → ax_H → Prop} {w c k : Int} (h : rowsOK I g) (hw : 0 ≤ w ∧ w ≤ 1) (hc : co c) (hk : 0 ≤ k ∧ k ≤ 2) (hQ : Q (cr g w c k) I) : cI d kX1_knownRow [ax_r 1, ax_i w, ax_i c, ax_i k] I Q := by
  have h1 := hc.1
  have h2 := hc.2
  refine vX1_knownRow_0 ?_
  intro y hy
  refine ⟨by omega, fun c => absurd c (by omega), fun _ => ⟨fun c => absurd c (by omega), fun _ => ⟨by omega, ?_⟩⟩⟩
  rw [hy, h w c k hw.1 hw.2 h1 h2 hk.1 hk.2]; exact hQ
theorem c_knownSwap {d : Nat} {g : Int → Int} {I : ax_H} {Q : Int → ax_H → Prop} {w own c : Int} (h : rowsOK I g) (hw : 0 ≤ w ∧ w ≤ 1) (ho : co own) (hc : co c) (hQ : Q (ot g w own c) I) : cI (d + 2) kX1_knownSwap [ax_r 1, ax_i w, ax_i own, ax_i c] I Q := by
  unfold ot at hQ
  dsimp only at hQ
  refine vX1_knownSwap_0 (co_R ho) ?_
  refine c_knownRow h hw hc (by decide) ?_
  refine c_knownRow h hw hc (by decide) ?_
  refine c_knownRow h hw hc (by decide) ?_
  have hp := cr_nm g w c 0
  have hq := cr_nm g w c 1
  have hr := cr_nm g w c 2
  have hp1 := hp.1
  have hp2 := hp.2
  have hq1 := hq.1
  have hq2 := hq.2
  have hr1 := hr.1
  have hr2 := hr.2
  have fin : ∀ z : Int, (z = -6 ∨ co z) → Q (if z = -6 then -7 else z) I → ax_R z ∧ ((z ≠ -6 → Q z I) ∧ (z = -6 → Q (-7) I)) := by
    intro z hz h
    refine ⟨?_, fun c => ?_, fun c => ?_⟩
    · rcases hz with rfl | hz
      · decide
      · exact co_R hz
    · rw [if_neg c] at h; exact h
    · rw [if_pos c] at h; exact h
  refine ⟨fun c1 => ?_, fun c1 => ?_⟩
  · rw [if_neg c1] at hQ
    have h1 := md_bd hq.1 (show _ ≤ 30 by omega) ho.1 ho.2
    have h2 := md_bd hp.1 (show _ ≤ 30 by omega) ho.1 ho.2
    refine c_quotient ⟨by omega, by omega⟩ ⟨by omega, by omega⟩ ?_
    exact fin _ (qb_co (nm_mod _) (nm_mod _)) hQ
  · rw [if_pos c1] at hQ
    refine c_quotient ⟨by omega, by omega⟩ ⟨by omega, by omega⟩ ?_
    rw [nm_self hp]
    exact fin _ (qb_co (nm_mod _) hp) hQ
theorem c_swapOf {d : Nat} {g : Int → Int} {I : ax_H} {Q : Int → ax_H → Prop} {w own c : Int} (h : RInv g I) (hw : 0 ≤ w ∧ w ≤ 1) (ho : co own) (hc : co c) (hQ : ∀ I', Rf I I' → RRdy g I' → Q (ot g w own c) I') : cI (d + 3) kX1_swapOf [ax_r 1, ax_i w, ax_i own, ax_i c] I Q := by
  refine vX1_swapOf_0 ?_
  refine c_learnRows h (fun I' hf hr => ?_)
  exact c_knownSwap hr.2.2.1 hw ho hc (hQ I' hf hr)
theorem c_rowOf {d : Nat} {g : Int → Int} {I : ax_H} {Q : Int → ax_H → Prop} {w c k : Int} (h : RInv g I) (hw : 0 ≤ w ∧ w ≤ 1) (hc : co c) (hk : 0 ≤ k ∧ k ≤ 2) (hQ : ∀ I', Rf I I' → RRdy g I' → Q (cr g w c k) I') : cI (d + 3) kX1_rowOf [ax_r 1, ax_i w, ax_i c, ax_i k] I Q := by
  refine vX1_rowOf_0 ?_
  refine c_learnRows h (fun I' hf hr => ?_)
  exact c_knownRow hr.2.2.1 hw hc hk (hQ I' hf hr)
/-- a step out of the two swaps -/
theorem stp_0 (g : Int → Int) {s : Int} (hs : spt s) : stp g s 0 = (if ot g 0 (s / 32) (s % 32) = -7 then -7 else if ot g 1 (s % 32) (ot g 0 (s / 32) (s % 32)) = -7 then -7 else ot g 0 (s / 32) (s % 32) * 32 + ot g 1 (s % 32) (ot g 0 (s / 32) (s % 32))) := by
  unfold stp
  have e0 : swd g s 0 = if ot g 0 (s / 32) (s % 32) = -7 then -7 else 32 * ot g 0 (s / 32) (s % 32) + s % 32 := by
    unfold swd; simp
  simp only [if_true]
  rw [e0]
  generalize hz : ot g 0 (s / 32) (s % 32) = z
  have hz2 := ot_co g 0 (s / 32) (s % 32)
  rw [hz] at hz2
  by_cases c : z = -7
  · simp [c]
  · have hzc := hz2.resolve_left c
    unfold co at hzc
    rw [if_neg c, if_neg c, if_neg (by omega)]
    unfold swd
    simp only [show ¬ (1 : Int) = 0 by decide, if_false]
    rw [show (32 * z + s % 32) % 32 = s % 32 by omega, show (32 * z + s % 32) / 32 = z by omega]
    split
    · rfl
    · omega
theorem stp_1 (g : Int → Int) {s : Int} (hs : spt s) : stp g s 1 = (if ot g 1 (s % 32) (s / 32) = -7 then -7 else if ot g 0 (s / 32) (ot g 1 (s % 32) (s / 32)) = -7 then -7 else ot g 0 (s / 32) (ot g 1 (s % 32) (s / 32)) * 32 + ot g 1 (s % 32) (s / 32)) := by
  have hs1 := hs.1
  unfold stp
  have e0 : swd g s 1 = if ot g 1 (s % 32) (s / 32) = -7 then -7 else 32 * (s / 32) + ot g 1 (s % 32) (s / 32) := by
    unfold swd; simp
  simp only [show ¬ (1 : Int) = 0 by decide, if_false]
  rw [e0]
  generalize hz : ot g 1 (s % 32) (s / 32) = z
  have hz2 := ot_co g 1 (s % 32) (s / 32)
  rw [hz] at hz2
  by_cases c : z = -7
  · simp [c]
  · have hzc := hz2.resolve_left c
    unfold co at hzc
    rw [if_neg c, if_neg c, if_neg (by omega)]
    unfold swd
    simp only [if_true]
    rw [show (32 * (s / 32) + z) / 32 = s / 32 by omega, show (32 * (s / 32) + z) % 32 = z by omega]
    split
    · rfl
    · omega
/-- a spot's step, -7 if it is none -/
def nxt (g : Int → Int) (s : Int) : Int := if 0 ≤ s ∧ s < 1024 then stp g s 0 else -7
def prv (g : Int → Int) (s : Int) : Int := if 0 ≤ s ∧ s < 1024 then stp g s 1 else -7
theorem c_stepFrom {d : Nat} {g : Int → Int} {I : ax_H} {Q : Int → ax_H → Prop} {s : Int} (h : RInv g I) (hs : ax_R s) (hQ : ∀ I', Rf I I' → RInv g I' → Q (nxt g s) I') : cI (d + 3) kX1_stepFrom [ax_r 1, ax_i s] I Q := by
  have no : ¬ (0 ≤ s ∧ s < 1024) → Q (-7) I := fun c => by
    have := hQ I (Rf.rf I) h
    unfold nxt at this
    rw [if_neg c] at this; exact this
  refine vX1_stepFrom_0 hs ⟨fun c => no (by omega), fun c => ⟨fun c2 => ?_, fun c2 => no (by omega)⟩⟩
  have hsp : spt s := ⟨by omega, c2⟩
  have en : nxt g s = stp g s 0 := if_pos ⟨by omega, c2⟩
  refine c_learnRows h (fun I1 hf hr => ⟨by omega, fun c3 => ?_, fun c3 => ⟨by omega, ?_⟩⟩)
  · have := hQ I1 hf hr.inv
    rw [en] at this
    rcases hr.2.2.2 s hsp with e | e
    · exact absurd e c3
    · rw [e]; exact this
  · have wr : ∀ v : Int, v = stp g s 0 → Q (ax_st I1 7 s v 7 s) (ax_st I1 7 s v) := by
      intro v hv
      rw [st_same, hv, ← en]
      refine hQ _ (hf.trans ⟨fun a h1 h4 h7 => st_cell h7, fun k _ => st_ne (Or.inl (by decide))⟩) ⟨hr.1.of (st_cell (by decide)), fun _ => ⟨fun w c k h1 h2 h3 h4 h5 h6 => ?_, fun t ht => ?_⟩, by rw [st_cell (by decide)]; exact Int.le_of_eq hr.2.1⟩
      · rw [st_ne (Or.inl (by decide))]; exact hr.2.2.1 w c k h1 h2 h3 h4 h5 h6
      · rw [st_at]
        split
        · next e => rw [e, en]; exact Or.inr rfl
        · exact hr.2.2.2 t ht
    have hx := ot_co g 0 (s / 32) (s % 32)
    have s0 := stp_0 g hsp
    refine c_knownSwap hr.2.2.1 (by decide) ⟨by omega, by omega⟩ ⟨by omega, by omega⟩ ⟨?_, fun c4 => ?_, fun c4 => ?_⟩
    · rcases hx with e | e
      · rw [e]; decide
      · exact co_R e
    · have hxc := hx.resolve_left c4
      have hy := ot_co g 1 (s % 32) (ot g 0 (s / 32) (s % 32))
      rw [if_neg c4] at s0
      refine c_knownSwap hr.2.2.1 (by decide) ⟨by omega, by omega⟩ hxc ⟨?_, fun c5 => ?_, fun c5 => ?_⟩
      · rcases hy with e | e
        · rw [e]; decide
        · exact co_R e
      · rw [if_neg c5] at s0
        have hyc := hy.resolve_left c5
        unfold co at hxc hyc
        exact ⟨⟨by omega, by omega⟩, wr _ s0.symm⟩
      · rw [if_pos c5] at s0
        exact wr _ s0.symm
    · rw [if_pos c4] at s0
      exact wr _ s0.symm
theorem c_stepBackFrom {d : Nat} {g : Int → Int} {I : ax_H} {Q : Int → ax_H → Prop} {s : Int} (h : RInv g I) (hs : ax_R s) (hQ : ∀ I', Rf I I' → RInv g I' → Q (prv g s) I') : cI (d + 3) kX1_stepBackFrom [ax_r 1, ax_i s] I Q := by
  have no : ¬ (0 ≤ s ∧ s < 1024) → Q (-7) I := fun c => by
    have := hQ I (Rf.rf I) h
    unfold prv at this
    rw [if_neg c] at this; exact this
  refine vX1_stepBackFrom_0 hs ⟨fun c => no (by omega), fun c => ⟨fun c2 => ?_, fun c2 => no (by omega)⟩⟩
  have hsp : spt s := ⟨by omega, c2⟩
  have en : prv g s = stp g s 1 := if_pos ⟨by omega, c2⟩
  refine c_learnRows h (fun I1 hf hr => ⟨by omega, ?_⟩)
  have fin := hQ I1 hf hr.inv
  rw [en, stp_1 g hsp] at fin
  have hx := ot_co g 1 (s % 32) (s / 32)
  refine c_knownSwap hr.2.2.1 (by decide) ⟨by omega, by omega⟩ ⟨by omega, by omega⟩ ⟨?_, fun c4 => ?_, fun c4 => ?_⟩
  · rcases hx with e | e
    · rw [e]; decide
    · exact co_R e
  · have hxc := hx.resolve_left c4
    have hy := ot_co g 0 (s / 32) (ot g 1 (s % 32) (s / 32))
    rw [if_neg c4] at fin
    refine c_knownSwap hr.2.2.1 (by decide) ⟨by omega, by omega⟩ hxc ⟨?_, fun c5 => ?_, fun c5 => ?_⟩
    · rcases hy with e | e
      · rw [e]; decide
      · exact co_R e
    · rw [if_neg c5] at fin; exact fin
    · rw [if_pos c5] at fin; exact fin
  · rw [if_pos c4] at fin; exact fin
theorem nxt_R (g : Int → Int) (s : Int) : ax_R (nxt g s) := by
  unfold nxt
  split
  · next h =>
    rcases stp_spt (g := g) (back := 0) (s := s) h with e | e
    · rw [e]; decide
    · exact ⟨by have := e.1; omega, by have := e.2; omega⟩
  · decide
theorem prv_R (g : Int → Int) (s : Int) : ax_R (prv g s) := by
  unfold prv
  split
  · next h =>
    rcases stp_spt (g := g) (back := 1) (s := s) h with e | e
    · rw [e]; decide
    · exact ⟨by have := e.1; omega, by have := e.2; omega⟩
  · decide
theorem nxt_spt {g : Int → Int} {s : Int} : nxt g s = -7 ∨ spt (nxt g s) := by
  unfold nxt
  split
  · next h => exact stp_spt h
  · exact Or.inl rfl
theorem prv_spt {g : Int → Int} {s : Int} : prv g s = -7 ∨ spt (prv g s) := by
  unfold prv
  split
  · next h => exact stp_spt h
  · exact Or.inl rfl
