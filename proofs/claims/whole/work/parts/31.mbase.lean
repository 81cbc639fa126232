/-! the reference: numbers, swaps, steps -/
theorem m_in {d : Nat} {I : ax_H} {Q : Int → ax_H → Prop} {v a b : Int} (hv : ax_R8 v) (ha : ax_R8 a) (hb : ax_R8 b) (ht : a ≤ v ∧ v ≤ b → Q 1 I) (hf : ¬ (a ≤ v ∧ v ≤ b) → Q 0 I) : cI d kX11_in [ax_l v, ax_l a, ax_l b] I Q := by
  refine vX11_in_0 ⟨hv, ha, cmp_R _ _, fun c => ?_, fun c => ⟨hb, cmp_R _ _, fun c2 => ?_, fun c2 => ?_⟩⟩
  · rw [cmp_lt] at c; exact hf (by omega)
  · rw [cmp_gt] at c2; exact hf (by omega)
  · rw [cmp_lt] at c; rw [cmp_gt] at c2; exact ht (by omega)
theorem m_mod {d : Nat} {I : ax_H} {Q : Int → ax_H → Prop} {v : Int} (hv : ax_R v) (h : Q (v % 31) I) : cI d kX11_mod [ax_i v] I Q := by
  refine vX11_mod_0 hv ?_
  intro y hy
  have e : (31 : Int) * v.tdiv 31 + v.tmod 31 = v := Int.mul_tdiv_add_tmod v 31
  have h1 : v.tmod 31 < 31 := Int.tmod_lt_of_pos v (by decide)
  have h2 : -31 < v.tmod 31 := by
    rcases Int.le_total 0 v with h0 | h0
    · rw [Int.tmod_eq_emod_of_nonneg h0]; omega
    · have h3 : (-v).tmod 31 = -(v.tmod 31) := Int.neg_tmod v 31
      rw [Int.tmod_eq_emod_of_nonneg (by omega)] at h3
      omega
  refine ⟨by omega, fun c => ?_, fun c => ?_⟩
  · rw [show y = v % 31 by omega]; exact h
  · rw [show y + 31 = v % 31 by omega]; exact h
theorem inv_it : ∀ v : Fin 31, (List.range 29).foldl (fun (m : Int) _ => m * ((v : Nat) : Int) % 31) 1 = ax_inv ((v : Nat) : Int) := by decide +kernel
theorem m_inv_loop {d : Nat} {I : ax_H} {Q : Int → ax_H → Prop} {v : Int} (hv : nm v) : ∀ (n : Nat) (k m : Int), k = 29 - n → n ≤ 29 → nm m → Q ((List.range n).foldl (fun (m : Int) _ => m * v % 31) m) I → RI d kX11_inverse 4 [some (ax_i v), some (ax_i m), some (ax_i k)] I Q := by
  intro n
  induction n with
  | zero =>
    intro k m hk _ _ h
    exact vX11_inverse_4 ⟨by omega, by omega⟩ ⟨fun _ => h, fun c => absurd (by omega) c⟩
  | succ n ih =>
    intro k m hk hn hm h
    have hb := md_bd hm.1 (show m ≤ 30 by have := hm.2; omega) hv.1 (show v ≤ 30 by have := hv.2; omega)
    refine vX11_inverse_4 ⟨by omega, by omega⟩ ⟨fun c => absurd c (by omega), fun _ => ⟨by omega, fun y hy => ?_⟩⟩
    subst hy
    refine ih (k + 1) _ (by omega) (by omega) (nm_mod _) ?_
    rw [List.range_succ_eq_map, List.foldl_cons, List.foldl_map] at h
    exact h
theorem m_inverse {d : Nat} {I : ax_H} {Q : Int → ax_H → Prop} {v : Int} (hv : nm v) (h : Q (ax_inv v) I) : cI d kX11_inverse [ax_i v] I Q := by
  refine vX11_inverse_0 ?_
  refine m_inv_loop hv 29 0 1 (by omega) (by omega) ⟨by omega, by omega⟩ ?_
  have := inv_it ⟨v.toNat, by have := hv.1; have := hv.2; omega⟩
  rw [show ((v.toNat : Nat) : Int) = v by have := hv.1; omega] at this
  rw [this]; exact h
theorem m_by {d : Nat} {I : ax_H} {Q : Int → ax_H → Prop} {u v : Int} (hu : nm u) (hv : nm v) (h : Q (qb u v) I) : cI (d + 1) kX11_by [ax_i u, ax_i v] I Q := by
  unfold qb at h
  refine vX11_by_0 (nm_R hu) (nm_R hv) ⟨fun c => ?_, fun c => ?_⟩
  · rw [if_pos c] at h
    exact ⟨fun c2 => by rw [if_pos c2] at h; exact h, fun c2 => by rw [if_neg c2] at h; exact h⟩
  · rw [if_neg c] at h
    refine m_inverse hv ?_
    have h2 := inv_nm' hv
    have hb := md_bd hu.1 (show u ≤ 30 by have := hu.2; omega) h2.1 (show ax_inv v ≤ 30 by have := h2.2; omega)
    exact ⟨by omega, h⟩
theorem m_isCoordinate {d : Nat} {I : ax_H} {Q : Int → ax_H → Prop} {c : Int} (hc : ax_R c) (ht : co c → Q 1 I) (hf : ¬ co c → Q 0 I) : cI (d + 1) kX11_isCoordinate [ax_i c] I Q := by
  refine vX11_isCoordinate_0 hc ?_
  exact m_in (R8_of hc) (by decide) (by decide) (fun h => ⟨by decide, ht h⟩) (fun h => ⟨by decide, hf h⟩)
theorem m_isSpot {d : Nat} {I : ax_H} {Q : Int → ax_H → Prop} {x y : Int} (hx : ax_R x) (hy : ax_R y) (ht : co x ∧ co y → Q 1 I) (hf : ¬ (co x ∧ co y) → Q 0 I) : cI (d + 2) kX11_isSpot [ax_i x, ax_i y] I Q := by
  refine vX11_isSpot_0 ?_
  refine m_isCoordinate hx (fun h => b1 ?_) (fun h => b0 (hf (fun q => h q.1)))
  exact m_isCoordinate hy (fun h2 => b1 (ht ⟨h, h2⟩)) (fun h2 => b0 (hf (fun q => h2 q.2)))
abbrev plc (t i j : Int) : Prop := (0 ≤ t ∧ t ≤ 1) ∧ (0 ≤ i ∧ i ≤ 2) ∧ (0 ≤ j ∧ j ≤ 2)
theorem m_isPlace {d : Nat} {I : ax_H} {Q : Int → ax_H → Prop} {t i j : Int} (ht : ax_R t) (hi : ax_R i) (hj : ax_R j) (hy : plc t i j → Q 1 I) (hn : ¬ plc t i j → Q 0 I) : cI (d + 1) kX11_isPlace [ax_i t, ax_i i, ax_i j] I Q := by
  refine vX11_isPlace_0 ht hi hj ?_
  refine m_in (R8_of ht) (by decide) (by decide) (fun h => b1 ?_) (fun h => b0 (hn (fun q => h q.1)))
  refine m_in (R8_of hi) (by decide) (by decide) (fun h2 => b1 ?_) (fun h2 => b0 (hn (fun q => h2 q.2.1)))
  exact m_in (R8_of hj) (by decide) (by decide) (fun h3 => b1 (hy ⟨h, h2, h3⟩)) (fun h3 => b0 (hn (fun q => h3 q.2.2)))
theorem m_placeOf {d : Nat} {I : ax_H} {Q : Int → ax_H → Prop} {t i j : Int} (h : Q (9 * t + 3 * i + j) I) : cI d kX11_placeOf [ax_i t, ax_i i, ax_i j] I Q := vX11_placeOf_0 h
theorem m_power {d : Nat} {I : ax_H} {Q : Int → ax_H → Prop} {c i : Int} (hc : co c) (hi : 0 ≤ i ∧ i ≤ 2) (h : Q (pw c i) I) : cI d kX11_power [ax_i c, ax_i i] I Q := by
  unfold pw at h
  have hb := md_bd hc.1 hc.2 hc.1 hc.2
  refine vX11_power_0 (co_R hc) ⟨by omega, by omega⟩ ⟨fun c1 => ⟨fun c2 => ⟨fun c3 => ⟨by omega, ?_⟩, fun c3 => ?_⟩, fun c2 => ?_⟩, fun c1 => ⟨fun c2 => ?_, fun c2 => ?_⟩⟩
  · rw [if_neg c1, if_neg c2, if_neg c3] at h; exact h
  · rw [if_neg c1, if_neg c2, if_pos c3] at h; exact h
  · rw [if_neg c1, if_pos c2] at h; exact h
  · rw [if_pos c1, if_neg c2] at h; exact h
  · rw [if_pos c1, if_pos c2] at h; exact h
theorem trm_bd {g : Int → Int} (t x y i j : Int) : 0 ≤ trm g t x y i j ∧ trm g t x y i j < 31 := by
  unfold trm; omega
theorem m_va_it {d : Nat} {I : ax_H} {Q : Int → ax_H → Prop} {t x y s i j : Int} (hg : gd (I 86)) (ht : 0 ≤ t ∧ t ≤ 1) (hx : co x) (hy : co y) (hi : 0 ≤ i ∧ i ≤ 2) (hj : 0 ≤ j ∧ j ≤ 2)
    (K : RI (d + 1) kX11_valueAt 15 [some (ax_r 85), some (ax_i t), some (ax_i x), some (ax_i y), some (ax_i (s + trm (I 86) t x y i j)), some (ax_i i), some (ax_i (j + 1))] I Q) :
    RI (d + 1) kX11_valueAt 15 [some (ax_r 85), some (ax_i t), some (ax_i x), some (ax_i y), some (ax_i s), some (ax_i i), some (ax_i j)] I Q := by
  refine vX11_valueAt_15 ⟨by omega, by omega⟩ ⟨fun c => absurd c (by omega), fun _ => ?_⟩
  refine m_placeOf ⟨by omega, ?_⟩
  have h1 := hg (9 * t + 3 * i + j) (by omega) (by omega)
  have h2 := pw_nm hx hi
  have h3 := pw_nm hy hj
  have hb := md_bd h1.1 (show _ ≤ 30 by have := h1.2; omega) h2.1 (show _ ≤ 30 by have := h2.2; omega)
  refine m_power hx hi ⟨by omega, ?_⟩
  have hb2 := md_bd (show 0 ≤ I 86 (9 * t + 3 * i + j) * pw x i % 31 by omega) (show _ ≤ 30 by omega) h3.1 (show _ ≤ 30 by have := h3.2; omega)
  refine m_power hy hj ⟨by omega, ?_⟩
  intro z hz
  subst hz
  exact K
theorem m_valueAt {d : Nat} {I : ax_H} {Q : Int → ax_H → Prop} {t x y : Int} (hg : gd (I 86)) (ht : 0 ≤ t ∧ t ≤ 1) (hx : co x) (hy : co y) (h : Q (vl (I 86) t x y) I) : cI (d + 1) kX11_valueAt [ax_r 85, ax_i t, ax_i x, ax_i y] I Q := by
  have row : ∀ (s i : Int), 0 ≤ i ∧ i ≤ 2 → RI (d + 1) kX11_valueAt 6 [some (ax_r 85), some (ax_i t), some (ax_i x), some (ax_i y), some (ax_i (s + trm (I 86) t x y i 0 + trm (I 86) t x y i 1 + trm (I 86) t x y i 2)), some (ax_i (i + 1)), none] I Q → RI (d + 1) kX11_valueAt 6 [some (ax_r 85), some (ax_i t), some (ax_i x), some (ax_i y), some (ax_i s), some (ax_i i), none] I Q := by
    intro s i hi K
    refine vX11_valueAt_6 ⟨by omega, by omega⟩ ⟨fun c => absurd c (by omega), fun _ => ?_⟩
    refine m_va_it hg ht hx hy hi (by decide) ?_
    refine m_va_it hg ht hx hy hi (by decide) ?_
    refine m_va_it hg ht hx hy hi (by decide) ?_
    exact vX11_valueAt_15 (by decide) ⟨fun _ => K, fun c => absurd (by decide) c⟩
  refine vX11_valueAt_0 ?_
  refine row _ 0 (by decide) ?_
  refine row _ 1 (by decide) ?_
  refine row _ 2 (by decide) ?_
  refine vX11_valueAt_6 (by decide) ⟨fun _ => ⟨?_, ?_⟩, fun c => absurd (by decide) c⟩
  · have := trm_bd (g := I 86) t x y 0 0; have := trm_bd (g := I 86) t x y 0 1; have := trm_bd (g := I 86) t x y 0 2
    have := trm_bd (g := I 86) t x y 1 0; have := trm_bd (g := I 86) t x y 1 1; have := trm_bd (g := I 86) t x y 1 2
    have := trm_bd (g := I 86) t x y 2 0; have := trm_bd (g := I 86) t x y 2 1; have := trm_bd (g := I 86) t x y 2 2
    omega
  · unfold vl at h
    simpa using h
theorem m_keptAt {d : Nat} {I : ax_H} {Q : Int → ax_H → Prop} {x y : Int} (hg : gd (I 86)) (hx : co x) (hy : co y) (h : Q (kp (I 86) x y) I) : cI (d + 2) kX11_keptAt [ax_r 85, ax_i x, ax_i y] I Q := by
  refine vX11_keptAt_0 ?_
  refine m_valueAt hg (by decide) hx hy ?_
  refine m_valueAt hg (by decide) hx hy ?_
  exact m_by (vl_nm _ _ _ _) (vl_nm _ _ _ _) h
theorem nu_nm {g : Int → Int} {which t k o : Int} (hg : gd g) (ht : 0 ≤ t ∧ t ≤ 1) (hk : 0 ≤ k ∧ k ≤ 2) (ho : 0 ≤ o ∧ o ≤ 2) : nm (nu g which t k o) := by
  unfold nu
  split
  · exact hg _ (by omega) (by omega)
  · exact hg _ (by omega) (by omega)
theorem m_row_it {d : Nat} {I : ax_H} {Q : Int → ax_H → Prop} {w t k c s o : Int} (hg : gd (I 86)) (hw : ax_R w) (ht : 0 ≤ t ∧ t ≤ 1) (hk : 0 ≤ k ∧ k ≤ 2) (hc : co c) (ho : 0 ≤ o ∧ o ≤ 2)
    (K : RI (d + 1) kX11_rowAt 6 [some (ax_r 85), some (ax_i t), some (ax_i w), some (ax_i k), some (ax_i c), some (ax_i (s + nu (I 86) w t k o * pw c o)), some (ax_i (o + 1))] I Q) :
    RI (d + 1) kX11_rowAt 6 [some (ax_r 85), some (ax_i t), some (ax_i w), some (ax_i k), some (ax_i c), some (ax_i s), some (ax_i o)] I Q := by
  refine vX11_rowAt_6 hw ⟨by omega, by omega⟩ ⟨fun c => absurd c (by omega), fun _ => ⟨fun e => ?_, fun e => ?_⟩⟩
  · refine m_placeOf ⟨by omega, ?_⟩
    refine m_power hc ho ?_
    intro z hz
    subst hz
    unfold nu at K
    rw [if_neg e] at K
    exact K
  · refine m_placeOf ⟨by omega, ?_⟩
    refine m_power hc ho ?_
    intro z hz
    subst hz
    unfold nu at K
    rw [if_pos e] at K
    exact K
theorem m_rowAt {d : Nat} {I : ax_H} {Q : Int → ax_H → Prop} {w t k c : Int} (hg : gd (I 86)) (hw : ax_R w) (ht : 0 ≤ t ∧ t ≤ 1) (hk : 0 ≤ k ∧ k ≤ 2) (hc : co c) (h : Q (rw_ (I 86) w t k c) I) : cI (d + 1) kX11_rowAt [ax_r 85, ax_i t, ax_i w, ax_i k, ax_i c] I Q := by
  have b : ∀ o, 0 ≤ o ∧ o ≤ 2 → 0 ≤ nu (I 86) w t k o * pw c o ∧ nu (I 86) w t k o * pw c o ≤ 900 := by
    intro o ho
    have h1 := nu_nm (which := w) hg ht hk ho
    have h2 := pw_nm hc ho
    have := md_bd h1.1 (show _ ≤ 30 by have := h1.2; omega) h2.1 (show _ ≤ 30 by have := h2.2; omega)
    omega
  have b0 := b 0 (by decide)
  have b1 := b (0 + 1) (by decide)
  have b2 := b (0 + 1 + 1) (by decide)
  refine vX11_rowAt_0 ?_
  refine m_row_it hg hw ht hk hc (by decide) ?_
  refine m_row_it hg hw ht hk hc (by decide) ?_
  refine m_row_it hg hw ht hk hc (by decide) ?_
  refine vX11_rowAt_6 hw (by decide) ⟨fun _ => ⟨by omega, ?_⟩, fun c => absurd (by decide) c⟩
  unfold rw_ at h
  simpa using h
theorem rw_nm (g : Int → Int) (w t k c : Int) : nm (rw_ g w t k c) := nm_mod _
theorem cross_R {a b c d : Int} (ha : nm a) (hb : nm b) (hc : nm c) (hd : nm d) : ax_R (a * b - c * d) := by
  have h1 := md_bd ha.1 (show a ≤ 30 by have := ha.2; omega) hb.1 (show b ≤ 30 by have := hb.2; omega)
  have h2 := md_bd hc.1 (show c ≤ 30 by have := hc.2; omega) hd.1 (show d ≤ 30 by have := hd.2; omega)
  exact ⟨by omega, by omega⟩
theorem m_crossed {d : Nat} {I : ax_H} {Q : Int → ax_H → Prop} {w c what : Int} (hg : gd (I 86)) (hw : ax_R w) (hc : co c) (hwh : 0 ≤ what ∧ what ≤ 2) (h : Q (cr (I 86) w c what) I) : cI (d + 2) kX11_crossed [ax_r 85, ax_i w, ax_i c, ax_i what] I Q := by
  have fin : ∀ k l : Int, 0 ≤ k ∧ k ≤ 2 → 0 ≤ l ∧ l ≤ 2 → Q ((rw_ (I 86) w 0 k c * rw_ (I 86) w 1 l c - rw_ (I 86) w 0 l c * rw_ (I 86) w 1 k c) % 31) I →
      cI (d + 1) kX11_rowAt [ax_r 85, ax_i 0, ax_i w, ax_i k, ax_i c] I (fun w4 I3 =>
      cI (d + 1) kX11_rowAt [ax_r 85, ax_i 1, ax_i w, ax_i l, ax_i c] I3 (fun w6 I5 =>
      cI (d + 1) kX11_rowAt [ax_r 85, ax_i 0, ax_i w, ax_i l, ax_i c] I5 (fun w8 I7 =>
      cI (d + 1) kX11_rowAt [ax_r 85, ax_i 1, ax_i w, ax_i k, ax_i c] I7 (fun w10 I9 =>
      cI (d + 1) kX11_mod [ax_i ((w4 * w6) - (w8 * w10))] I9 (fun w12 I11 =>
      Q w12 I11))))) := by
    intro k l hk hl h
    refine m_rowAt hg hw (by decide) hk hc ?_
    refine m_rowAt hg hw (by decide) hl hc ?_
    refine m_rowAt hg hw (by decide) hl hc ?_
    refine m_rowAt hg hw (by decide) hk hc ?_
    exact m_mod (cross_R (rw_nm _ _ _ _ _) (rw_nm _ _ _ _ _) (rw_nm _ _ _ _ _) (rw_nm _ _ _ _ _)) h
  unfold cr at h
  refine vX11_crossed_0 ⟨by omega, by omega⟩ ⟨fun c1 => ⟨fun c2 => ?_, fun c2 => ?_⟩, fun c1 => ?_⟩
  · rw [if_neg c1, if_neg c2] at h; exact fin 2 0 (by decide) (by decide) h
  · rw [if_neg c1, if_pos c2] at h; exact fin 2 1 (by decide) (by decide) h
  · rw [if_pos c1, if_neg (by omega)] at h
    first | exact fin 1 0 (by decide) (by decide) h | exact ⟨fun _ => fin 1 0 (by decide) (by decide) h, fun c2 => absurd c2 (by omega)⟩
theorem m_other {d : Nat} {I : ax_H} {Q : Int → ax_H → Prop} {w own c : Int} (hg : gd (I 86)) (hw : ax_R w) (ho : co own) (hc : co c) (h : Q (ot (I 86) w own c) I) : cI (d + 3) kX11_other [ax_r 85, ax_i w, ax_i own, ax_i c] I Q := by
  unfold ot at h
  dsimp only at h
  refine vX11_other_0 (co_R ho) ?_
  refine m_crossed hg hw hc (by decide) ?_
  refine m_crossed hg hw hc (by decide) ?_
  refine m_crossed hg hw hc (by decide) ?_
  have hp := cr_nm (I 86) w c 0
  have hq := cr_nm (I 86) w c 1
  have hr := cr_nm (I 86) w c 2
  have fin : ∀ z : Int, (z = -6 ∨ co z) → Q (if z = -6 then -7 else z) I → ax_R z ∧ ((z ≠ -6 → Q z I) ∧ (z = -6 → Q (-7) I)) := by
    intro z hz h
    refine ⟨?_, fun c => ?_, fun c => ?_⟩
    · rcases hz with rfl | hz
      · decide
      · exact co_R hz
    · rw [if_neg c] at h; exact h
    · rw [if_pos c] at h; exact h
  refine ⟨fun c1 => ?_, fun c1 => ?_⟩
  · rw [if_neg c1] at h
    have h1 := md_bd hq.1 (show _ ≤ 30 by have := hq.2; omega) ho.1 ho.2
    have h2 := md_bd hp.1 (show _ ≤ 30 by have := hp.2; omega) ho.1 ho.2
    have hr1 := hr.1
    have hr2 := hr.2
    have hq1 := hq.1
    have hq2 := hq.2
    refine m_mod ⟨by omega, by omega⟩ ?_
    refine m_mod ⟨by omega, by omega⟩ ?_
    refine m_by (nm_mod _) (nm_mod _) ?_
    exact fin _ (qb_co (nm_mod _) (nm_mod _)) h
  · rw [if_pos c1] at h
    have hq1 := hq.1
    have hq2 := hq.2
    refine m_mod ⟨by omega, by omega⟩ ?_
    refine m_by (nm_mod _) hp ?_
    exact fin _ (qb_co (nm_mod _) hp) h
theorem m_swapped {d : Nat} {I : ax_H} {Q : Int → ax_H → Prop} {s w : Int} (hg : gd (I 86)) (hs : spt s) (hw : 0 ≤ w ∧ w ≤ 1) (h : Q (swd (I 86) s w) I) : cI (d + 4) kX11_swapped [ax_r 85, ax_i s, ax_i w] I Q := by
  have hs1 := hs.1
  have hs2 := hs.2
  unfold swd at h
  dsimp only at h
  refine vX11_swapped_0 ⟨by omega, by omega⟩ ⟨by omega, ?_⟩
  intro y1 e1 y2 e2
  subst e1
  subst e2
  refine ⟨fun c => ?_, fun c => ?_⟩
  · rw [if_neg c, if_neg c] at h
    refine m_other hg (by decide) ⟨by omega, by omega⟩ ⟨by omega, by omega⟩ ?_
    refine ⟨?_, fun c2 => ?_, fun c2 => ?_⟩
    · rcases ot_co (I 86) 1 (s % 32) (s / 32) with e | e
      · rw [e]; decide
      · exact co_R e
    · rw [if_neg c2] at h; exact h
    · rw [if_pos c2] at h; exact h
  · rw [if_pos c, if_pos c] at h
    refine m_other hg (by decide) ⟨by omega, by omega⟩ ⟨by omega, by omega⟩ ?_
    refine ⟨?_, fun c2 => ?_, fun c2 => ?_⟩
    · rcases ot_co (I 86) 0 (s / 32) (s % 32) with e | e
      · rw [e]; decide
      · exact co_R e
    · rw [if_neg c2] at h; exact h
    · rw [if_pos c2] at h; exact h
theorem m_step {d : Nat} {I : ax_H} {Q : Int → ax_H → Prop} {s b : Int} (hg : gd (I 86)) (hs : spt s) (hb : 0 ≤ b ∧ b ≤ 1) (h : Q (stp (I 86) s b) I) : cI (d + 5) kX11_step [ax_r 85, ax_i s, ax_i b] I Q := by
  unfold stp at h
  dsimp only at h
  have R7 : ∀ z : Int, (z = -7 ∨ spt z) → ax_R z := by
    intro z hz
    rcases hz with rfl | hz
    · decide
    · exact ⟨by have := hz.1; omega, by have := hz.2; omega⟩
  refine vX11_step_0 ⟨by omega, by omega⟩ ⟨fun c => ?_, fun c => ?_⟩
  · rw [if_pos c, if_pos c] at h
    refine m_swapped hg hs (by decide) ?_
    refine ⟨R7 _ (swd_spt hs), fun c2 => ?_, fun c2 => ?_⟩
    · rw [if_neg c2] at h
      exact m_swapped hg ((swd_spt hs).resolve_left c2) (by decide) h
    · rw [if_pos c2] at h; exact h
  · rw [if_neg c, if_neg c] at h
    refine m_swapped hg hs (by decide) ?_
    refine ⟨R7 _ (swd_spt hs), fun c2 => ?_, fun c2 => ?_⟩
    · rw [if_neg c2] at h
      exact m_swapped hg ((swd_spt hs).resolve_left c2) (by decide) h
    · rw [if_pos c2] at h; exact h
