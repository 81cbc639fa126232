/-! the class: numbers, tables -/
theorem j_floorMod {d : Nat} {I : ax_H} {Q : Int → ax_H → Prop} {v : Int} (hv : ax_R v) (h : Q (v % 31) I) : cI d kJ9_floorMod_7cf53 [ax_i v, ax_i 31] I Q := by
  refine vJ9_floorMod_7cf53_0 hv (by decide) ⟨by decide, ?_⟩
  intro y hy
  have hx := ax_xor_nn hv (show ax_R 31 by decide)
  rcases Int.le_total 0 v with h0 | h0
  · rw [Int.tmod_eq_emod_of_nonneg h0] at hy
    refine ⟨fun _ => by rw [hy]; exact h, fun c => ⟨by omega, fun c2 => by rw [hy]; exact h, fun c2 => absurd (hx.mp (by omega)) (by omega)⟩⟩
  · have h3 : (-v).tmod 31 = -(v.tmod 31) := Int.neg_tmod v 31
    rw [Int.tmod_eq_emod_of_nonneg (by omega)] at h3
    refine ⟨fun c => ?_, fun c => ⟨by omega, fun c2 => ?_, fun c2 => ?_⟩⟩
    · have : ¬ ¬ (v < 0 ↔ (31 : Int) < 0) := fun q => by have := hx.mpr q; omega
      have hv0 : v = 0 := by
        rcases Int.lt_or_eq_of_le h0 with l | l
        · exact absurd (fun q : (v < 0 ↔ (31 : Int) < 0) => absurd (q.mp l) (by decide)) this
        · exact l
      rw [show y = v % 31 by subst hv0; simpa using hy]; exact h
    · rw [show y = v % 31 by omega]; exact h
    · rw [show y + 31 = v % 31 by omega]; exact h
theorem j_max {d : Nat} {I : ax_H} {Q : Int → ax_H → Prop} {x y : Int} (hx : ax_R x) (hy : ax_R y) (h : Q (if x < y then y else x) I) : cI d kJ9_max_7cf53 [ax_i x, ax_i y] I Q :=
  vJ9_max_7cf53_0 hx hy ⟨fun c => by rw [if_pos c] at h; exact h, fun c => by rw [if_neg c] at h; exact h⟩
theorem j_min {d : Nat} {I : ax_H} {Q : Int → ax_H → Prop} {x y : Int} (hx : ax_R x) (hy : ax_R y) (h : Q (if y < x then y else x) I) : cI d kJ9_min_7cf53 [ax_i x, ax_i y] I Q :=
  vJ9_min_7cf53_0 hx hy ⟨fun c => by rw [if_pos c] at h; exact h, fun c => by rw [if_neg c] at h; exact h⟩
theorem c_modulo {d : Nat} {I : ax_H} {Q : Int → ax_H → Prop} {v : Int} (hv : ax_R v) (h : Q (v % 31) I) : cI (d + 1) kX10_modulo [ax_i v] I Q := vX10_modulo_0 (j_floorMod hv h)
theorem c_quotient {d : Nat} {I : ax_H} {Q : Int → ax_H → Prop} {u v : Int} (hu : ax_R u) (hv : ax_R v) (h : Q (qb (u % 31) (v % 31)) I) : cI (d + 1) kX10_quotient [ax_i u, ax_i v] I Q := by
  unfold qb at h
  refine vX10_quotient_0 ?_
  refine j_floorMod hu ?_
  refine j_floorMod hv ⟨by omega, fun c => ⟨⟨by omega, by omega⟩, ?_, ?_⟩, fun c => ⟨by omega, fun c2 => ?_, fun c2 => ?_⟩⟩
  · have h2 := inv_nm' (nm_mod v)
    have hb := md_bd (show 0 ≤ u % 31 by omega) (show u % 31 ≤ 30 by omega) h2.1 (show _ ≤ 30 by have := h2.2; omega)
    omega
  · rw [if_neg c] at h; exact h
  · rw [if_pos c, if_neg c2] at h; exact h
  · rw [if_pos c, if_pos c2] at h; exact h
def qd (n0 n1 n2 c : Int) : Int := if c = 31 then n2 else (n0 + (n1 + n2 * c) * c) % 31
theorem em1 (a b : Int) : (a % 31 * b) % 31 = (a * b) % 31 := by
  rw [Int.mul_emod, Int.emod_emod_of_dvd _ (Int.dvd_refl 31), ← Int.mul_emod]
theorem em2 (a p : Int) : a % 31 * p = a * p - 31 * (a / 31 * p) := by
  rw [Int.emod_def, Int.sub_mul, Int.mul_assoc]
theorem qd_eq {n0 n1 n2 c : Int} (h2 : nm n2) (hc : co c) : qd n0 n1 n2 c = (n0 * pw c 0 + n1 * pw c 1 + n2 * pw c 2) % 31 := by
  unfold qd pw
  by_cases h : c = 31
  · have := h2.1
    have := h2.2
    simp [h]
    omega
  · simp only [if_neg h, if_true, show ¬ (1 : Int) = 0 by decide, show ¬ (2 : Int) = 0 by decide, show ¬ (2 : Int) = 1 by decide, if_false]
    have e : (n1 + n2 * c) * c = n1 * c + n2 * (c * c) := by rw [Int.add_mul, Int.mul_assoc]
    have e2 : n2 * (c * c % 31) = n2 * (c * c) - 31 * (n2 * (c * c / 31)) := by
      rw [Int.emod_def, Int.mul_sub, Int.mul_left_comm n2 31 (c * c / 31)]
    rw [e, e2]
    omega
theorem vl_rows (g : Int → Int) (t x y : Int) : vl g t x y = (rw_ g 0 t 0 y * pw x 0 + rw_ g 0 t 1 y * pw x 1 + rw_ g 0 t 2 y * pw x 2) % 31 := by
  have key : ∀ i j, trm g t x y i j = (g (9 * t + 3 * i + j) * pw y j * pw x i) % 31 := by
    intro i j
    unfold trm
    rw [em1, Int.mul_right_comm]
  have row : ∀ i, rw_ g 0 t i y * pw x i = g (9 * t + 3 * i + 0) * pw y 0 * pw x i + g (9 * t + 3 * i + 1) * pw y 1 * pw x i + g (9 * t + 3 * i + 2) * pw y 2 * pw x i - 31 * ((g (9 * t + 3 * i + 0) * pw y 0 + g (9 * t + 3 * i + 1) * pw y 1 + g (9 * t + 3 * i + 2) * pw y 2) / 31 * pw x i) := by
    intro i
    unfold rw_ nu
    simp only [if_true]
    rw [em2, Int.add_mul, Int.add_mul]
  unfold vl
  rw [row 0, row 1, row 2]
  simp only [key]
  omega
/-- the numbers of the table cell a are good, and those of g -/
def tabs (I : ax_H) (a : Nat) (g : Int → Int) : Prop := ∀ k, 0 ≤ k → k < 18 → I a k = g k ∧ nm (g k)
theorem tabs.gd {I : ax_H} {a : Nat} {g : Int → Int} (h : tabs I a g) : gd g := fun k h1 h2 => (h k h1 h2).2
theorem c_quadraticAt {d : Nat} {I : ax_H} {Q : Int → ax_H → Prop} {n0 n1 n2 c : Int} (h0 : nm n0) (h1 : nm n1) (h2 : nm n2) (hc : co c) (h : Q (qd n0 n1 n2 c) I) : cI d kX10_quadraticAt [ax_i n0, ax_i n1, ax_i n2, ax_i c] I Q := by
  unfold qd at h
  refine vX10_quadraticAt_0 (co_R hc) ⟨fun c1 => ⟨?_, ?_⟩, fun c1 => ?_⟩
  · have b1 := md_bd h2.1 (show n2 ≤ 30 by have := h2.2; omega) hc.1 hc.2
    have := h1.1
    have := h1.2
    have := h0.1
    have := h0.2
    have b2 := md_bd (show 0 ≤ n1 + n2 * c by omega) (show n1 + n2 * c ≤ 960 by omega) hc.1 hc.2
    omega
  · rw [if_neg c1] at h; exact h
  · rw [if_pos c1] at h; exact h
theorem c_powerAt {d : Nat} {I : ax_H} {Q : Int → ax_H → Prop} {i c : Int} (hi : 0 ≤ i ∧ i ≤ 2) (hc : co c) (h : Q (pw c i) I) : cI (d + 1) kX10_powerAt [ax_i i, ax_i c] I Q := by
  have e := qd_eq (c := c) (n0 := if i = 0 then 1 else 0) (n1 := if i = 1 then 1 else 0) (n2 := if i = 2 then 1 else 0) (by split <;> exact ⟨by decide, by decide⟩) hc
  have z : nm 0 := ⟨by decide, by decide⟩
  have o : nm 1 := ⟨by decide, by decide⟩
  have p2 := pw_nm hc hi
  have p0 := pw_nm hc (i := 0) (by decide)
  have p3 := pw_nm hc (i := 1) (by decide)
  have p4 := pw_nm hc (i := 2) (by decide)
  have hi3 : i = 0 ∨ i = 1 ∨ i = 2 := by omega
  refine vX10_powerAt_0 ⟨by omega, by omega⟩ ?_
  rcases hi3 with rfl | rfl | rfl
  · refine ⟨fun c => absurd rfl c, fun _ => ?_⟩
    first | refine ⟨fun _ => ⟨fun _ => ?_, fun c => absurd c (by decide)⟩, fun c => absurd c (by decide)⟩ | skip
    refine c_quadraticAt o z z hc ?_
    simp at e
    rw [e]
    rw [show pw c 0 % 31 = pw c 0 by have := p0.1; have := p0.2; omega]; exact h
  · refine ⟨fun _ => ⟨fun c => absurd rfl c, fun _ => ?_⟩, fun c => absurd c (by decide)⟩
    first | refine ⟨fun _ => ?_, fun c => absurd c (by decide)⟩ | skip
    refine c_quadraticAt z o z hc ?_
    simp at e
    rw [e]
    rw [show pw c 1 % 31 = pw c 1 by have := p3.1; have := p3.2; omega]; exact h
  · refine ⟨fun _ => ⟨fun _ => ⟨fun c => absurd rfl c, fun _ => ?_⟩, fun c => absurd c (by decide)⟩, fun c => absurd c (by decide)⟩
    refine c_quadraticAt z z o hc ?_
    simp at e
    rw [e]
    rw [show pw c 2 % 31 = pw c 2 by have := p4.1; have := p4.2; omega]; exact h
theorem c_numberAt {d : Nat} {I : ax_H} {Q : Int → ax_H → Prop} {a : Nat} {g : Int → Int} {t i j : Int} (ha : isT a) (hT : tabs I (a + 1) g) (hp : plc t i j) (h : Q (g (9 * t + 3 * i + j)) I) : cI d kX9_numberAt [ax_r a, ax_i t, ax_i i, ax_i j] I Q := by
  obtain ⟨p1, p2, p3⟩ := hp
  refine vX9_numberAt_0 ha ?_
  intro y hy
  refine ⟨by omega, fun c => absurd c (by omega), fun _ => ⟨fun c => absurd c (by omega), fun _ => ⟨by omega, ?_⟩⟩⟩
  rw [(hT y (by omega) (by omega)).1, hy]; exact h
theorem c_numberAlong {d : Nat} {I : ax_H} {Q : Int → ax_H → Prop} {a : Nat} {g : Int → Int} {w t k o : Int} (ha : isT a) (hT : tabs I (a + 1) g) (hw : ax_R w) (ht : 0 ≤ t ∧ t ≤ 1) (hk : 0 ≤ k ∧ k ≤ 2) (ho : 0 ≤ o ∧ o ≤ 2) (h : Q (nu g w t k o) I) : cI d kX9_numberAlong [ax_r a, ax_i w, ax_i t, ax_i k, ax_i o] I Q := by
  unfold nu at h
  refine vX9_numberAlong_0 ha hw ⟨fun c => ?_, fun c => ?_⟩
  · rw [if_neg c] at h
    intro y hy
    refine ⟨by omega, fun c => absurd c (by omega), fun _ => ⟨fun c => absurd c (by omega), fun _ => ⟨by omega, ?_⟩⟩⟩
    rw [(hT y (by omega) (by omega)).1, show y = 9 * t + 3 * o + k by omega]; exact h
  · rw [if_pos c] at h
    intro y hy
    refine ⟨by omega, fun c => absurd c (by omega), fun _ => ⟨fun c => absurd c (by omega), fun _ => ⟨by omega, ?_⟩⟩⟩
    rw [(hT y (by omega) (by omega)).1, show y = 9 * t + 3 * k + o by omega]; exact h
theorem c_sumAt {d : Nat} {I : ax_H} {Q : Int → ax_H → Prop} {a : Nat} {g : Int → Int} {w t k c : Int} (ha : isT a) (hT : tabs I (a + 1) g) (hw : ax_R w) (ht : 0 ≤ t ∧ t ≤ 1) (hk : 0 ≤ k ∧ k ≤ 2) (hc : co c) (h : Q (rw_ g w t k c) I) : cI (d + 1) kX9_sumAt [ax_r a, ax_i w, ax_i t, ax_i k, ax_i c] I Q := by
  have n0 := nu_nm (which := w) hT.gd ht hk (o := 0) (by decide)
  have n1 := nu_nm (which := w) hT.gd ht hk (o := 1) (by decide)
  have n2 := nu_nm (which := w) hT.gd ht hk (o := 2) (by decide)
  refine vX9_sumAt_0 ha ?_
  refine c_numberAlong ha hT hw ht hk (by decide) ?_
  refine c_numberAlong ha hT hw ht hk (by decide) ?_
  refine c_numberAlong ha hT hw ht hk (by decide) ?_
  refine c_quadraticAt n0 n1 n2 hc ?_
  rw [qd_eq n2 hc]
  exact h
theorem c_valueAt {d : Nat} {I : ax_H} {Q : Int → ax_H → Prop} {a : Nat} {g : Int → Int} {t x y : Int} (ha : isT a) (hT : tabs I (a + 1) g) (ht : 0 ≤ t ∧ t ≤ 1) (hx : co x) (hy : co y) (h : Q (vl g t x y) I) : cI (d + 2) kX9_valueAt [ax_r a, ax_i t, ax_i x, ax_i y] I Q := by
  refine vX9_valueAt_0 ha ?_
  refine c_sumAt ha hT (by decide) ht (by decide) hy ?_
  refine c_sumAt ha hT (by decide) ht (by decide) hy ?_
  refine c_sumAt ha hT (by decide) ht (by decide) hy ?_
  refine c_quadraticAt (rw_nm _ _ _ _ _) (rw_nm _ _ _ _ _) (rw_nm _ _ _ _ _) hx ?_
  rw [qd_eq (rw_nm _ _ _ _ _) hx, ← vl_rows]
  exact h
theorem nm_self {n : Int} (h : nm n) : n % 31 = n := by have := h.1; have := h.2; omega
theorem c_quotientAt {d : Nat} {I : ax_H} {Q : Int → ax_H → Prop} {a : Nat} {g : Int → Int} {x y : Int} (ha : isT a) (hT : tabs I (a + 1) g) (hx : co x) (hy : co y) (h : Q (kp g x y) I) : cI (d + 3) kX9_quotientAt [ax_r a, ax_i x, ax_i y] I Q := by
  refine vX9_quotientAt_0 ha ?_
  refine c_valueAt ha hT (by decide) hx hy ?_
  refine c_valueAt ha hT (by decide) hx hy ?_
  refine c_quotient (nm_R (vl_nm _ _ _ _)) (nm_R (vl_nm _ _ _ _)) ?_
  rw [nm_self (vl_nm _ _ _ _), nm_self (vl_nm _ _ _ _)]
  exact h
/-! tests of arguments -/
theorem c_isNumber {d : Nat} {I : ax_H} {Q : Int → ax_H → Prop} {v : Int} (hv : ax_R v) (ht : nm v → Q 1 I) (hf : ¬ nm v → Q 0 I) : cI d kX10_isNumber [ax_i v] I Q := by
  unfold nm at *
  exact vX10_isNumber_0 hv ⟨fun c => hf (by omega), fun c => ⟨fun c2 => hf (by omega), fun c2 => ht (by omega)⟩⟩
theorem c_isCoordinate {d : Nat} {I : ax_H} {Q : Int → ax_H → Prop} {v : Int} (hv : ax_R v) (ht : co v → Q 1 I) (hf : ¬ co v → Q 0 I) : cI d kX10_isCoordinate [ax_i v] I Q := by
  unfold co at *
  exact vX10_isCoordinate_0 hv ⟨fun c => hf (by omega), fun c => ⟨fun c2 => hf (by omega), fun c2 => ht (by omega)⟩⟩
theorem c_isSpot {d : Nat} {I : ax_H} {Q : Int → ax_H → Prop} {x y : Int} (hx : ax_R x) (hy : ax_R y) (ht : co x ∧ co y → Q 1 I) (hf : ¬ (co x ∧ co y) → Q 0 I) : cI (d + 1) kX10_isSpot [ax_i x, ax_i y] I Q := by
  refine vX10_isSpot_0 ?_
  refine c_isCoordinate hx (fun h => b1 ?_) (fun h => b0 (hf (fun q => h q.1)))
  exact c_isCoordinate hy (fun h2 => b1 (ht ⟨h, h2⟩)) (fun h2 => b0 (hf (fun q => h2 q.2)))
theorem c_isAxis {d : Nat} {I : ax_H} {Q : Int → ax_H → Prop} {v : Int} (hv : ax_R v) (ht : 0 ≤ v ∧ v ≤ 1 → Q 1 I) (hf : ¬ (0 ≤ v ∧ v ≤ 1) → Q 0 I) : cI d kX10_isAxis [ax_i v] I Q :=
  vX10_isAxis_0 hv ⟨fun c => ht (by omega), fun c => ⟨fun c2 => hf (by omega), fun c2 => ht (by omega)⟩⟩
theorem c_isTable {d : Nat} {I : ax_H} {Q : Int → ax_H → Prop} {v : Int} (hv : ax_R v) (ht : 0 ≤ v ∧ v ≤ 1 → Q 1 I) (hf : ¬ (0 ≤ v ∧ v ≤ 1) → Q 0 I) : cI d kX10_isTable [ax_i v] I Q :=
  vX10_isTable_0 hv ⟨fun c => ht (by omega), fun c => ⟨fun c2 => hf (by omega), fun c2 => ht (by omega)⟩⟩
theorem c_isPower {d : Nat} {I : ax_H} {Q : Int → ax_H → Prop} {t i j : Int} (ht : ax_R t) (hi : ax_R i) (hj : ax_R j) (hy : plc t i j → Q 1 I) (hn : ¬ plc t i j → Q 0 I) : cI (d + 1) kX10_isPower [ax_i t, ax_i i, ax_i j] I Q := by
  unfold plc at *
  refine vX10_isPower_0 hi hj ?_
  refine c_isTable ht (fun h => b1 ?_) (fun h => b0 (hn (fun q => h q.1)))
  exact ⟨fun c => hn (by omega), fun c => ⟨fun c2 => hn (by omega), fun c2 => ⟨fun c3 => hn (by omega), fun c3 => ⟨fun c4 => hn (by omega), fun c4 => hy (by omega)⟩⟩⟩⟩
