theorem vX11_in_0 {d : Nat} {Q : Int → ax_H → Prop} {x0 : Int} {x2 : Int} {x4 : Int} {I : ax_H} (H :
  ax_R8 x0 ∧
  (ax_R8 x2 ∧
  (ax_R (ax_cmp x0 x2) ∧
  (((ax_cmp x0 x2) < 0 →
    Q 0 I) ∧
  (¬ (ax_cmp x0 x2) < 0 →
    ax_R8 x4 ∧
    (ax_R (ax_cmp x0 x4) ∧
    ((0 < (ax_cmp x0 x4) →
      Q 0 I) ∧
    (¬ 0 < (ax_cmp x0 x4) →
      Q 1 I)))))))) :
  RI d kX11_in 0 [some (ax_l x0), none, some (ax_l x2), none, some (ax_l x4), none] I Q := by
  show Rn _ _ _ _ _ _ _ _
  refine r_lload_n dX11_in_0 rfl ?_
  refine r_lload_n dX11_in_1 rfl ?_
  have ob1 := H.1
  have H := H.2
  have ob2 := H.1
  have H := H.2
  refine r_lcmp dX11_in_2 ob1 ob2 ?_
  have ob3 := H.1
  have H := H.2
  refine r_if_lt (tgt := 17) dX11_in_3 (by decide) ob3 (fun c4 => ?_) (fun c4 => ?_)
  · have H := H.1 c4
    refine r_iconst dX11_in_17 ?_
    exact r_zret dX11_in_18 rfl (by decide) ⟨rfl, _, rfl, H⟩
  · have H := H.2 c4
    refine r_lload_n dX11_in_6 rfl ?_
    refine r_lload dX11_in_7 rfl ?_
    have ob5 := H.1
    have H := H.2
    refine r_lcmp dX11_in_9 ob1 ob5 ?_
    have ob6 := H.1
    have H := H.2
    refine r_if_gt (tgt := 17) dX11_in_10 (by decide) ob6 (fun c7 => ?_) (fun c7 => ?_)
    · have H := H.1 c7
      refine r_iconst dX11_in_17 ?_
      exact r_zret dX11_in_18 rfl (by decide) ⟨rfl, _, rfl, H⟩
    · have H := H.2 c7
      refine r_iconst dX11_in_13 ?_
      refine r_goto (tgt := 18) dX11_in_14 (by decide) ?_
      exact r_zret dX11_in_18 rfl (by decide) ⟨rfl, _, rfl, H⟩

theorem vX11_mod_0 {d : Nat} {Q : Int → ax_H → Prop} {x0 : Int} {I : ax_H} (r0 : ax_R x0) (H :
  ∀ y1_4, y1_4 = (Int.tmod x0 31) →
  (ax_R y1_4 ∧
  ((0 ≤ y1_4 →
    Q y1_4 I) ∧
  (¬ 0 ≤ y1_4 →
    Q (y1_4 + 31) I)))) :
  RI d kX11_mod 0 [some (ax_i x0), none] I Q := by
  show Rn _ _ _ _ _ _ _ _
  refine r_iload_n dX11_mod_0 rfl ?_
  refine r_bipush (v := 31) dX11_mod_1 (by decide) ?_
  refine r_irem dX11_mod_3 r0 (by decide) (by decide) ?_
  refine r_name (fun y1_4 e1 => ?_)
  have H := H y1_4 e1
  refine r_istore_n dX11_mod_4 (by decide) rfl ?_
  refine r_iload_n dX11_mod_5 rfl ?_
  have ob2 := H.1
  have H := H.2
  refine r_if_ge (tgt := 16) dX11_mod_6 (by decide) ob2 (fun c3 => ?_) (fun c3 => ?_)
  · have H := H.1 c3
    refine r_iload_n dX11_mod_16 rfl ?_
    exact r_iret dX11_mod_17 rfl ⟨rfl, _, rfl, H⟩
  · have H := H.2 c3
    refine r_iload_n dX11_mod_9 rfl ?_
    refine r_bipush (v := 31) dX11_mod_10 (by decide) ?_
    refine r_iadd dX11_mod_12 ?_
    refine r_goto (tgt := 17) dX11_mod_13 (by decide) ?_
    exact r_iret dX11_mod_17 rfl ⟨rfl, _, rfl, H⟩

theorem vX11_inverse_0 {d : Nat} {Q : Int → ax_H → Prop} {x0 : Int} {I : ax_H} (H :
  RI d kX11_inverse 4 [some (ax_i x0), some (ax_i 1), some (ax_i 0)] I Q) :
  RI d kX11_inverse 0 [some (ax_i x0), none, none] I Q := by
  show Rn _ _ _ _ _ _ _ _
  refine r_iconst dX11_inverse_0 ?_
  refine r_istore_n dX11_inverse_1 (by decide) rfl ?_
  refine r_iconst dX11_inverse_2 ?_
  refine r_istore_n dX11_inverse_3 (by decide) rfl ?_
  exact H

theorem vX11_inverse_4 {d : Nat} {Q : Int → ax_H → Prop} {x0 : Int} {x1 : Int} {x2 : Int} {I : ax_H} (r2 : ax_R x2) (H :
  (29 ≤ x2 →
    Q x1 I) ∧
  (¬ 29 ≤ x2 →
    (0 ≤ (x1 * x0) ∧ (x1 * x0) < 2147483648) ∧
    (∀ y1_16, y1_16 = ((x1 * x0) % 31) →
    (RI d kX11_inverse 4 [some (ax_i x0), some (ax_i y1_16), some (ax_i (x2 + 1))] I Q)))) :
  RI d kX11_inverse 4 [some (ax_i x0), some (ax_i x1), some (ax_i x2)] I Q := by
  show Rn _ _ _ _ _ _ _ _
  refine r_iload_n dX11_inverse_4 rfl ?_
  refine r_bipush (v := 29) dX11_inverse_5 (by decide) ?_
  refine r_icmp_ge (tgt := 23) dX11_inverse_7 (by decide) r2 (by decide) (fun c1 => ?_) (fun c1 => ?_)
  · have H := H.1 c1
    refine r_iload_n dX11_inverse_23 rfl ?_
    exact r_iret dX11_inverse_24 rfl ⟨rfl, _, rfl, H⟩
  · have H := H.2 c1
    refine r_iload_n dX11_inverse_10 rfl ?_
    refine r_iload_n dX11_inverse_11 rfl ?_
    refine r_imul dX11_inverse_12 ?_
    refine r_bipush (v := 31) dX11_inverse_13 (by decide) ?_
    have ob2 := H.1
    have H := H.2
    refine r_iremp dX11_inverse_15 ob2 (by decide) ?_
    refine r_name (fun y1_16 e3 => ?_)
    have H := H y1_16 e3
    refine r_istore_n dX11_inverse_16 (by decide) rfl ?_
    refine r_iinc dX11_inverse_17 (by decide) rfl rfl ?_
    refine r_goto (tgt := 4) dX11_inverse_20 (by decide) ?_
    exact H

theorem vX11_by_0 {d : Nat} {Q : Int → ax_H → Prop} {x0 : Int} {x1 : Int} {I : ax_H} (r0 : ax_R x0) (r1 : ax_R x1) (H :
  (x1 = 0 →
    (x0 = 0 →
      Q (-6) I) ∧
    (¬ x0 = 0 →
      Q 31 I)) ∧
  (¬ x1 = 0 →
    cI d kX11_inverse [ax_i x1] I (fun w4 I3 =>
    (0 ≤ (x0 * w4) ∧ (x0 * w4) < 2147483648) ∧
    (Q ((x0 * w4) % 31) I3)))) :
  RI (d + 1) kX11_by 0 [some (ax_i x0), some (ax_i x1)] I Q := by
  show Rn _ _ _ _ _ _ _ _
  refine r_iload_n dX11_by_0 rfl ?_
  refine r_if_eq (tgt := 16) dX11_by_1 (by decide) r1 (fun c1 => ?_) (fun c1 => ?_)
  · have H := H.1 c1
    refine r_iload_n dX11_by_16 rfl ?_
    refine r_if_eq (tgt := 25) dX11_by_17 (by decide) r0 (fun c2 => ?_) (fun c2 => ?_)
    · have H := H.1 c2
      refine r_bipush (v := (-6)) dX11_by_25 (by decide) ?_
      exact r_iret dX11_by_27 rfl ⟨rfl, _, rfl, H⟩
    · have H := H.2 c2
      refine r_bipush (v := 31) dX11_by_20 (by decide) ?_
      refine r_goto (tgt := 27) dX11_by_22 (by decide) ?_
      exact r_iret dX11_by_27 rfl ⟨rfl, _, rfl, H⟩
  · have H := H.2 c1
    refine r_iload_n dX11_by_4 rfl ?_
    refine r_iload_n dX11_by_5 rfl ?_
    refine r_cI (as := [ax_i x1]) (how_S jX11_inverse jSX11_inverse rfl wX11_93 dX11_by_6) rfl (Nat.le_refl _) (Nat.le_of_ble_eq_true rfl) (fun _ => Nat.le_of_ble_eq_true rfl) H (fun w4 I3 H => ?_)
    refine r_imul dX11_by_9 ?_
    refine r_bipush (v := 31) dX11_by_10 (by decide) ?_
    have ob5 := H.1
    have H := H.2
    refine r_iremp dX11_by_12 ob5 (by decide) ?_
    refine r_goto (tgt := 27) dX11_by_13 (by decide) ?_
    exact r_iret dX11_by_27 rfl ⟨rfl, _, rfl, H⟩

theorem vX11_isCoordinate_0 {d : Nat} {Q : Int → ax_H → Prop} {x0 : Int} {I : ax_H} (r0 : ax_R x0) (H :
  cI d kX11_in [ax_l x0, ax_l 0, ax_l 31] I (fun w2 I1 =>
  (w2 = 0 ∨ w2 = 1) ∧
  (Q w2 I1))) :
  RI (d + 1) kX11_isCoordinate 0 [some (ax_i x0)] I Q := by
  show Rn _ _ _ _ _ _ _ _
  refine r_iload_n dX11_isCoordinate_0 rfl ?_
  refine r_i2l dX11_isCoordinate_1 r0 ?_
  refine r_lconst (v := 0) dX11_isCoordinate_2 rfl ?_
  refine r_ldc2 (v := 31) dX11_isCoordinate_3 wX11_97 ?_
  refine r_cI (as := [ax_l x0, ax_l 0, ax_l 31]) (how_S jX11_in jSX11_in rfl wX11_99 dX11_isCoordinate_6) rfl (Nat.le_refl _) (Nat.le_of_ble_eq_true rfl) (fun _ => Nat.le_of_ble_eq_true rfl) H (fun w2 I1 H => ?_)
  have ob3 := H.1
  have H := H.2
  exact r_zret dX11_isCoordinate_9 rfl ob3 ⟨rfl, _, rfl, H⟩

theorem vX11_isSpot_0 {d : Nat} {Q : Int → ax_H → Prop} {x0 : Int} {x1 : Int} {I : ax_H} (H :
  cI (d + 1) kX11_isCoordinate [ax_i x0] I (fun w2 I1 =>
  ax_R w2 ∧
  ((w2 = 0 →
    Q 0 I1) ∧
  (¬ w2 = 0 →
    cI (d + 1) kX11_isCoordinate [ax_i x1] I1 (fun w6 I5 =>
    ax_R w6 ∧
    ((w6 = 0 →
      Q 0 I5) ∧
    (¬ w6 = 0 →
      Q 1 I5))))))) :
  RI (d + 2) kX11_isSpot 0 [some (ax_i x0), some (ax_i x1)] I Q := by
  show Rn _ _ _ _ _ _ _ _
  refine r_iload_n dX11_isSpot_0 rfl ?_
  refine r_cI (as := [ax_i x0]) (how_S jX11_isCoordinate jSX11_isCoordinate rfl wX11_103 dX11_isSpot_1) rfl (Nat.le_refl _) (Nat.le_of_ble_eq_true rfl) (fun _ => Nat.le_of_ble_eq_true rfl) H (fun w2 I1 H => ?_)
  have ob3 := H.1
  have H := H.2
  refine r_if_eq (tgt := 18) dX11_isSpot_4 (by decide) ob3 (fun c4 => ?_) (fun c4 => ?_)
  · have H := H.1 c4
    refine r_iconst dX11_isSpot_18 ?_
    exact r_zret dX11_isSpot_19 rfl (by decide) ⟨rfl, _, rfl, H⟩
  · have H := H.2 c4
    refine r_iload_n dX11_isSpot_7 rfl ?_
    refine r_cI (as := [ax_i x1]) (how_S jX11_isCoordinate jSX11_isCoordinate rfl wX11_103 dX11_isSpot_8) rfl (Nat.le_refl _) (Nat.le_of_ble_eq_true rfl) (fun _ => Nat.le_of_ble_eq_true rfl) H (fun w6 I5 H => ?_)
    have ob7 := H.1
    have H := H.2
    refine r_if_eq (tgt := 18) dX11_isSpot_11 (by decide) ob7 (fun c8 => ?_) (fun c8 => ?_)
    · have H := H.1 c8
      refine r_iconst dX11_isSpot_18 ?_
      exact r_zret dX11_isSpot_19 rfl (by decide) ⟨rfl, _, rfl, H⟩
    · have H := H.2 c8
      refine r_iconst dX11_isSpot_14 ?_
      refine r_goto (tgt := 19) dX11_isSpot_15 (by decide) ?_
      exact r_zret dX11_isSpot_19 rfl (by decide) ⟨rfl, _, rfl, H⟩

theorem vX11_placeOf_0 {d : Nat} {Q : Int → ax_H → Prop} {x0 : Int} {x1 : Int} {x2 : Int} {I : ax_H} (H :
  Q (((9 * x0) + (3 * x1)) + x2) I) :
  RI d kX11_placeOf 0 [some (ax_i x0), some (ax_i x1), some (ax_i x2)] I Q := by
  show Rn _ _ _ _ _ _ _ _
  refine r_bipush (v := 9) dX11_placeOf_0 (by decide) ?_
  refine r_iload_n dX11_placeOf_2 rfl ?_
  refine r_imul dX11_placeOf_3 ?_
  refine r_iconst dX11_placeOf_4 ?_
  refine r_iload_n dX11_placeOf_5 rfl ?_
  refine r_imul dX11_placeOf_6 ?_
  refine r_iadd dX11_placeOf_7 ?_
  refine r_iload_n dX11_placeOf_8 rfl ?_
  refine r_iadd dX11_placeOf_9 ?_
  exact r_iret dX11_placeOf_10 rfl ⟨rfl, _, rfl, H⟩

theorem vX11_isPlace_0 {d : Nat} {Q : Int → ax_H → Prop} {x0 : Int} {x1 : Int} {x2 : Int} {I : ax_H} (r0 : ax_R x0) (r1 : ax_R x1) (r2 : ax_R x2) (H :
  cI d kX11_in [ax_l x0, ax_l 0, ax_l 1] I (fun w2 I1 =>
  ax_R w2 ∧
  ((w2 = 0 →
    Q 0 I1) ∧
  (¬ w2 = 0 →
    cI d kX11_in [ax_l x1, ax_l 0, ax_l 2] I1 (fun w6 I5 =>
    ax_R w6 ∧
    ((w6 = 0 →
      Q 0 I5) ∧
    (¬ w6 = 0 →
      cI d kX11_in [ax_l x2, ax_l 0, ax_l 2] I5 (fun w10 I9 =>
      ax_R w10 ∧
      ((w10 = 0 →
        Q 0 I9) ∧
      (¬ w10 = 0 →
        Q 1 I9)))))))))) :
  RI (d + 1) kX11_isPlace 0 [some (ax_i x0), some (ax_i x1), some (ax_i x2)] I Q := by
  show Rn _ _ _ _ _ _ _ _
  refine r_iload_n dX11_isPlace_0 rfl ?_
  refine r_i2l dX11_isPlace_1 r0 ?_
  refine r_lconst (v := 0) dX11_isPlace_2 rfl ?_
  refine r_lconst (v := 1) dX11_isPlace_3 rfl ?_
  refine r_cI (as := [ax_l x0, ax_l 0, ax_l 1]) (how_S jX11_in jSX11_in rfl wX11_99 dX11_isPlace_4) rfl (Nat.le_refl _) (Nat.le_of_ble_eq_true rfl) (fun _ => Nat.le_of_ble_eq_true rfl) H (fun w2 I1 H => ?_)
  have ob3 := H.1
  have H := H.2
  refine r_if_eq (tgt := 38) dX11_isPlace_7 (by decide) ob3 (fun c4 => ?_) (fun c4 => ?_)
  · have H := H.1 c4
    refine r_iconst dX11_isPlace_38 ?_
    exact r_zret dX11_isPlace_39 rfl (by decide) ⟨rfl, _, rfl, H⟩
  · have H := H.2 c4
    refine r_iload_n dX11_isPlace_10 rfl ?_
    refine r_i2l dX11_isPlace_11 r1 ?_
    refine r_lconst (v := 0) dX11_isPlace_12 rfl ?_
    refine r_ldc2 (v := 2) dX11_isPlace_13 wX11_107 ?_
    refine r_cI (as := [ax_l x1, ax_l 0, ax_l 2]) (how_S jX11_in jSX11_in rfl wX11_99 dX11_isPlace_16) rfl (Nat.le_refl _) (Nat.le_of_ble_eq_true rfl) (fun _ => Nat.le_of_ble_eq_true rfl) H (fun w6 I5 H => ?_)
    have ob7 := H.1
    have H := H.2
    refine r_if_eq (tgt := 38) dX11_isPlace_19 (by decide) ob7 (fun c8 => ?_) (fun c8 => ?_)
    · have H := H.1 c8
      refine r_iconst dX11_isPlace_38 ?_
      exact r_zret dX11_isPlace_39 rfl (by decide) ⟨rfl, _, rfl, H⟩
    · have H := H.2 c8
      refine r_iload_n dX11_isPlace_22 rfl ?_
      refine r_i2l dX11_isPlace_23 r2 ?_
      refine r_lconst (v := 0) dX11_isPlace_24 rfl ?_
      refine r_ldc2 (v := 2) dX11_isPlace_25 wX11_107 ?_
      refine r_cI (as := [ax_l x2, ax_l 0, ax_l 2]) (how_S jX11_in jSX11_in rfl wX11_99 dX11_isPlace_28) rfl (Nat.le_refl _) (Nat.le_of_ble_eq_true rfl) (fun _ => Nat.le_of_ble_eq_true rfl) H (fun w10 I9 H => ?_)
      have ob11 := H.1
      have H := H.2
      refine r_if_eq (tgt := 38) dX11_isPlace_31 (by decide) ob11 (fun c12 => ?_) (fun c12 => ?_)
      · have H := H.1 c12
        refine r_iconst dX11_isPlace_38 ?_
        exact r_zret dX11_isPlace_39 rfl (by decide) ⟨rfl, _, rfl, H⟩
      · have H := H.2 c12
        refine r_iconst dX11_isPlace_34 ?_
        refine r_goto (tgt := 39) dX11_isPlace_35 (by decide) ?_
        exact r_zret dX11_isPlace_39 rfl (by decide) ⟨rfl, _, rfl, H⟩

theorem vX11_set_0 {d : Nat} {Q : Int → ax_H → Prop} {x1 : Int} {x2 : Int} {x3 : Int} {x4 : Int} {I : ax_H} (r4 : ax_R x4) (H :
  cI (d + 1) kX11_isPlace [ax_i x1, ax_i x2, ax_i x3] I (fun w2 I1 =>
  ax_R w2 ∧
  ((w2 ≠ 0 →
    cI (d + 1) kX11_in [ax_l x4, ax_l 0, ax_l 30] I1 (fun w6 I5 =>
    ax_R w6 ∧
    ((w6 ≠ 0 →
      cI (d + 1) kX11_placeOf [ax_i x1, ax_i x2, ax_i x3] I5 (fun w10 I9 =>
      (0 ≤ w10 ∧ w10 < 48) ∧
      (Q (I9 86 w10) (ax_st I9 86 w10 x4)))) ∧
    (w6 = 0 →
      Q (-2) I5)))) ∧
  (w2 = 0 →
    Q (-1) I1)))) :
  RI (d + 2) kX11_set 0 [some (ax_r 85), some (ax_i x1), some (ax_i x2), some (ax_i x3), some (ax_i x4), none, none] I Q := by
  show Rn _ _ _ _ _ _ _ _
  refine r_iload_n dX11_set_0 rfl ?_
  refine r_iload_n dX11_set_1 rfl ?_
  refine r_iload_n dX11_set_2 rfl ?_
  refine r_cI (as := [ax_i x1, ax_i x2, ax_i x3]) (how_S jX11_isPlace jSX11_isPlace rfl wX11_109 dX11_set_3) rfl (Nat.le_refl _) (Nat.le_of_ble_eq_true rfl) (fun _ => Nat.le_of_ble_eq_true rfl) H (fun w2 I1 H => ?_)
  have ob3 := H.1
  have H := H.2
  refine r_if_ne (tgt := 11) dX11_set_6 (by decide) ob3 (fun c4 => ?_) (fun c4 => ?_)
  · have H := H.1 c4
    refine r_iload dX11_set_11 rfl ?_
    refine r_i2l dX11_set_13 r4 ?_
    refine r_lconst (v := 0) dX11_set_14 rfl ?_
    refine r_ldc2 (v := 30) dX11_set_15 wX11_113 ?_
    refine r_cI (as := [ax_l x4, ax_l 0, ax_l 30]) (how_S jX11_in jSX11_in rfl wX11_99 dX11_set_18) rfl (Nat.le_refl _) (Nat.le_of_ble_eq_true rfl) (fun _ => Nat.le_of_ble_eq_true rfl) H (fun w6 I5 H => ?_)
    have ob7 := H.1
    have H := H.2
    refine r_if_ne (tgt := 27) dX11_set_21 (by decide) ob7 (fun c8 => ?_) (fun c8 => ?_)
    · have H := H.1 c8
      refine r_iload_n dX11_set_27 rfl ?_
      refine r_iload_n dX11_set_28 rfl ?_
      refine r_iload_n dX11_set_29 rfl ?_
      refine r_cI (as := [ax_i x1, ax_i x2, ax_i x3]) (how_S jX11_placeOf jSX11_placeOf rfl wX11_115 dX11_set_30) rfl (Nat.le_refl _) (Nat.le_of_ble_eq_true rfl) (fun _ => Nat.le_of_ble_eq_true rfl) H (fun w10 I9 H => ?_)
      refine r_istore dX11_set_33 (by decide) rfl ?_
      refine r_aload_n dX11_set_35 rfl ?_
      refine r_getR clX11 0 (by decide) s0_85 rfl rfl wX11_11 dX11_set_36 ?_
      refine r_iload dX11_set_39 rfl ?_
      have ob11 := H.1
      have H := H.2
      refine r_iald s0_86 (by decide) dX11_set_41 ob11 ?_
      refine r_istore dX11_set_42 (by decide) rfl ?_
      refine r_aload_n dX11_set_44 rfl ?_
      refine r_getR clX11 0 (by decide) s0_85 rfl rfl wX11_11 dX11_set_45 ?_
      refine r_iload dX11_set_48 rfl ?_
      refine r_iload dX11_set_50 rfl ?_
      refine r_iast s0_86 (by decide) dX11_set_52 ob11 r4 ?_
      refine r_iload dX11_set_53 rfl ?_
      exact r_iret dX11_set_55 rfl ⟨rfl, _, rfl, H⟩
    · have H := H.2 c8
      refine r_bipush (v := (-2)) dX11_set_24 (by decide) ?_
      exact r_iret dX11_set_26 rfl ⟨rfl, _, rfl, H⟩
  · have H := H.2 c4
    refine r_iconst dX11_set_9 ?_
    exact r_iret dX11_set_10 rfl ⟨rfl, _, rfl, H⟩

theorem vX11_of_0 {d : Nat} {Q : Int → ax_H → Prop} {x1 : Int} {x2 : Int} {x3 : Int} {I : ax_H} (H :
  cI (d + 1) kX11_isPlace [ax_i x1, ax_i x2, ax_i x3] I (fun w2 I1 =>
  ax_R w2 ∧
  ((w2 = 0 →
    Q (-1) I1) ∧
  (¬ w2 = 0 →
    cI (d + 1) kX11_placeOf [ax_i x1, ax_i x2, ax_i x3] I1 (fun w6 I5 =>
    (0 ≤ w6 ∧ w6 < 48) ∧
    (Q (I5 86 w6) I5)))))) :
  RI (d + 2) kX11_of 0 [some (ax_r 85), some (ax_i x1), some (ax_i x2), some (ax_i x3)] I Q := by
  show Rn _ _ _ _ _ _ _ _
  refine r_iload_n dX11_of_0 rfl ?_
  refine r_iload_n dX11_of_1 rfl ?_
  refine r_iload_n dX11_of_2 rfl ?_
  refine r_cI (as := [ax_i x1, ax_i x2, ax_i x3]) (how_S jX11_isPlace jSX11_isPlace rfl wX11_109 dX11_of_3) rfl (Nat.le_refl _) (Nat.le_of_ble_eq_true rfl) (fun _ => Nat.le_of_ble_eq_true rfl) H (fun w2 I1 H => ?_)
  have ob3 := H.1
  have H := H.2
  refine r_if_eq (tgt := 23) dX11_of_6 (by decide) ob3 (fun c4 => ?_) (fun c4 => ?_)
  · have H := H.1 c4
    refine r_iconst dX11_of_23 ?_
    exact r_iret dX11_of_24 rfl ⟨rfl, _, rfl, H⟩
  · have H := H.2 c4
    refine r_aload_n dX11_of_9 rfl ?_
    refine r_getR clX11 0 (by decide) s0_85 rfl rfl wX11_11 dX11_of_10 ?_
    refine r_iload_n dX11_of_13 rfl ?_
    refine r_iload_n dX11_of_14 rfl ?_
    refine r_iload_n dX11_of_15 rfl ?_
    refine r_cI (as := [ax_i x1, ax_i x2, ax_i x3]) (how_S jX11_placeOf jSX11_placeOf rfl wX11_115 dX11_of_16) rfl (Nat.le_refl _) (Nat.le_of_ble_eq_true rfl) (fun _ => Nat.le_of_ble_eq_true rfl) H (fun w6 I5 H => ?_)
    have ob7 := H.1
    have H := H.2
    refine r_iald s0_86 (by decide) dX11_of_19 ob7 ?_
    refine r_goto (tgt := 24) dX11_of_20 (by decide) ?_
    exact r_iret dX11_of_24 rfl ⟨rfl, _, rfl, H⟩

theorem vX11_power_0 {d : Nat} {Q : Int → ax_H → Prop} {x0 : Int} {x1 : Int} {I : ax_H} (r0 : ax_R x0) (r1 : ax_R x1) (H :
  (x0 ≠ 31 →
    (x1 ≠ 0 →
      (x1 ≠ 1 →
        (0 ≤ (x0 * x0) ∧ (x0 * x0) < 2147483648) ∧
        (Q ((x0 * x0) % 31) I)) ∧
      (x1 = 1 →
        Q x0 I)) ∧
    (x1 = 0 →
      Q 1 I)) ∧
  (x0 = 31 →
    (x1 ≠ 2 →
      Q 0 I) ∧
    (x1 = 2 →
      Q 1 I))) :
  RI d kX11_power 0 [some (ax_i x0), some (ax_i x1)] I Q := by
  show Rn _ _ _ _ _ _ _ _
  refine r_iload_n dX11_power_0 rfl ?_
  refine r_bipush (v := 31) dX11_power_1 (by decide) ?_
  refine r_icmp_ne (tgt := 17) dX11_power_3 (by decide) r0 (by decide) (fun c1 => ?_) (fun c1 => ?_)
  · have H := H.1 c1
    refine r_iload_n dX11_power_17 rfl ?_
    refine r_if_ne (tgt := 25) dX11_power_18 (by decide) r1 (fun c2 => ?_) (fun c2 => ?_)
    · have H := H.1 c2
      refine r_iload_n dX11_power_25 rfl ?_
      refine r_iconst dX11_power_26 ?_
      refine r_icmp_ne (tgt := 34) dX11_power_27 (by decide) r1 (by decide) (fun c3 => ?_) (fun c3 => ?_)
      · have H := H.1 c3
        refine r_iload_n dX11_power_34 rfl ?_
        refine r_iload_n dX11_power_35 rfl ?_
        refine r_imul dX11_power_36 ?_
        refine r_bipush (v := 31) dX11_power_37 (by decide) ?_
        have ob4 := H.1
        have H := H.2
        refine r_iremp dX11_power_39 ob4 (by decide) ?_
        exact r_iret dX11_power_40 rfl ⟨rfl, _, rfl, H⟩
      · have H := H.2 c3
        refine r_iload_n dX11_power_30 rfl ?_
        refine r_goto (tgt := 40) dX11_power_31 (by decide) ?_
        exact r_iret dX11_power_40 rfl ⟨rfl, _, rfl, H⟩
    · have H := H.2 c2
      refine r_iconst dX11_power_21 ?_
      refine r_goto (tgt := 40) dX11_power_22 (by decide) ?_
      exact r_iret dX11_power_40 rfl ⟨rfl, _, rfl, H⟩
  · have H := H.2 c1
    refine r_iload_n dX11_power_6 rfl ?_
    refine r_iconst dX11_power_7 ?_
    refine r_icmp_ne (tgt := 15) dX11_power_8 (by decide) r1 (by decide) (fun c5 => ?_) (fun c5 => ?_)
    · have H := H.1 c5
      refine r_iconst dX11_power_15 ?_
      exact r_iret dX11_power_16 rfl ⟨rfl, _, rfl, H⟩
    · have H := H.2 c5
      refine r_iconst dX11_power_11 ?_
      refine r_goto (tgt := 16) dX11_power_12 (by decide) ?_
      exact r_iret dX11_power_16 rfl ⟨rfl, _, rfl, H⟩

theorem vX11_valueAt_0 {d : Nat} {Q : Int → ax_H → Prop} {x1 : Int} {x2 : Int} {x3 : Int} {I : ax_H} (H :
  RI (d + 1) kX11_valueAt 6 [some (ax_r 85), some (ax_i x1), some (ax_i x2), some (ax_i x3), some (ax_i 0), some (ax_i 0), none] I Q) :
  RI (d + 1) kX11_valueAt 0 [some (ax_r 85), some (ax_i x1), some (ax_i x2), some (ax_i x3), none, none, none] I Q := by
  show Rn _ _ _ _ _ _ _ _
  refine r_iconst dX11_valueAt_0 ?_
  refine r_istore dX11_valueAt_1 (by decide) rfl ?_
  refine r_iconst dX11_valueAt_3 ?_
  refine r_istore dX11_valueAt_4 (by decide) rfl ?_
  exact H

theorem vX11_valueAt_6 {d : Nat} {Q : Int → ax_H → Prop} {x1 : Int} {x2 : Int} {x3 : Int} {x4 : Int} {x5 : Int} {I : ax_H} (r5 : ax_R x5) (H :
  (3 ≤ x5 →
    (0 ≤ x4 ∧ x4 < 2147483648) ∧
    (Q (x4 % 31) I)) ∧
  (¬ 3 ≤ x5 →
    RI (d + 1) kX11_valueAt 15 [some (ax_r 85), some (ax_i x1), some (ax_i x2), some (ax_i x3), some (ax_i x4), some (ax_i x5), some (ax_i 0)] I Q)) :
  RI (d + 1) kX11_valueAt 6 [some (ax_r 85), some (ax_i x1), some (ax_i x2), some (ax_i x3), some (ax_i x4), some (ax_i x5), none] I Q := by
  show Rn _ _ _ _ _ _ _ _
  refine r_iload dX11_valueAt_6 rfl ?_
  refine r_iconst dX11_valueAt_8 ?_
  refine r_icmp_ge (tgt := 71) dX11_valueAt_9 (by decide) r5 (by decide) (fun c1 => ?_) (fun c1 => ?_)
  · have H := H.1 c1
    refine r_iload dX11_valueAt_71 rfl ?_
    refine r_bipush (v := 31) dX11_valueAt_73 (by decide) ?_
    have ob2 := H.1
    have H := H.2
    refine r_iremp dX11_valueAt_75 ob2 (by decide) ?_
    exact r_iret dX11_valueAt_76 rfl ⟨rfl, _, rfl, H⟩
  · have H := H.2 c1
    refine r_iconst dX11_valueAt_12 ?_
    refine r_istore dX11_valueAt_13 (by decide) rfl ?_
    exact H

theorem vX11_valueAt_15 {d : Nat} {Q : Int → ax_H → Prop} {x1 : Int} {x2 : Int} {x3 : Int} {x4 : Int} {x5 : Int} {x6 : Int} {I : ax_H} (r6 : ax_R x6) (H :
  (3 ≤ x6 →
    RI (d + 1) kX11_valueAt 6 [some (ax_r 85), some (ax_i x1), some (ax_i x2), some (ax_i x3), some (ax_i x4), some (ax_i (x5 + 1)), none] I Q) ∧
  (¬ 3 ≤ x6 →
    cI d kX11_placeOf [ax_i x1, ax_i x5, ax_i x6] I (fun w3 I2 =>
    (0 ≤ w3 ∧ w3 < 48) ∧
    (cI d kX11_power [ax_i x2, ax_i x5] I2 (fun w6 I5 =>
    (0 ≤ ((I2 86 w3) * w6) ∧ ((I2 86 w3) * w6) < 2147483648) ∧
    (cI d kX11_power [ax_i x3, ax_i x6] I5 (fun w9 I8 =>
    (0 ≤ ((((I2 86 w3) * w6) % 31) * w9) ∧ ((((I2 86 w3) * w6) % 31) * w9) < 2147483648) ∧
    (∀ y4_57, y4_57 = (x4 + (((((I2 86 w3) * w6) % 31) * w9) % 31)) →
    (RI (d + 1) kX11_valueAt 15 [some (ax_r 85), some (ax_i x1), some (ax_i x2), some (ax_i x3), some (ax_i y4_57), some (ax_i x5), some (ax_i (x6 + 1))] I8 Q))))))))) :
  RI (d + 1) kX11_valueAt 15 [some (ax_r 85), some (ax_i x1), some (ax_i x2), some (ax_i x3), some (ax_i x4), some (ax_i x5), some (ax_i x6)] I Q := by
  show Rn _ _ _ _ _ _ _ _
  refine r_iload dX11_valueAt_15 rfl ?_
  refine r_iconst dX11_valueAt_17 ?_
  refine r_icmp_ge (tgt := 65) dX11_valueAt_18 (by decide) r6 (by decide) (fun c1 => ?_) (fun c1 => ?_)
  · have H := H.1 c1
    refine r_iinc dX11_valueAt_65 (by decide) rfl rfl ?_
    refine r_goto (tgt := 6) dX11_valueAt_68 (by decide) ?_
    refine r_drop (ls2 := [some (ax_r 85), some (ax_i x1), some (ax_i x2), some (ax_i x3), some (ax_i x4), some (ax_i (x5 + 1)), none]) ?_ (ax_leS (ax_leS (ax_leS (ax_leS (ax_leS (ax_leS (ax_leN ax_leE)))))))
    exact H
  · have H := H.2 c1
    refine r_iload dX11_valueAt_21 rfl ?_
    refine r_aload_n dX11_valueAt_23 rfl ?_
    refine r_getR clX11 0 (by decide) s0_85 rfl rfl wX11_11 dX11_valueAt_24 ?_
    refine r_iload_n dX11_valueAt_27 rfl ?_
    refine r_iload dX11_valueAt_28 rfl ?_
    refine r_iload dX11_valueAt_30 rfl ?_
    refine r_cI (as := [ax_i x1, ax_i x5, ax_i x6]) (how_S jX11_placeOf jSX11_placeOf rfl wX11_115 dX11_valueAt_32) rfl (Nat.le_refl _) (Nat.le_of_ble_eq_true rfl) (fun _ => Nat.le_of_ble_eq_true rfl) H (fun w3 I2 H => ?_)
    have ob4 := H.1
    have H := H.2
    refine r_iald s0_86 (by decide) dX11_valueAt_35 ob4 ?_
    refine r_iload_n dX11_valueAt_36 rfl ?_
    refine r_iload dX11_valueAt_37 rfl ?_
    refine r_cI (as := [ax_i x2, ax_i x5]) (how_S jX11_power jSX11_power rfl wX11_119 dX11_valueAt_39) rfl (Nat.le_refl _) (Nat.le_of_ble_eq_true rfl) (fun _ => Nat.le_of_ble_eq_true rfl) H (fun w6 I5 H => ?_)
    refine r_imul dX11_valueAt_42 ?_
    refine r_bipush (v := 31) dX11_valueAt_43 (by decide) ?_
    have ob7 := H.1
    have H := H.2
    refine r_iremp dX11_valueAt_45 ob7 (by decide) ?_
    refine r_iload_n dX11_valueAt_46 rfl ?_
    refine r_iload dX11_valueAt_47 rfl ?_
    refine r_cI (as := [ax_i x3, ax_i x6]) (how_S jX11_power jSX11_power rfl wX11_119 dX11_valueAt_49) rfl (Nat.le_refl _) (Nat.le_of_ble_eq_true rfl) (fun _ => Nat.le_of_ble_eq_true rfl) H (fun w9 I8 H => ?_)
    refine r_imul dX11_valueAt_52 ?_
    refine r_bipush (v := 31) dX11_valueAt_53 (by decide) ?_
    have ob10 := H.1
    have H := H.2
    refine r_iremp dX11_valueAt_55 ob10 (by decide) ?_
    refine r_iadd dX11_valueAt_56 ?_
    refine r_name (fun y4_57 e11 => ?_)
    have H := H y4_57 e11
    refine r_istore dX11_valueAt_57 (by decide) rfl ?_
    refine r_iinc dX11_valueAt_59 (by decide) rfl rfl ?_
    refine r_goto (tgt := 15) dX11_valueAt_62 (by decide) ?_
    exact H

theorem vX11_value_0 {d : Nat} {Q : Int → ax_H → Prop} {x1 : Int} {x2 : Int} {x3 : Int} {I : ax_H} (r1 : ax_R x1) (H :
  cI (d + 2) kX11_in [ax_l x1, ax_l 0, ax_l 1] I (fun w2 I1 =>
  ax_R w2 ∧
  ((w2 = 0 →
    Q (-1) I1) ∧
  (¬ w2 = 0 →
    cI (d + 2) kX11_isSpot [ax_i x2, ax_i x3] I1 (fun w6 I5 =>
    ax_R w6 ∧
    ((w6 = 0 →
      Q (-1) I5) ∧
    (¬ w6 = 0 →
      cI (d + 2) kX11_valueAt [ax_r 85, ax_i x1, ax_i x2, ax_i x3] I5 (fun w10 I9 =>
      Q w10 I9)))))))) :
  RI (d + 3) kX11_value 0 [some (ax_r 85), some (ax_i x1), some (ax_i x2), some (ax_i x3)] I Q := by
  show Rn _ _ _ _ _ _ _ _
  refine r_iload_n dX11_value_0 rfl ?_
  refine r_i2l dX11_value_1 r1 ?_
  refine r_lconst (v := 0) dX11_value_2 rfl ?_
  refine r_lconst (v := 1) dX11_value_3 rfl ?_
  refine r_cI (as := [ax_l x1, ax_l 0, ax_l 1]) (how_S jX11_in jSX11_in rfl wX11_99 dX11_value_4) rfl (Nat.le_refl _) (Nat.le_of_ble_eq_true rfl) (fun _ => Nat.le_of_ble_eq_true rfl) H (fun w2 I1 H => ?_)
  have ob3 := H.1
  have H := H.2
  refine r_if_eq (tgt := 28) dX11_value_7 (by decide) ob3 (fun c4 => ?_) (fun c4 => ?_)
  · have H := H.1 c4
    refine r_iconst dX11_value_28 ?_
    exact r_iret dX11_value_29 rfl ⟨rfl, _, rfl, H⟩
  · have H := H.2 c4
    refine r_iload_n dX11_value_10 rfl ?_
    refine r_iload_n dX11_value_11 rfl ?_
    refine r_cI (as := [ax_i x2, ax_i x3]) (how_S jX11_isSpot jSX11_isSpot rfl wX11_123 dX11_value_12) rfl (Nat.le_refl _) (Nat.le_of_ble_eq_true rfl) (fun _ => Nat.le_of_ble_eq_true rfl) H (fun w6 I5 H => ?_)
    have ob7 := H.1
    have H := H.2
    refine r_if_eq (tgt := 28) dX11_value_15 (by decide) ob7 (fun c8 => ?_) (fun c8 => ?_)
    · have H := H.1 c8
      refine r_iconst dX11_value_28 ?_
      exact r_iret dX11_value_29 rfl ⟨rfl, _, rfl, H⟩
    · have H := H.2 c8
      refine r_aload_n dX11_value_18 rfl ?_
      refine r_iload_n dX11_value_19 rfl ?_
      refine r_iload_n dX11_value_20 rfl ?_
      refine r_iload_n dX11_value_21 rfl ?_
      refine r_cI (as := [ax_r 85, ax_i x1, ax_i x2, ax_i x3]) (how_V (ci := 11) jX11_valueAt jIX11_valueAt jVX11_valueAt rfl s0_85 (by decide) rfl rfl wX11_127 dX11_value_22) rfl (Nat.le_refl _) (Nat.le_of_ble_eq_true rfl) (fun _ => Nat.le_of_ble_eq_true rfl) H (fun w10 I9 H => ?_)
      refine r_goto (tgt := 29) dX11_value_25 (by decide) ?_
      exact r_iret dX11_value_29 rfl ⟨rfl, _, rfl, H⟩

theorem vX11_keptAt_0 {d : Nat} {Q : Int → ax_H → Prop} {x1 : Int} {x2 : Int} {I : ax_H} (H :
  cI (d + 1) kX11_valueAt [ax_r 85, ax_i 0, ax_i x1, ax_i x2] I (fun w2 I1 =>
  cI (d + 1) kX11_valueAt [ax_r 85, ax_i 1, ax_i x1, ax_i x2] I1 (fun w4 I3 =>
  cI (d + 1) kX11_by [ax_i w2, ax_i w4] I3 (fun w6 I5 =>
  Q w6 I5)))) :
  RI (d + 2) kX11_keptAt 0 [some (ax_r 85), some (ax_i x1), some (ax_i x2)] I Q := by
  show Rn _ _ _ _ _ _ _ _
  refine r_aload_n dX11_keptAt_0 rfl ?_
  refine r_iconst dX11_keptAt_1 ?_
  refine r_iload_n dX11_keptAt_2 rfl ?_
  refine r_iload_n dX11_keptAt_3 rfl ?_
  refine r_cI (as := [ax_r 85, ax_i 0, ax_i x1, ax_i x2]) (how_V (ci := 11) jX11_valueAt jIX11_valueAt jVX11_valueAt rfl s0_85 (by decide) rfl rfl wX11_127 dX11_keptAt_4) rfl (Nat.le_refl _) (Nat.le_of_ble_eq_true rfl) (fun _ => Nat.le_of_ble_eq_true rfl) H (fun w2 I1 H => ?_)
  refine r_aload_n dX11_keptAt_7 rfl ?_
  refine r_iconst dX11_keptAt_8 ?_
  refine r_iload_n dX11_keptAt_9 rfl ?_
  refine r_iload_n dX11_keptAt_10 rfl ?_
  refine r_cI (as := [ax_r 85, ax_i 1, ax_i x1, ax_i x2]) (how_V (ci := 11) jX11_valueAt jIX11_valueAt jVX11_valueAt rfl s0_85 (by decide) rfl rfl wX11_127 dX11_keptAt_11) rfl (Nat.le_refl _) (Nat.le_of_ble_eq_true rfl) (fun _ => Nat.le_of_ble_eq_true rfl) H (fun w4 I3 H => ?_)
  refine r_cI (as := [ax_i w2, ax_i w4]) (how_S jX11_by jSX11_by rfl wX11_130 dX11_keptAt_14) rfl (Nat.le_refl _) (Nat.le_of_ble_eq_true rfl) (fun _ => Nat.le_of_ble_eq_true rfl) H (fun w6 I5 H => ?_)
  exact r_iret dX11_keptAt_17 rfl ⟨rfl, _, rfl, H⟩

theorem vX11_kept_0 {d : Nat} {Q : Int → ax_H → Prop} {x1 : Int} {x2 : Int} {I : ax_H} (H :
  cI (d + 2) kX11_isSpot [ax_i x1, ax_i x2] I (fun w2 I1 =>
  ax_R w2 ∧
  ((w2 = 0 →
    Q (-1) I1) ∧
  (¬ w2 = 0 →
    cI (d + 2) kX11_keptAt [ax_r 85, ax_i x1, ax_i x2] I1 (fun w6 I5 =>
    Q w6 I5))))) :
  RI (d + 3) kX11_kept 0 [some (ax_r 85), some (ax_i x1), some (ax_i x2)] I Q := by
  show Rn _ _ _ _ _ _ _ _
  refine r_iload_n dX11_kept_0 rfl ?_
  refine r_iload_n dX11_kept_1 rfl ?_
  refine r_cI (as := [ax_i x1, ax_i x2]) (how_S jX11_isSpot jSX11_isSpot rfl wX11_123 dX11_kept_2) rfl (Nat.le_refl _) (Nat.le_of_ble_eq_true rfl) (fun _ => Nat.le_of_ble_eq_true rfl) H (fun w2 I1 H => ?_)
  have ob3 := H.1
  have H := H.2
  refine r_if_eq (tgt := 17) dX11_kept_5 (by decide) ob3 (fun c4 => ?_) (fun c4 => ?_)
  · have H := H.1 c4
    refine r_iconst dX11_kept_17 ?_
    exact r_iret dX11_kept_18 rfl ⟨rfl, _, rfl, H⟩
  · have H := H.2 c4
    refine r_aload_n dX11_kept_8 rfl ?_
    refine r_iload_n dX11_kept_9 rfl ?_
    refine r_iload_n dX11_kept_10 rfl ?_
    refine r_cI (as := [ax_r 85, ax_i x1, ax_i x2]) (how_V (ci := 11) jX11_keptAt jIX11_keptAt jVX11_keptAt rfl s0_85 (by decide) rfl rfl wX11_133 dX11_kept_11) rfl (Nat.le_refl _) (Nat.le_of_ble_eq_true rfl) (fun _ => Nat.le_of_ble_eq_true rfl) H (fun w6 I5 H => ?_)
    refine r_goto (tgt := 18) dX11_kept_14 (by decide) ?_
    exact r_iret dX11_kept_18 rfl ⟨rfl, _, rfl, H⟩

theorem vX11_rowAt_0 {d : Nat} {Q : Int → ax_H → Prop} {x1 : Int} {x2 : Int} {x3 : Int} {x4 : Int} {I : ax_H} (H :
  RI (d + 1) kX11_rowAt 6 [some (ax_r 85), some (ax_i x1), some (ax_i x2), some (ax_i x3), some (ax_i x4), some (ax_i 0), some (ax_i 0)] I Q) :
  RI (d + 1) kX11_rowAt 0 [some (ax_r 85), some (ax_i x1), some (ax_i x2), some (ax_i x3), some (ax_i x4), none, none] I Q := by
  show Rn _ _ _ _ _ _ _ _
  refine r_iconst dX11_rowAt_0 ?_
  refine r_istore dX11_rowAt_1 (by decide) rfl ?_
  refine r_iconst dX11_rowAt_3 ?_
  refine r_istore dX11_rowAt_4 (by decide) rfl ?_
  exact H

theorem vX11_rowAt_6 {d : Nat} {Q : Int → ax_H → Prop} {x1 : Int} {x2 : Int} {x3 : Int} {x4 : Int} {x5 : Int} {x6 : Int} {I : ax_H} (r2 : ax_R x2) (r6 : ax_R x6) (H :
  (3 ≤ x6 →
    (0 ≤ x5 ∧ x5 < 2147483648) ∧
    (Q (x5 % 31) I)) ∧
  (¬ 3 ≤ x6 →
    (x2 ≠ 0 →
      cI d kX11_placeOf [ax_i x1, ax_i x6, ax_i x3] I (fun w5 I4 =>
      (0 ≤ w5 ∧ w5 < 48) ∧
      (cI d kX11_power [ax_i x4, ax_i x6] I4 (fun w8 I7 =>
      ∀ y5_54, y5_54 = (x5 + ((I4 86 w5) * w8)) →
      (RI (d + 1) kX11_rowAt 6 [some (ax_r 85), some (ax_i x1), some (ax_i x2), some (ax_i x3), some (ax_i x4), some (ax_i y5_54), some (ax_i (x6 + 1))] I7 Q))))) ∧
    (x2 = 0 →
      cI d kX11_placeOf [ax_i x1, ax_i x3, ax_i x6] I (fun w11 I10 =>
      (0 ≤ w11 ∧ w11 < 48) ∧
      (cI d kX11_power [ax_i x4, ax_i x6] I10 (fun w14 I13 =>
      ∀ y5_54, y5_54 = (x5 + ((I10 86 w11) * w14)) →
      (RI (d + 1) kX11_rowAt 6 [some (ax_r 85), some (ax_i x1), some (ax_i x2), some (ax_i x3), some (ax_i x4), some (ax_i y5_54), some (ax_i (x6 + 1))] I13 Q))))))) :
  RI (d + 1) kX11_rowAt 6 [some (ax_r 85), some (ax_i x1), some (ax_i x2), some (ax_i x3), some (ax_i x4), some (ax_i x5), some (ax_i x6)] I Q := by
  show Rn _ _ _ _ _ _ _ _
  refine r_iload dX11_rowAt_6 rfl ?_
  refine r_iconst dX11_rowAt_8 ?_
  refine r_icmp_ge (tgt := 62) dX11_rowAt_9 (by decide) r6 (by decide) (fun c1 => ?_) (fun c1 => ?_)
  · have H := H.1 c1
    refine r_iload dX11_rowAt_62 rfl ?_
    refine r_bipush (v := 31) dX11_rowAt_64 (by decide) ?_
    have ob2 := H.1
    have H := H.2
    refine r_iremp dX11_rowAt_66 ob2 (by decide) ?_
    exact r_iret dX11_rowAt_67 rfl ⟨rfl, _, rfl, H⟩
  · have H := H.2 c1
    refine r_iload dX11_rowAt_12 rfl ?_
    refine r_iload_n dX11_rowAt_14 rfl ?_
    refine r_if_ne (tgt := 33) dX11_rowAt_15 (by decide) r2 (fun c3 => ?_) (fun c3 => ?_)
    · have H := H.1 c3
      refine r_aload_n dX11_rowAt_33 rfl ?_
      refine r_getR clX11 0 (by decide) s0_85 rfl rfl wX11_11 dX11_rowAt_34 ?_
      refine r_iload_n dX11_rowAt_37 rfl ?_
      refine r_iload dX11_rowAt_38 rfl ?_
      refine r_iload_n dX11_rowAt_40 rfl ?_
      refine r_cI (as := [ax_i x1, ax_i x6, ax_i x3]) (how_S jX11_placeOf jSX11_placeOf rfl wX11_115 dX11_rowAt_41) rfl (Nat.le_refl _) (Nat.le_of_ble_eq_true rfl) (fun _ => Nat.le_of_ble_eq_true rfl) H (fun w5 I4 H => ?_)
      have ob6 := H.1
      have H := H.2
      refine r_iald s0_86 (by decide) dX11_rowAt_44 ob6 ?_
      refine r_iload dX11_rowAt_45 rfl ?_
      refine r_iload dX11_rowAt_47 rfl ?_
      refine r_cI (as := [ax_i x4, ax_i x6]) (how_S jX11_power jSX11_power rfl wX11_119 dX11_rowAt_49) rfl (Nat.le_refl _) (Nat.le_of_ble_eq_true rfl) (fun _ => Nat.le_of_ble_eq_true rfl) H (fun w8 I7 H => ?_)
      refine r_imul dX11_rowAt_52 ?_
      refine r_iadd dX11_rowAt_53 ?_
      refine r_name (fun y5_54 e9 => ?_)
      have H := H y5_54 e9
      refine r_istore dX11_rowAt_54 (by decide) rfl ?_
      refine r_iinc dX11_rowAt_56 (by decide) rfl rfl ?_
      refine r_goto (tgt := 6) dX11_rowAt_59 (by decide) ?_
      exact H
    · have H := H.2 c3
      refine r_aload_n dX11_rowAt_18 rfl ?_
      refine r_getR clX11 0 (by decide) s0_85 rfl rfl wX11_11 dX11_rowAt_19 ?_
      refine r_iload_n dX11_rowAt_22 rfl ?_
      refine r_iload_n dX11_rowAt_23 rfl ?_
      refine r_iload dX11_rowAt_24 rfl ?_
      refine r_cI (as := [ax_i x1, ax_i x3, ax_i x6]) (how_S jX11_placeOf jSX11_placeOf rfl wX11_115 dX11_rowAt_26) rfl (Nat.le_refl _) (Nat.le_of_ble_eq_true rfl) (fun _ => Nat.le_of_ble_eq_true rfl) H (fun w11 I10 H => ?_)
      have ob12 := H.1
      have H := H.2
      refine r_iald s0_86 (by decide) dX11_rowAt_29 ob12 ?_
      refine r_goto (tgt := 45) dX11_rowAt_30 (by decide) ?_
      refine r_iload dX11_rowAt_45 rfl ?_
      refine r_iload dX11_rowAt_47 rfl ?_
      refine r_cI (as := [ax_i x4, ax_i x6]) (how_S jX11_power jSX11_power rfl wX11_119 dX11_rowAt_49) rfl (Nat.le_refl _) (Nat.le_of_ble_eq_true rfl) (fun _ => Nat.le_of_ble_eq_true rfl) H (fun w14 I13 H => ?_)
      refine r_imul dX11_rowAt_52 ?_
      refine r_iadd dX11_rowAt_53 ?_
      refine r_name (fun y5_54 e15 => ?_)
      have H := H y5_54 e15
      refine r_istore dX11_rowAt_54 (by decide) rfl ?_
      refine r_iinc dX11_rowAt_56 (by decide) rfl rfl ?_
      refine r_goto (tgt := 6) dX11_rowAt_59 (by decide) ?_
      exact H

theorem vX11_crossed_0 {d : Nat} {Q : Int → ax_H → Prop} {x1 : Int} {x2 : Int} {x3 : Int} {I : ax_H} (r3 : ax_R x3) (H :
  (x3 ≠ 2 →
    (x3 ≠ 0 →
      cI (d + 1) kX11_rowAt [ax_r 85, ax_i 0, ax_i x1, ax_i 2, ax_i x2] I (fun w4 I3 =>
      cI (d + 1) kX11_rowAt [ax_r 85, ax_i 1, ax_i x1, ax_i 0, ax_i x2] I3 (fun w6 I5 =>
      cI (d + 1) kX11_rowAt [ax_r 85, ax_i 0, ax_i x1, ax_i 0, ax_i x2] I5 (fun w8 I7 =>
      cI (d + 1) kX11_rowAt [ax_r 85, ax_i 1, ax_i x1, ax_i 2, ax_i x2] I7 (fun w10 I9 =>
      cI (d + 1) kX11_mod [ax_i ((w4 * w6) - (w8 * w10))] I9 (fun w12 I11 =>
      Q w12 I11)))))) ∧
    (x3 = 0 →
      cI (d + 1) kX11_rowAt [ax_r 85, ax_i 0, ax_i x1, ax_i 2, ax_i x2] I (fun w14 I13 =>
      cI (d + 1) kX11_rowAt [ax_r 85, ax_i 1, ax_i x1, ax_i 1, ax_i x2] I13 (fun w16 I15 =>
      cI (d + 1) kX11_rowAt [ax_r 85, ax_i 0, ax_i x1, ax_i 1, ax_i x2] I15 (fun w18 I17 =>
      cI (d + 1) kX11_rowAt [ax_r 85, ax_i 1, ax_i x1, ax_i 2, ax_i x2] I17 (fun w20 I19 =>
      cI (d + 1) kX11_mod [ax_i ((w14 * w16) - (w18 * w20))] I19 (fun w22 I21 =>
      Q w22 I21))))))) ∧
  (x3 = 2 →
    (x3 ≠ 0 →
      cI (d + 1) kX11_rowAt [ax_r 85, ax_i 0, ax_i x1, ax_i 1, ax_i x2] I (fun w25 I24 =>
      cI (d + 1) kX11_rowAt [ax_r 85, ax_i 1, ax_i x1, ax_i 0, ax_i x2] I24 (fun w27 I26 =>
      cI (d + 1) kX11_rowAt [ax_r 85, ax_i 0, ax_i x1, ax_i 0, ax_i x2] I26 (fun w29 I28 =>
      cI (d + 1) kX11_rowAt [ax_r 85, ax_i 1, ax_i x1, ax_i 1, ax_i x2] I28 (fun w31 I30 =>
      cI (d + 1) kX11_mod [ax_i ((w25 * w27) - (w29 * w31))] I30 (fun w33 I32 =>
      Q w33 I32)))))) ∧
    (x3 = 0 →
      cI (d + 1) kX11_rowAt [ax_r 85, ax_i 0, ax_i x1, ax_i 1, ax_i x2] I (fun w35 I34 =>
      cI (d + 1) kX11_rowAt [ax_r 85, ax_i 1, ax_i x1, ax_i 1, ax_i x2] I34 (fun w37 I36 =>
      cI (d + 1) kX11_rowAt [ax_r 85, ax_i 0, ax_i x1, ax_i 1, ax_i x2] I36 (fun w39 I38 =>
      cI (d + 1) kX11_rowAt [ax_r 85, ax_i 1, ax_i x1, ax_i 1, ax_i x2] I38 (fun w41 I40 =>
      cI (d + 1) kX11_mod [ax_i ((w35 * w37) - (w39 * w41))] I40 (fun w43 I42 =>
      Q w43 I42)))))))) :
  RI (d + 2) kX11_crossed 0 [some (ax_r 85), some (ax_i x1), some (ax_i x2), some (ax_i x3), none, none] I Q := by
  show Rn _ _ _ _ _ _ _ _
  refine r_iload_n dX11_crossed_0 rfl ?_
  refine r_iconst dX11_crossed_1 ?_
  refine r_icmp_ne (tgt := 9) dX11_crossed_2 (by decide) r3 (by decide) (fun c1 => ?_) (fun c1 => ?_)
  · have H := H.1 c1
    refine r_iconst dX11_crossed_9 ?_
    refine r_istore dX11_crossed_10 (by decide) rfl ?_
    refine r_iload_n dX11_crossed_12 rfl ?_
    refine r_if_ne (tgt := 20) dX11_crossed_13 (by decide) r3 (fun c2 => ?_) (fun c2 => ?_)
    · have H := H.1 c2
      refine r_iconst dX11_crossed_20 ?_
      refine r_istore dX11_crossed_21 (by decide) rfl ?_
      refine r_aload_n dX11_crossed_23 rfl ?_
      refine r_iconst dX11_crossed_24 ?_
      refine r_iload_n dX11_crossed_25 rfl ?_
      refine r_iload dX11_crossed_26 rfl ?_
      refine r_iload_n dX11_crossed_28 rfl ?_
      refine r_cI (as := [ax_r 85, ax_i 0, ax_i x1, ax_i 2, ax_i x2]) (how_V (ci := 11) jX11_rowAt jIX11_rowAt jVX11_rowAt rfl s0_85 (by decide) rfl rfl wX11_136 dX11_crossed_29) rfl (Nat.le_refl _) (Nat.le_of_ble_eq_true rfl) (fun _ => Nat.le_of_ble_eq_true rfl) H (fun w4 I3 H => ?_)
      refine r_aload_n dX11_crossed_32 rfl ?_
      refine r_iconst dX11_crossed_33 ?_
      refine r_iload_n dX11_crossed_34 rfl ?_
      refine r_iload dX11_crossed_35 rfl ?_
      refine r_iload_n dX11_crossed_37 rfl ?_
      refine r_cI (as := [ax_r 85, ax_i 1, ax_i x1, ax_i 0, ax_i x2]) (how_V (ci := 11) jX11_rowAt jIX11_rowAt jVX11_rowAt rfl s0_85 (by decide) rfl rfl wX11_136 dX11_crossed_38) rfl (Nat.le_refl _) (Nat.le_of_ble_eq_true rfl) (fun _ => Nat.le_of_ble_eq_true rfl) H (fun w6 I5 H => ?_)
      refine r_imul dX11_crossed_41 ?_
      refine r_aload_n dX11_crossed_42 rfl ?_
      refine r_iconst dX11_crossed_43 ?_
      refine r_iload_n dX11_crossed_44 rfl ?_
      refine r_iload dX11_crossed_45 rfl ?_
      refine r_iload_n dX11_crossed_47 rfl ?_
      refine r_cI (as := [ax_r 85, ax_i 0, ax_i x1, ax_i 0, ax_i x2]) (how_V (ci := 11) jX11_rowAt jIX11_rowAt jVX11_rowAt rfl s0_85 (by decide) rfl rfl wX11_136 dX11_crossed_48) rfl (Nat.le_refl _) (Nat.le_of_ble_eq_true rfl) (fun _ => Nat.le_of_ble_eq_true rfl) H (fun w8 I7 H => ?_)
      refine r_aload_n dX11_crossed_51 rfl ?_
      refine r_iconst dX11_crossed_52 ?_
      refine r_iload_n dX11_crossed_53 rfl ?_
      refine r_iload dX11_crossed_54 rfl ?_
      refine r_iload_n dX11_crossed_56 rfl ?_
      refine r_cI (as := [ax_r 85, ax_i 1, ax_i x1, ax_i 2, ax_i x2]) (how_V (ci := 11) jX11_rowAt jIX11_rowAt jVX11_rowAt rfl s0_85 (by decide) rfl rfl wX11_136 dX11_crossed_57) rfl (Nat.le_refl _) (Nat.le_of_ble_eq_true rfl) (fun _ => Nat.le_of_ble_eq_true rfl) H (fun w10 I9 H => ?_)
      refine r_imul dX11_crossed_60 ?_
      refine r_isub dX11_crossed_61 ?_
      refine r_cI (as := [ax_i ((w4 * w6) - (w8 * w10))]) (how_S jX11_mod jSX11_mod rfl wX11_140 dX11_crossed_62) rfl (Nat.le_refl _) (Nat.le_of_ble_eq_true rfl) (fun _ => Nat.le_of_ble_eq_true rfl) H (fun w12 I11 H => ?_)
      exact r_iret dX11_crossed_65 rfl ⟨rfl, _, rfl, H⟩
    · have H := H.2 c2
      refine r_iconst dX11_crossed_16 ?_
      refine r_goto (tgt := 21) dX11_crossed_17 (by decide) ?_
      refine r_istore dX11_crossed_21 (by decide) rfl ?_
      refine r_aload_n dX11_crossed_23 rfl ?_
      refine r_iconst dX11_crossed_24 ?_
      refine r_iload_n dX11_crossed_25 rfl ?_
      refine r_iload dX11_crossed_26 rfl ?_
      refine r_iload_n dX11_crossed_28 rfl ?_
      refine r_cI (as := [ax_r 85, ax_i 0, ax_i x1, ax_i 2, ax_i x2]) (how_V (ci := 11) jX11_rowAt jIX11_rowAt jVX11_rowAt rfl s0_85 (by decide) rfl rfl wX11_136 dX11_crossed_29) rfl (Nat.le_refl _) (Nat.le_of_ble_eq_true rfl) (fun _ => Nat.le_of_ble_eq_true rfl) H (fun w14 I13 H => ?_)
      refine r_aload_n dX11_crossed_32 rfl ?_
      refine r_iconst dX11_crossed_33 ?_
      refine r_iload_n dX11_crossed_34 rfl ?_
      refine r_iload dX11_crossed_35 rfl ?_
      refine r_iload_n dX11_crossed_37 rfl ?_
      refine r_cI (as := [ax_r 85, ax_i 1, ax_i x1, ax_i 1, ax_i x2]) (how_V (ci := 11) jX11_rowAt jIX11_rowAt jVX11_rowAt rfl s0_85 (by decide) rfl rfl wX11_136 dX11_crossed_38) rfl (Nat.le_refl _) (Nat.le_of_ble_eq_true rfl) (fun _ => Nat.le_of_ble_eq_true rfl) H (fun w16 I15 H => ?_)
      refine r_imul dX11_crossed_41 ?_
      refine r_aload_n dX11_crossed_42 rfl ?_
      refine r_iconst dX11_crossed_43 ?_
      refine r_iload_n dX11_crossed_44 rfl ?_
      refine r_iload dX11_crossed_45 rfl ?_
      refine r_iload_n dX11_crossed_47 rfl ?_
      refine r_cI (as := [ax_r 85, ax_i 0, ax_i x1, ax_i 1, ax_i x2]) (how_V (ci := 11) jX11_rowAt jIX11_rowAt jVX11_rowAt rfl s0_85 (by decide) rfl rfl wX11_136 dX11_crossed_48) rfl (Nat.le_refl _) (Nat.le_of_ble_eq_true rfl) (fun _ => Nat.le_of_ble_eq_true rfl) H (fun w18 I17 H => ?_)
      refine r_aload_n dX11_crossed_51 rfl ?_
      refine r_iconst dX11_crossed_52 ?_
      refine r_iload_n dX11_crossed_53 rfl ?_
      refine r_iload dX11_crossed_54 rfl ?_
      refine r_iload_n dX11_crossed_56 rfl ?_
      refine r_cI (as := [ax_r 85, ax_i 1, ax_i x1, ax_i 2, ax_i x2]) (how_V (ci := 11) jX11_rowAt jIX11_rowAt jVX11_rowAt rfl s0_85 (by decide) rfl rfl wX11_136 dX11_crossed_57) rfl (Nat.le_refl _) (Nat.le_of_ble_eq_true rfl) (fun _ => Nat.le_of_ble_eq_true rfl) H (fun w20 I19 H => ?_)
      refine r_imul dX11_crossed_60 ?_
      refine r_isub dX11_crossed_61 ?_
      refine r_cI (as := [ax_i ((w14 * w16) - (w18 * w20))]) (how_S jX11_mod jSX11_mod rfl wX11_140 dX11_crossed_62) rfl (Nat.le_refl _) (Nat.le_of_ble_eq_true rfl) (fun _ => Nat.le_of_ble_eq_true rfl) H (fun w22 I21 H => ?_)
      exact r_iret dX11_crossed_65 rfl ⟨rfl, _, rfl, H⟩
  · have H := H.2 c1
    refine r_iconst dX11_crossed_5 ?_
    refine r_goto (tgt := 10) dX11_crossed_6 (by decide) ?_
    refine r_istore dX11_crossed_10 (by decide) rfl ?_
    refine r_iload_n dX11_crossed_12 rfl ?_
    refine r_if_ne (tgt := 20) dX11_crossed_13 (by decide) r3 (fun c23 => ?_) (fun c23 => ?_)
    · have H := H.1 c23
      refine r_iconst dX11_crossed_20 ?_
      refine r_istore dX11_crossed_21 (by decide) rfl ?_
      refine r_aload_n dX11_crossed_23 rfl ?_
      refine r_iconst dX11_crossed_24 ?_
      refine r_iload_n dX11_crossed_25 rfl ?_
      refine r_iload dX11_crossed_26 rfl ?_
      refine r_iload_n dX11_crossed_28 rfl ?_
      refine r_cI (as := [ax_r 85, ax_i 0, ax_i x1, ax_i 1, ax_i x2]) (how_V (ci := 11) jX11_rowAt jIX11_rowAt jVX11_rowAt rfl s0_85 (by decide) rfl rfl wX11_136 dX11_crossed_29) rfl (Nat.le_refl _) (Nat.le_of_ble_eq_true rfl) (fun _ => Nat.le_of_ble_eq_true rfl) H (fun w25 I24 H => ?_)
      refine r_aload_n dX11_crossed_32 rfl ?_
      refine r_iconst dX11_crossed_33 ?_
      refine r_iload_n dX11_crossed_34 rfl ?_
      refine r_iload dX11_crossed_35 rfl ?_
      refine r_iload_n dX11_crossed_37 rfl ?_
      refine r_cI (as := [ax_r 85, ax_i 1, ax_i x1, ax_i 0, ax_i x2]) (how_V (ci := 11) jX11_rowAt jIX11_rowAt jVX11_rowAt rfl s0_85 (by decide) rfl rfl wX11_136 dX11_crossed_38) rfl (Nat.le_refl _) (Nat.le_of_ble_eq_true rfl) (fun _ => Nat.le_of_ble_eq_true rfl) H (fun w27 I26 H => ?_)
      refine r_imul dX11_crossed_41 ?_
      refine r_aload_n dX11_crossed_42 rfl ?_
      refine r_iconst dX11_crossed_43 ?_
      refine r_iload_n dX11_crossed_44 rfl ?_
      refine r_iload dX11_crossed_45 rfl ?_
      refine r_iload_n dX11_crossed_47 rfl ?_
      refine r_cI (as := [ax_r 85, ax_i 0, ax_i x1, ax_i 0, ax_i x2]) (how_V (ci := 11) jX11_rowAt jIX11_rowAt jVX11_rowAt rfl s0_85 (by decide) rfl rfl wX11_136 dX11_crossed_48) rfl (Nat.le_refl _) (Nat.le_of_ble_eq_true rfl) (fun _ => Nat.le_of_ble_eq_true rfl) H (fun w29 I28 H => ?_)
      refine r_aload_n dX11_crossed_51 rfl ?_
      refine r_iconst dX11_crossed_52 ?_
      refine r_iload_n dX11_crossed_53 rfl ?_
      refine r_iload dX11_crossed_54 rfl ?_
      refine r_iload_n dX11_crossed_56 rfl ?_
      refine r_cI (as := [ax_r 85, ax_i 1, ax_i x1, ax_i 1, ax_i x2]) (how_V (ci := 11) jX11_rowAt jIX11_rowAt jVX11_rowAt rfl s0_85 (by decide) rfl rfl wX11_136 dX11_crossed_57) rfl (Nat.le_refl _) (Nat.le_of_ble_eq_true rfl) (fun _ => Nat.le_of_ble_eq_true rfl) H (fun w31 I30 H => ?_)
      refine r_imul dX11_crossed_60 ?_
      refine r_isub dX11_crossed_61 ?_
      refine r_cI (as := [ax_i ((w25 * w27) - (w29 * w31))]) (how_S jX11_mod jSX11_mod rfl wX11_140 dX11_crossed_62) rfl (Nat.le_refl _) (Nat.le_of_ble_eq_true rfl) (fun _ => Nat.le_of_ble_eq_true rfl) H (fun w33 I32 H => ?_)
      exact r_iret dX11_crossed_65 rfl ⟨rfl, _, rfl, H⟩
    · have H := H.2 c23
      refine r_iconst dX11_crossed_16 ?_
      refine r_goto (tgt := 21) dX11_crossed_17 (by decide) ?_
      refine r_istore dX11_crossed_21 (by decide) rfl ?_
      refine r_aload_n dX11_crossed_23 rfl ?_
      refine r_iconst dX11_crossed_24 ?_
      refine r_iload_n dX11_crossed_25 rfl ?_
      refine r_iload dX11_crossed_26 rfl ?_
      refine r_iload_n dX11_crossed_28 rfl ?_
      refine r_cI (as := [ax_r 85, ax_i 0, ax_i x1, ax_i 1, ax_i x2]) (how_V (ci := 11) jX11_rowAt jIX11_rowAt jVX11_rowAt rfl s0_85 (by decide) rfl rfl wX11_136 dX11_crossed_29) rfl (Nat.le_refl _) (Nat.le_of_ble_eq_true rfl) (fun _ => Nat.le_of_ble_eq_true rfl) H (fun w35 I34 H => ?_)
      refine r_aload_n dX11_crossed_32 rfl ?_
      refine r_iconst dX11_crossed_33 ?_
      refine r_iload_n dX11_crossed_34 rfl ?_
      refine r_iload dX11_crossed_35 rfl ?_
      refine r_iload_n dX11_crossed_37 rfl ?_
      refine r_cI (as := [ax_r 85, ax_i 1, ax_i x1, ax_i 1, ax_i x2]) (how_V (ci := 11) jX11_rowAt jIX11_rowAt jVX11_rowAt rfl s0_85 (by decide) rfl rfl wX11_136 dX11_crossed_38) rfl (Nat.le_refl _) (Nat.le_of_ble_eq_true rfl) (fun _ => Nat.le_of_ble_eq_true rfl) H (fun w37 I36 H => ?_)
      refine r_imul dX11_crossed_41 ?_
      refine r_aload_n dX11_crossed_42 rfl ?_
      refine r_iconst dX11_crossed_43 ?_
      refine r_iload_n dX11_crossed_44 rfl ?_
      refine r_iload dX11_crossed_45 rfl ?_
      refine r_iload_n dX11_crossed_47 rfl ?_
      refine r_cI (as := [ax_r 85, ax_i 0, ax_i x1, ax_i 1, ax_i x2]) (how_V (ci := 11) jX11_rowAt jIX11_rowAt jVX11_rowAt rfl s0_85 (by decide) rfl rfl wX11_136 dX11_crossed_48) rfl (Nat.le_refl _) (Nat.le_of_ble_eq_true rfl) (fun _ => Nat.le_of_ble_eq_true rfl) H (fun w39 I38 H => ?_)
      refine r_aload_n dX11_crossed_51 rfl ?_
      refine r_iconst dX11_crossed_52 ?_
      refine r_iload_n dX11_crossed_53 rfl ?_
      refine r_iload dX11_crossed_54 rfl ?_
      refine r_iload_n dX11_crossed_56 rfl ?_
      refine r_cI (as := [ax_r 85, ax_i 1, ax_i x1, ax_i 1, ax_i x2]) (how_V (ci := 11) jX11_rowAt jIX11_rowAt jVX11_rowAt rfl s0_85 (by decide) rfl rfl wX11_136 dX11_crossed_57) rfl (Nat.le_refl _) (Nat.le_of_ble_eq_true rfl) (fun _ => Nat.le_of_ble_eq_true rfl) H (fun w41 I40 H => ?_)
      refine r_imul dX11_crossed_60 ?_
      refine r_isub dX11_crossed_61 ?_
      refine r_cI (as := [ax_i ((w35 * w37) - (w39 * w41))]) (how_S jX11_mod jSX11_mod rfl wX11_140 dX11_crossed_62) rfl (Nat.le_refl _) (Nat.le_of_ble_eq_true rfl) (fun _ => Nat.le_of_ble_eq_true rfl) H (fun w43 I42 H => ?_)
      exact r_iret dX11_crossed_65 rfl ⟨rfl, _, rfl, H⟩

theorem vX11_row_0 {d : Nat} {Q : Int → ax_H → Prop} {x1 : Int} {x2 : Int} {x3 : Int} {I : ax_H} (r1 : ax_R x1) (r3 : ax_R x3) (H :
  cI (d + 2) kX11_in [ax_l x1, ax_l 0, ax_l 1] I (fun w2 I1 =>
  ax_R w2 ∧
  ((w2 = 0 →
    Q (-1) I1) ∧
  (¬ w2 = 0 →
    cI (d + 2) kX11_isCoordinate [ax_i x2] I1 (fun w6 I5 =>
    ax_R w6 ∧
    ((w6 = 0 →
      Q (-1) I5) ∧
    (¬ w6 = 0 →
      cI (d + 2) kX11_in [ax_l x3, ax_l 0, ax_l 2] I5 (fun w10 I9 =>
      ax_R w10 ∧
      ((w10 = 0 →
        Q (-1) I9) ∧
      (¬ w10 = 0 →
        cI (d + 2) kX11_crossed [ax_r 85, ax_i x1, ax_i x2, ax_i x3] I9 (fun w14 I13 =>
        Q w14 I13))))))))))) :
  RI (d + 3) kX11_row 0 [some (ax_r 85), some (ax_i x1), some (ax_i x2), some (ax_i x3)] I Q := by
  show Rn _ _ _ _ _ _ _ _
  refine r_iload_n dX11_row_0 rfl ?_
  refine r_i2l dX11_row_1 r1 ?_
  refine r_lconst (v := 0) dX11_row_2 rfl ?_
  refine r_lconst (v := 1) dX11_row_3 rfl ?_
  refine r_cI (as := [ax_l x1, ax_l 0, ax_l 1]) (how_S jX11_in jSX11_in rfl wX11_99 dX11_row_4) rfl (Nat.le_refl _) (Nat.le_of_ble_eq_true rfl) (fun _ => Nat.le_of_ble_eq_true rfl) H (fun w2 I1 H => ?_)
  have ob3 := H.1
  have H := H.2
  refine r_if_eq (tgt := 39) dX11_row_7 (by decide) ob3 (fun c4 => ?_) (fun c4 => ?_)
  · have H := H.1 c4
    refine r_iconst dX11_row_39 ?_
    exact r_iret dX11_row_40 rfl ⟨rfl, _, rfl, H⟩
  · have H := H.2 c4
    refine r_iload_n dX11_row_10 rfl ?_
    refine r_cI (as := [ax_i x2]) (how_S jX11_isCoordinate jSX11_isCoordinate rfl wX11_103 dX11_row_11) rfl (Nat.le_refl _) (Nat.le_of_ble_eq_true rfl) (fun _ => Nat.le_of_ble_eq_true rfl) H (fun w6 I5 H => ?_)
    have ob7 := H.1
    have H := H.2
    refine r_if_eq (tgt := 39) dX11_row_14 (by decide) ob7 (fun c8 => ?_) (fun c8 => ?_)
    · have H := H.1 c8
      refine r_iconst dX11_row_39 ?_
      exact r_iret dX11_row_40 rfl ⟨rfl, _, rfl, H⟩
    · have H := H.2 c8
      refine r_iload_n dX11_row_17 rfl ?_
      refine r_i2l dX11_row_18 r3 ?_
      refine r_lconst (v := 0) dX11_row_19 rfl ?_
      refine r_ldc2 (v := 2) dX11_row_20 wX11_107 ?_
      refine r_cI (as := [ax_l x3, ax_l 0, ax_l 2]) (how_S jX11_in jSX11_in rfl wX11_99 dX11_row_23) rfl (Nat.le_refl _) (Nat.le_of_ble_eq_true rfl) (fun _ => Nat.le_of_ble_eq_true rfl) H (fun w10 I9 H => ?_)
      have ob11 := H.1
      have H := H.2
      refine r_if_eq (tgt := 39) dX11_row_26 (by decide) ob11 (fun c12 => ?_) (fun c12 => ?_)
      · have H := H.1 c12
        refine r_iconst dX11_row_39 ?_
        exact r_iret dX11_row_40 rfl ⟨rfl, _, rfl, H⟩
      · have H := H.2 c12
        refine r_aload_n dX11_row_29 rfl ?_
        refine r_iload_n dX11_row_30 rfl ?_
        refine r_iload_n dX11_row_31 rfl ?_
        refine r_iload_n dX11_row_32 rfl ?_
        refine r_cI (as := [ax_r 85, ax_i x1, ax_i x2, ax_i x3]) (how_V (ci := 11) jX11_crossed jIX11_crossed jVX11_crossed rfl s0_85 (by decide) rfl rfl wX11_143 dX11_row_33) rfl (Nat.le_refl _) (Nat.le_of_ble_eq_true rfl) (fun _ => Nat.le_of_ble_eq_true rfl) H (fun w14 I13 H => ?_)
        refine r_goto (tgt := 40) dX11_row_36 (by decide) ?_
        exact r_iret dX11_row_40 rfl ⟨rfl, _, rfl, H⟩

theorem vX11_other_0 {d : Nat} {Q : Int → ax_H → Prop} {x1 : Int} {x2 : Int} {x3 : Int} {I : ax_H} (r2 : ax_R x2) (H :
  cI (d + 2) kX11_crossed [ax_r 85, ax_i x1, ax_i x3, ax_i 0] I (fun w2 I1 =>
  cI (d + 2) kX11_crossed [ax_r 85, ax_i x1, ax_i x3, ax_i 1] I1 (fun w4 I3 =>
  cI (d + 2) kX11_crossed [ax_r 85, ax_i x1, ax_i x3, ax_i 2] I3 (fun w6 I5 =>
  (x2 ≠ 31 →
    cI (d + 2) kX11_mod [ax_i (-((w4 * x2) + w6))] I5 (fun w9 I8 =>
    cI (d + 2) kX11_mod [ax_i ((w2 * x2) + w4)] I8 (fun w11 I10 =>
    cI (d + 2) kX11_by [ax_i w9, ax_i w11] I10 (fun w13 I12 =>
    ax_R w13 ∧
    ((w13 ≠ (-6) →
      Q w13 I12) ∧
    (w13 = (-6) →
      Q (-7) I12)))))) ∧
  (x2 = 31 →
    cI (d + 2) kX11_mod [ax_i (-w4)] I5 (fun w17 I16 =>
    cI (d + 2) kX11_by [ax_i w17, ax_i w2] I16 (fun w19 I18 =>
    ax_R w19 ∧
    ((w19 ≠ (-6) →
      Q w19 I18) ∧
    (w19 = (-6) →
      Q (-7) I18))))))))) :
  RI (d + 3) kX11_other 0 [some (ax_r 85), some (ax_i x1), some (ax_i x2), some (ax_i x3), none, none, none, none] I Q := by
  show Rn _ _ _ _ _ _ _ _
  refine r_aload_n dX11_other_0 rfl ?_
  refine r_iload_n dX11_other_1 rfl ?_
  refine r_iload_n dX11_other_2 rfl ?_
  refine r_iconst dX11_other_3 ?_
  refine r_cI (as := [ax_r 85, ax_i x1, ax_i x3, ax_i 0]) (how_V (ci := 11) jX11_crossed jIX11_crossed jVX11_crossed rfl s0_85 (by decide) rfl rfl wX11_143 dX11_other_4) rfl (Nat.le_refl _) (Nat.le_of_ble_eq_true rfl) (fun _ => Nat.le_of_ble_eq_true rfl) H (fun w2 I1 H => ?_)
  refine r_istore dX11_other_7 (by decide) rfl ?_
  refine r_aload_n dX11_other_9 rfl ?_
  refine r_iload_n dX11_other_10 rfl ?_
  refine r_iload_n dX11_other_11 rfl ?_
  refine r_iconst dX11_other_12 ?_
  refine r_cI (as := [ax_r 85, ax_i x1, ax_i x3, ax_i 1]) (how_V (ci := 11) jX11_crossed jIX11_crossed jVX11_crossed rfl s0_85 (by decide) rfl rfl wX11_143 dX11_other_13) rfl (Nat.le_refl _) (Nat.le_of_ble_eq_true rfl) (fun _ => Nat.le_of_ble_eq_true rfl) H (fun w4 I3 H => ?_)
  refine r_istore dX11_other_16 (by decide) rfl ?_
  refine r_aload_n dX11_other_18 rfl ?_
  refine r_iload_n dX11_other_19 rfl ?_
  refine r_iload_n dX11_other_20 rfl ?_
  refine r_iconst dX11_other_21 ?_
  refine r_cI (as := [ax_r 85, ax_i x1, ax_i x3, ax_i 2]) (how_V (ci := 11) jX11_crossed jIX11_crossed jVX11_crossed rfl s0_85 (by decide) rfl rfl wX11_143 dX11_other_22) rfl (Nat.le_refl _) (Nat.le_of_ble_eq_true rfl) (fun _ => Nat.le_of_ble_eq_true rfl) H (fun w6 I5 H => ?_)
  refine r_istore dX11_other_25 (by decide) rfl ?_
  refine r_iload_n dX11_other_27 rfl ?_
  refine r_bipush (v := 31) dX11_other_28 (by decide) ?_
  refine r_icmp_ne (tgt := 47) dX11_other_30 (by decide) r2 (by decide) (fun c7 => ?_) (fun c7 => ?_)
  · have H := H.1 c7
    refine r_iload dX11_other_47 rfl ?_
    refine r_iload_n dX11_other_49 rfl ?_
    refine r_imul dX11_other_50 ?_
    refine r_iload dX11_other_51 rfl ?_
    refine r_iadd dX11_other_53 ?_
    refine r_ineg dX11_other_54 ?_
    refine r_cI (as := [ax_i (-((w4 * x2) + w6))]) (how_S jX11_mod jSX11_mod rfl wX11_140 dX11_other_55) rfl (Nat.le_refl _) (Nat.le_of_ble_eq_true rfl) (fun _ => Nat.le_of_ble_eq_true rfl) H (fun w9 I8 H => ?_)
    refine r_iload dX11_other_58 rfl ?_
    refine r_iload_n dX11_other_60 rfl ?_
    refine r_imul dX11_other_61 ?_
    refine r_iload dX11_other_62 rfl ?_
    refine r_iadd dX11_other_64 ?_
    refine r_cI (as := [ax_i ((w2 * x2) + w4)]) (how_S jX11_mod jSX11_mod rfl wX11_140 dX11_other_65) rfl (Nat.le_refl _) (Nat.le_of_ble_eq_true rfl) (fun _ => Nat.le_of_ble_eq_true rfl) H (fun w11 I10 H => ?_)
    refine r_cI (as := [ax_i w9, ax_i w11]) (how_S jX11_by jSX11_by rfl wX11_130 dX11_other_68) rfl (Nat.le_refl _) (Nat.le_of_ble_eq_true rfl) (fun _ => Nat.le_of_ble_eq_true rfl) H (fun w13 I12 H => ?_)
    refine r_istore dX11_other_71 (by decide) rfl ?_
    refine r_iload dX11_other_73 rfl ?_
    refine r_bipush (v := (-6)) dX11_other_75 (by decide) ?_
    have ob14 := H.1
    have H := H.2
    refine r_icmp_ne (tgt := 85) dX11_other_77 (by decide) ob14 (by decide) (fun c15 => ?_) (fun c15 => ?_)
    · have H := H.1 c15
      refine r_iload dX11_other_85 rfl ?_
      exact r_iret dX11_other_87 rfl ⟨rfl, _, rfl, H⟩
    · have H := H.2 c15
      refine r_bipush (v := (-7)) dX11_other_80 (by decide) ?_
      refine r_goto (tgt := 87) dX11_other_82 (by decide) ?_
      exact r_iret dX11_other_87 rfl ⟨rfl, _, rfl, H⟩
  · have H := H.2 c7
    refine r_iload dX11_other_33 rfl ?_
    refine r_ineg dX11_other_35 ?_
    refine r_cI (as := [ax_i (-w4)]) (how_S jX11_mod jSX11_mod rfl wX11_140 dX11_other_36) rfl (Nat.le_refl _) (Nat.le_of_ble_eq_true rfl) (fun _ => Nat.le_of_ble_eq_true rfl) H (fun w17 I16 H => ?_)
    refine r_iload dX11_other_39 rfl ?_
    refine r_cI (as := [ax_i w17, ax_i w2]) (how_S jX11_by jSX11_by rfl wX11_130 dX11_other_41) rfl (Nat.le_refl _) (Nat.le_of_ble_eq_true rfl) (fun _ => Nat.le_of_ble_eq_true rfl) H (fun w19 I18 H => ?_)
    refine r_goto (tgt := 71) dX11_other_44 (by decide) ?_
    refine r_istore dX11_other_71 (by decide) rfl ?_
    refine r_iload dX11_other_73 rfl ?_
    refine r_bipush (v := (-6)) dX11_other_75 (by decide) ?_
    have ob20 := H.1
    have H := H.2
    refine r_icmp_ne (tgt := 85) dX11_other_77 (by decide) ob20 (by decide) (fun c21 => ?_) (fun c21 => ?_)
    · have H := H.1 c21
      refine r_iload dX11_other_85 rfl ?_
      exact r_iret dX11_other_87 rfl ⟨rfl, _, rfl, H⟩
    · have H := H.2 c21
      refine r_bipush (v := (-7)) dX11_other_80 (by decide) ?_
      refine r_goto (tgt := 87) dX11_other_82 (by decide) ?_
      exact r_iret dX11_other_87 rfl ⟨rfl, _, rfl, H⟩

theorem vX11_swap_0 {d : Nat} {Q : Int → ax_H → Prop} {x1 : Int} {x2 : Int} {x3 : Int} {I : ax_H} (r1 : ax_R x1) (H :
  cI (d + 3) kX11_in [ax_l x1, ax_l 0, ax_l 1] I (fun w2 I1 =>
  ax_R w2 ∧
  ((w2 = 0 →
    Q (-1) I1) ∧
  (¬ w2 = 0 →
    cI (d + 3) kX11_isSpot [ax_i x2, ax_i x3] I1 (fun w6 I5 =>
    ax_R w6 ∧
    ((w6 = 0 →
      Q (-1) I5) ∧
    (¬ w6 = 0 →
      (x1 ≠ 0 →
        cI (d + 3) kX11_other [ax_r 85, ax_i x1, ax_i x3, ax_i x2] I5 (fun w12 I11 =>
        Q w12 I11)) ∧
      (x1 = 0 →
        cI (d + 3) kX11_other [ax_r 85, ax_i x1, ax_i x2, ax_i x3] I5 (fun w15 I14 =>
        Q w15 I14))))))))) :
  RI (d + 4) kX11_swap 0 [some (ax_r 85), some (ax_i x1), some (ax_i x2), some (ax_i x3)] I Q := by
  show Rn _ _ _ _ _ _ _ _
  refine r_iload_n dX11_swap_0 rfl ?_
  refine r_i2l dX11_swap_1 r1 ?_
  refine r_lconst (v := 0) dX11_swap_2 rfl ?_
  refine r_lconst (v := 1) dX11_swap_3 rfl ?_
  refine r_cI (as := [ax_l x1, ax_l 0, ax_l 1]) (how_S jX11_in jSX11_in rfl wX11_99 dX11_swap_4) rfl (Nat.le_refl _) (Nat.le_of_ble_eq_true rfl) (fun _ => Nat.le_of_ble_eq_true rfl) H (fun w2 I1 H => ?_)
  have ob3 := H.1
  have H := H.2
  refine r_if_eq (tgt := 44) dX11_swap_7 (by decide) ob3 (fun c4 => ?_) (fun c4 => ?_)
  · have H := H.1 c4
    refine r_iconst dX11_swap_44 ?_
    exact r_iret dX11_swap_45 rfl ⟨rfl, _, rfl, H⟩
  · have H := H.2 c4
    refine r_iload_n dX11_swap_10 rfl ?_
    refine r_iload_n dX11_swap_11 rfl ?_
    refine r_cI (as := [ax_i x2, ax_i x3]) (how_S jX11_isSpot jSX11_isSpot rfl wX11_123 dX11_swap_12) rfl (Nat.le_refl _) (Nat.le_of_ble_eq_true rfl) (fun _ => Nat.le_of_ble_eq_true rfl) H (fun w6 I5 H => ?_)
    have ob7 := H.1
    have H := H.2
    refine r_if_eq (tgt := 44) dX11_swap_15 (by decide) ob7 (fun c8 => ?_) (fun c8 => ?_)
    · have H := H.1 c8
      refine r_iconst dX11_swap_44 ?_
      exact r_iret dX11_swap_45 rfl ⟨rfl, _, rfl, H⟩
    · have H := H.2 c8
      refine r_aload_n dX11_swap_18 rfl ?_
      refine r_iload_n dX11_swap_19 rfl ?_
      refine r_iload_n dX11_swap_20 rfl ?_
      refine r_if_ne (tgt := 28) dX11_swap_21 (by decide) r1 (fun c9 => ?_) (fun c9 => ?_)
      · have H := H.1 c9
        refine r_iload_n dX11_swap_28 rfl ?_
        refine r_iload_n dX11_swap_29 rfl ?_
        refine r_if_ne (tgt := 37) dX11_swap_30 (by decide) r1 (fun c10 => ?_) (fun c10 => absurd c10 c9)
        refine r_iload_n dX11_swap_37 rfl ?_
        refine r_cI (as := [ax_r 85, ax_i x1, ax_i x3, ax_i x2]) (how_V (ci := 11) jX11_other jIX11_other jVX11_other rfl s0_85 (by decide) rfl rfl wX11_146 dX11_swap_38) rfl (Nat.le_refl _) (Nat.le_of_ble_eq_true rfl) (fun _ => Nat.le_of_ble_eq_true rfl) H (fun w12 I11 H => ?_)
        refine r_goto (tgt := 45) dX11_swap_41 (by decide) ?_
        exact r_iret dX11_swap_45 rfl ⟨rfl, _, rfl, H⟩
      · have H := H.2 c9
        refine r_iload_n dX11_swap_24 rfl ?_
        refine r_goto (tgt := 29) dX11_swap_25 (by decide) ?_
        refine r_iload_n dX11_swap_29 rfl ?_
        refine r_if_ne (tgt := 37) dX11_swap_30 (by decide) r1 (fun c13 => absurd c9 c13) (fun c13 => ?_)
        refine r_iload_n dX11_swap_33 rfl ?_
        refine r_goto (tgt := 38) dX11_swap_34 (by decide) ?_
        refine r_cI (as := [ax_r 85, ax_i x1, ax_i x2, ax_i x3]) (how_V (ci := 11) jX11_other jIX11_other jVX11_other rfl s0_85 (by decide) rfl rfl wX11_146 dX11_swap_38) rfl (Nat.le_refl _) (Nat.le_of_ble_eq_true rfl) (fun _ => Nat.le_of_ble_eq_true rfl) H (fun w15 I14 H => ?_)
        refine r_goto (tgt := 45) dX11_swap_41 (by decide) ?_
        exact r_iret dX11_swap_45 rfl ⟨rfl, _, rfl, H⟩

theorem vX11_pinched_0 {d : Nat} {Q : Int → ax_H → Prop} {x1 : Int} {I : ax_H} (r1 : ax_R x1) (H :
  cI (d + 2) kX11_in [ax_l x1, ax_l 0, ax_l 1] I (fun w2 I1 =>
  ax_R w2 ∧
  ((w2 ≠ 0 →
    RJ (d + 3) kX11_pinched 19 [some (ax_r 85), some (ax_i x1), some (ax_l 0), none, some (ax_i 0), none] I1 Q) ∧
  (w2 = 0 →
    Q (-9223372036854775808) I1)))) :
  RJ (d + 3) kX11_pinched 0 [some (ax_r 85), some (ax_i x1), none, none, none, none] I Q := by
  show Rn _ _ _ _ _ _ _ _
  refine r_iload_n dX11_pinched_0 rfl ?_
  refine r_i2l dX11_pinched_1 r1 ?_
  refine r_lconst (v := 0) dX11_pinched_2 rfl ?_
  refine r_lconst (v := 1) dX11_pinched_3 rfl ?_
  refine r_cI (as := [ax_l x1, ax_l 0, ax_l 1]) (how_S jX11_in jSX11_in rfl wX11_99 dX11_pinched_4) rfl (Nat.le_refl _) (Nat.le_of_ble_eq_true rfl) (fun _ => Nat.le_of_ble_eq_true rfl) H (fun w2 I1 H => ?_)
  have ob3 := H.1
  have H := H.2
  refine r_if_ne (tgt := 14) dX11_pinched_7 (by decide) ob3 (fun c4 => ?_) (fun c4 => ?_)
  · have H := H.1 c4
    refine r_lconst (v := 0) dX11_pinched_14 rfl ?_
    refine r_lstore_n dX11_pinched_15 (by decide) rfl ?_
    refine r_iconst dX11_pinched_16 ?_
    refine r_istore dX11_pinched_17 (by decide) rfl ?_
    exact H
  · have H := H.2 c4
    refine r_ldc2 (v := (-9223372036854775808)) dX11_pinched_10 wX11_149 ?_
    exact r_lret dX11_pinched_13 rfl ⟨rfl, _, rfl, H⟩

theorem vX11_pinched_19 {d : Nat} {Q : Int → ax_H → Prop} {x1 : Int} {x2 : Int} {x4 : Int} {I : ax_H} (r4 : ax_R x4) (H :
  (31 < x4 →
    Q x2 I) ∧
  (¬ 31 < x4 →
    cI (d + 2) kX11_crossed [ax_r 85, ax_i x1, ax_i x4, ax_i 1] I (fun w3 I2 =>
    (0 ≤ (w3 * w3) ∧ (w3 * w3) < 2147483648) ∧
    (cI (d + 2) kX11_crossed [ax_r 85, ax_i x1, ax_i x4, ax_i 0] I2 (fun w6 I5 =>
    cI (d + 2) kX11_crossed [ax_r 85, ax_i x1, ax_i x4, ax_i 2] I5 (fun w8 I7 =>
    (0 ≤ (w6 * w8) ∧ (w6 * w8) < 2147483648) ∧
    ((((w3 * w3) % 31) ≠ ((w6 * w8) % 31) →
      RJ (d + 3) kX11_pinched 19 [some (ax_r 85), some (ax_i x1), some (ax_l (ax_lor x2 0)), none, some (ax_i (x4 + 1)), none] I7 Q) ∧
    (((w3 * w3) % 31) = ((w6 * w8) % 31) →
      (0 ≤ x4 ∧ x4 < 63) ∧
      (RJ (d + 3) kX11_pinched 19 [some (ax_r 85), some (ax_i x1), some (ax_l (ax_lor x2 (2 ^ (x4).toNat))), none, some (ax_i (x4 + 1)), none] I7 Q))))))))) :
  RJ (d + 3) kX11_pinched 19 [some (ax_r 85), some (ax_i x1), some (ax_l x2), none, some (ax_i x4), none] I Q := by
  show Rn _ _ _ _ _ _ _ _
  refine r_iload dX11_pinched_19 rfl ?_
  refine r_bipush (v := 31) dX11_pinched_21 (by decide) ?_
  refine r_icmp_gt (tgt := 84) dX11_pinched_23 (by decide) r4 (by decide) (fun c1 => ?_) (fun c1 => ?_)
  · have H := H.1 c1
    refine r_lload_n dX11_pinched_84 rfl ?_
    exact r_lret dX11_pinched_85 rfl ⟨rfl, _, rfl, H⟩
  · have H := H.2 c1
    refine r_aload_n dX11_pinched_26 rfl ?_
    refine r_iload_n dX11_pinched_27 rfl ?_
    refine r_iload dX11_pinched_28 rfl ?_
    refine r_iconst dX11_pinched_30 ?_
    refine r_cI (as := [ax_r 85, ax_i x1, ax_i x4, ax_i 1]) (how_V (ci := 11) jX11_crossed jIX11_crossed jVX11_crossed rfl s0_85 (by decide) rfl rfl wX11_143 dX11_pinched_31) rfl (Nat.le_refl _) (Nat.le_of_ble_eq_true rfl) (fun _ => Nat.le_of_ble_eq_true rfl) H (fun w3 I2 H => ?_)
    refine r_istore dX11_pinched_34 (by decide) rfl ?_
    refine r_lload_n dX11_pinched_36 rfl ?_
    refine r_iload dX11_pinched_37 rfl ?_
    refine r_iload dX11_pinched_39 rfl ?_
    refine r_imul dX11_pinched_41 ?_
    refine r_bipush (v := 31) dX11_pinched_42 (by decide) ?_
    have ob4 := H.1
    have H := H.2
    refine r_iremp dX11_pinched_44 ob4 (by decide) ?_
    refine r_aload_n dX11_pinched_45 rfl ?_
    refine r_iload_n dX11_pinched_46 rfl ?_
    refine r_iload dX11_pinched_47 rfl ?_
    refine r_iconst dX11_pinched_49 ?_
    refine r_cI (as := [ax_r 85, ax_i x1, ax_i x4, ax_i 0]) (how_V (ci := 11) jX11_crossed jIX11_crossed jVX11_crossed rfl s0_85 (by decide) rfl rfl wX11_143 dX11_pinched_50) rfl (Nat.le_refl _) (Nat.le_of_ble_eq_true rfl) (fun _ => Nat.le_of_ble_eq_true rfl) H (fun w6 I5 H => ?_)
    refine r_aload_n dX11_pinched_53 rfl ?_
    refine r_iload_n dX11_pinched_54 rfl ?_
    refine r_iload dX11_pinched_55 rfl ?_
    refine r_iconst dX11_pinched_57 ?_
    refine r_cI (as := [ax_r 85, ax_i x1, ax_i x4, ax_i 2]) (how_V (ci := 11) jX11_crossed jIX11_crossed jVX11_crossed rfl s0_85 (by decide) rfl rfl wX11_143 dX11_pinched_58) rfl (Nat.le_refl _) (Nat.le_of_ble_eq_true rfl) (fun _ => Nat.le_of_ble_eq_true rfl) H (fun w8 I7 H => ?_)
    refine r_imul dX11_pinched_61 ?_
    refine r_bipush (v := 31) dX11_pinched_62 (by decide) ?_
    have ob9 := H.1
    have H := H.2
    refine r_iremp dX11_pinched_64 ob9 (by decide) ?_
    refine r_icmp_ne (tgt := 75) dX11_pinched_65 (by decide) ⟨by omega, by omega⟩ ⟨by omega, by omega⟩ (fun c10 => ?_) (fun c10 => ?_)
    · have H := H.1 c10
      refine r_lconst (v := 0) dX11_pinched_75 rfl ?_
      refine r_lor dX11_pinched_76 ?_
      refine r_lstore_n dX11_pinched_77 (by decide) rfl ?_
      refine r_iinc dX11_pinched_78 (by decide) rfl rfl ?_
      refine r_goto (tgt := 19) dX11_pinched_81 (by decide) ?_
      refine r_drop (ls2 := [some (ax_r 85), some (ax_i x1), some (ax_l (ax_lor x2 0)), none, some (ax_i (x4 + 1)), none]) ?_ (ax_leS (ax_leS (ax_leS (ax_leN (ax_leS (ax_leN ax_leE))))))
      exact H
    · have H := H.2 c10
      refine r_lconst (v := 1) dX11_pinched_68 rfl ?_
      refine r_iload dX11_pinched_69 rfl ?_
      have ob11 := H.1
      have H := H.2
      refine r_lshl dX11_pinched_71 ob11 ?_
      refine r_goto (tgt := 76) dX11_pinched_72 (by decide) ?_
      refine r_lor dX11_pinched_76 ?_
      refine r_lstore_n dX11_pinched_77 (by decide) rfl ?_
      refine r_iinc dX11_pinched_78 (by decide) rfl rfl ?_
      refine r_goto (tgt := 19) dX11_pinched_81 (by decide) ?_
      refine r_drop (ls2 := [some (ax_r 85), some (ax_i x1), some (ax_l (ax_lor x2 (2 ^ (x4).toNat))), none, some (ax_i (x4 + 1)), none]) ?_ (ax_leS (ax_leS (ax_leS (ax_leN (ax_leS (ax_leN ax_leE))))))
      exact H

theorem vX11_swapped_0 {d : Nat} {Q : Int → ax_H → Prop} {x1 : Int} {x2 : Int} {I : ax_H} (r2 : ax_R x2) (H :
  (0 ≤ x1 ∧ x1 < 2147483648) ∧
  (∀ y3_4, y3_4 = (x1 / 32) →
  (∀ y4_9, y4_9 = (x1 % 32) →
  ((x2 ≠ 0 →
    cI (d + 3) kX11_other [ax_r 85, ax_i 1, ax_i y4_9, ax_i y3_4] I (fun w6 I5 =>
    ax_R w6 ∧
    ((w6 ≠ (-7) →
      Q ((32 * y3_4) + w6) I5) ∧
    (w6 = (-7) →
      Q (-7) I5)))) ∧
  (x2 = 0 →
    cI (d + 3) kX11_other [ax_r 85, ax_i 0, ax_i y3_4, ax_i y4_9] I (fun w11 I10 =>
    ax_R w11 ∧
    ((w11 ≠ (-7) →
      Q ((32 * w11) + y4_9) I10) ∧
    (w11 = (-7) →
      Q (-7) I10)))))))) :
  RI (d + 4) kX11_swapped 0 [some (ax_r 85), some (ax_i x1), some (ax_i x2), none, none, none] I Q := by
  show Rn _ _ _ _ _ _ _ _
  refine r_iload_n dX11_swapped_0 rfl ?_
  refine r_bipush (v := 32) dX11_swapped_1 (by decide) ?_
  have ob1 := H.1
  have H := H.2
  refine r_idivp dX11_swapped_3 ob1 (by decide) ?_
  refine r_name (fun y3_4 e2 => ?_)
  have H := H y3_4 e2
  refine r_istore_n dX11_swapped_4 (by decide) rfl ?_
  refine r_iload_n dX11_swapped_5 rfl ?_
  refine r_bipush (v := 32) dX11_swapped_6 (by decide) ?_
  refine r_iremp dX11_swapped_8 ob1 (by decide) ?_
  refine r_name (fun y4_9 e3 => ?_)
  have H := H y4_9 e3
  refine r_istore dX11_swapped_9 (by decide) rfl ?_
  refine r_iload_n dX11_swapped_11 rfl ?_
  refine r_if_ne (tgt := 26) dX11_swapped_12 (by decide) r2 (fun c4 => ?_) (fun c4 => ?_)
  · have H := H.1 c4
    refine r_aload_n dX11_swapped_26 rfl ?_
    refine r_iconst dX11_swapped_27 ?_
    refine r_iload dX11_swapped_28 rfl ?_
    refine r_iload_n dX11_swapped_30 rfl ?_
    refine r_cI (as := [ax_r 85, ax_i 1, ax_i y4_9, ax_i y3_4]) (how_V (ci := 11) jX11_other jIX11_other jVX11_other rfl s0_85 (by decide) rfl rfl wX11_146 dX11_swapped_31) rfl (Nat.le_refl _) (Nat.le_of_ble_eq_true rfl) (fun _ => Nat.le_of_ble_eq_true rfl) H (fun w6 I5 H => ?_)
    refine r_istore dX11_swapped_34 (by decide) rfl ?_
    refine r_iload dX11_swapped_36 rfl ?_
    refine r_bipush (v := (-7)) dX11_swapped_38 (by decide) ?_
    have ob7 := H.1
    have H := H.2
    refine r_icmp_ne (tgt := 48) dX11_swapped_40 (by decide) ob7 (by decide) (fun c8 => ?_) (fun c8 => ?_)
    · have H := H.1 c8
      refine r_iload_n dX11_swapped_48 rfl ?_
      refine r_if_ne (tgt := 63) dX11_swapped_49 (by decide) r2 (fun c9 => ?_) (fun c9 => absurd c9 c4)
      refine r_bipush (v := 32) dX11_swapped_63 (by decide) ?_
      refine r_iload_n dX11_swapped_65 rfl ?_
      refine r_imul dX11_swapped_66 ?_
      refine r_iload dX11_swapped_67 rfl ?_
      refine r_iadd dX11_swapped_69 ?_
      exact r_iret dX11_swapped_70 rfl ⟨rfl, _, rfl, H⟩
    · have H := H.2 c8
      refine r_bipush (v := (-7)) dX11_swapped_43 (by decide) ?_
      refine r_goto (tgt := 70) dX11_swapped_45 (by decide) ?_
      exact r_iret dX11_swapped_70 rfl ⟨rfl, _, rfl, H⟩
  · have H := H.2 c4
    refine r_aload_n dX11_swapped_15 rfl ?_
    refine r_iconst dX11_swapped_16 ?_
    refine r_iload_n dX11_swapped_17 rfl ?_
    refine r_iload dX11_swapped_18 rfl ?_
    refine r_cI (as := [ax_r 85, ax_i 0, ax_i y3_4, ax_i y4_9]) (how_V (ci := 11) jX11_other jIX11_other jVX11_other rfl s0_85 (by decide) rfl rfl wX11_146 dX11_swapped_20) rfl (Nat.le_refl _) (Nat.le_of_ble_eq_true rfl) (fun _ => Nat.le_of_ble_eq_true rfl) H (fun w11 I10 H => ?_)
    refine r_goto (tgt := 34) dX11_swapped_23 (by decide) ?_
    refine r_istore dX11_swapped_34 (by decide) rfl ?_
    refine r_iload dX11_swapped_36 rfl ?_
    refine r_bipush (v := (-7)) dX11_swapped_38 (by decide) ?_
    have ob12 := H.1
    have H := H.2
    refine r_icmp_ne (tgt := 48) dX11_swapped_40 (by decide) ob12 (by decide) (fun c13 => ?_) (fun c13 => ?_)
    · have H := H.1 c13
      refine r_iload_n dX11_swapped_48 rfl ?_
      refine r_if_ne (tgt := 63) dX11_swapped_49 (by decide) r2 (fun c14 => absurd c4 c14) (fun c14 => ?_)
      refine r_bipush (v := 32) dX11_swapped_52 (by decide) ?_
      refine r_iload dX11_swapped_54 rfl ?_
      refine r_imul dX11_swapped_56 ?_
      refine r_iload dX11_swapped_57 rfl ?_
      refine r_iadd dX11_swapped_59 ?_
      refine r_goto (tgt := 70) dX11_swapped_60 (by decide) ?_
      exact r_iret dX11_swapped_70 rfl ⟨rfl, _, rfl, H⟩
    · have H := H.2 c13
      refine r_bipush (v := (-7)) dX11_swapped_43 (by decide) ?_
      refine r_goto (tgt := 70) dX11_swapped_45 (by decide) ?_
      exact r_iret dX11_swapped_70 rfl ⟨rfl, _, rfl, H⟩

theorem vX11_step_0 {d : Nat} {Q : Int → ax_H → Prop} {x1 : Int} {x2 : Int} {I : ax_H} (r2 : ax_R x2) (H :
  (x2 = 0 →
    cI (d + 4) kX11_swapped [ax_r 85, ax_i x1, ax_i 0] I (fun w3 I2 =>
    ax_R w3 ∧
    ((w3 ≠ (-7) →
      cI (d + 4) kX11_swapped [ax_r 85, ax_i w3, ax_i 1] I2 (fun w8 I7 =>
      Q w8 I7)) ∧
    (w3 = (-7) →
      Q (-7) I2)))) ∧
  (¬ x2 = 0 →
    cI (d + 4) kX11_swapped [ax_r 85, ax_i x1, ax_i 1] I (fun w10 I9 =>
    ax_R w10 ∧
    ((w10 ≠ (-7) →
      cI (d + 4) kX11_swapped [ax_r 85, ax_i w10, ax_i 0] I9 (fun w15 I14 =>
      Q w15 I14)) ∧
    (w10 = (-7) →
      Q (-7) I9))))) :
  RI (d + 5) kX11_step 0 [some (ax_r 85), some (ax_i x1), some (ax_i x2), none] I Q := by
  show Rn _ _ _ _ _ _ _ _
  refine r_aload_n dX11_step_0 rfl ?_
  refine r_iload_n dX11_step_1 rfl ?_
  refine r_iload_n dX11_step_2 rfl ?_
  refine r_if_eq (tgt := 10) dX11_step_3 (by decide) r2 (fun c1 => ?_) (fun c1 => ?_)
  · have H := H.1 c1
    refine r_iconst dX11_step_10 ?_
    refine r_cI (as := [ax_r 85, ax_i x1, ax_i 0]) (how_V (ci := 11) jX11_swapped jIX11_swapped jVX11_swapped rfl s0_85 (by decide) rfl rfl wX11_151 dX11_step_11) rfl (Nat.le_refl _) (Nat.le_of_ble_eq_true rfl) (fun _ => Nat.le_of_ble_eq_true rfl) H (fun w3 I2 H => ?_)
    refine r_istore_n dX11_step_14 (by decide) rfl ?_
    refine r_iload_n dX11_step_15 rfl ?_
    refine r_bipush (v := (-7)) dX11_step_16 (by decide) ?_
    have ob4 := H.1
    have H := H.2
    refine r_icmp_ne (tgt := 26) dX11_step_18 (by decide) ob4 (by decide) (fun c5 => ?_) (fun c5 => ?_)
    · have H := H.1 c5
      refine r_aload_n dX11_step_26 rfl ?_
      refine r_iload_n dX11_step_27 rfl ?_
      refine r_iload_n dX11_step_28 rfl ?_
      refine r_if_eq (tgt := 36) dX11_step_29 (by decide) r2 (fun c6 => ?_) (fun c6 => absurd c1 c6)
      refine r_iconst dX11_step_36 ?_
      refine r_cI (as := [ax_r 85, ax_i w3, ax_i 1]) (how_V (ci := 11) jX11_swapped jIX11_swapped jVX11_swapped rfl s0_85 (by decide) rfl rfl wX11_151 dX11_step_37) rfl (Nat.le_refl _) (Nat.le_of_ble_eq_true rfl) (fun _ => Nat.le_of_ble_eq_true rfl) H (fun w8 I7 H => ?_)
      exact r_iret dX11_step_40 rfl ⟨rfl, _, rfl, H⟩
    · have H := H.2 c5
      refine r_bipush (v := (-7)) dX11_step_21 (by decide) ?_
      refine r_goto (tgt := 40) dX11_step_23 (by decide) ?_
      exact r_iret dX11_step_40 rfl ⟨rfl, _, rfl, H⟩
  · have H := H.2 c1
    refine r_iconst dX11_step_6 ?_
    refine r_goto (tgt := 11) dX11_step_7 (by decide) ?_
    refine r_cI (as := [ax_r 85, ax_i x1, ax_i 1]) (how_V (ci := 11) jX11_swapped jIX11_swapped jVX11_swapped rfl s0_85 (by decide) rfl rfl wX11_151 dX11_step_11) rfl (Nat.le_refl _) (Nat.le_of_ble_eq_true rfl) (fun _ => Nat.le_of_ble_eq_true rfl) H (fun w10 I9 H => ?_)
    refine r_istore_n dX11_step_14 (by decide) rfl ?_
    refine r_iload_n dX11_step_15 rfl ?_
    refine r_bipush (v := (-7)) dX11_step_16 (by decide) ?_
    have ob11 := H.1
    have H := H.2
    refine r_icmp_ne (tgt := 26) dX11_step_18 (by decide) ob11 (by decide) (fun c12 => ?_) (fun c12 => ?_)
    · have H := H.1 c12
      refine r_aload_n dX11_step_26 rfl ?_
      refine r_iload_n dX11_step_27 rfl ?_
      refine r_iload_n dX11_step_28 rfl ?_
      refine r_if_eq (tgt := 36) dX11_step_29 (by decide) r2 (fun c13 => absurd c13 c1) (fun c13 => ?_)
      refine r_iconst dX11_step_32 ?_
      refine r_goto (tgt := 37) dX11_step_33 (by decide) ?_
      refine r_cI (as := [ax_r 85, ax_i w10, ax_i 0]) (how_V (ci := 11) jX11_swapped jIX11_swapped jVX11_swapped rfl s0_85 (by decide) rfl rfl wX11_151 dX11_step_37) rfl (Nat.le_refl _) (Nat.le_of_ble_eq_true rfl) (fun _ => Nat.le_of_ble_eq_true rfl) H (fun w15 I14 H => ?_)
      exact r_iret dX11_step_40 rfl ⟨rfl, _, rfl, H⟩
    · have H := H.2 c12
      refine r_bipush (v := (-7)) dX11_step_21 (by decide) ?_
      refine r_goto (tgt := 40) dX11_step_23 (by decide) ?_
      exact r_iret dX11_step_40 rfl ⟨rfl, _, rfl, H⟩

theorem vX11_behind_0 {d : Nat} {Q : Int → ax_H → Prop} {x1 : Int} {x2 : Int} {x3 : Int} {I : ax_H} (r3 : ax_R x3) (H :
  cI (d + 5) kX11_isSpot [ax_i x1, ax_i x2] I (fun w2 I1 =>
  ax_R w2 ∧
  ((w2 ≠ 0 →
    cI (d + 5) kX11_in [ax_l x3, ax_l (-99), ax_l 99] I1 (fun w6 I5 =>
    ax_R w6 ∧
    ((w6 ≠ 0 →
      ∀ y4_33, y4_33 = ((32 * x1) + x2) →
      ((0 ≤ x3 →
        RI (d + 6) kX11_behind 47 [some (ax_r 85), none, none, some (ax_i x3), some (ax_i y4_33), some (ax_i x3)] I5 Q) ∧
      (¬ 0 ≤ x3 →
        ∀ y5_45, y5_45 = (-x3) →
        (RI (d + 6) kX11_behind 47 [some (ax_r 85), none, none, some (ax_i x3), some (ax_i y4_33), some (ax_i y5_45)] I5 Q)))) ∧
    (w6 = 0 →
      Q (-2) I5)))) ∧
  (w2 = 0 →
    Q (-1) I1)))) :
  RI (d + 6) kX11_behind 0 [some (ax_r 85), some (ax_i x1), some (ax_i x2), some (ax_i x3), none, none] I Q := by
  show Rn _ _ _ _ _ _ _ _
  refine r_iload_n dX11_behind_0 rfl ?_
  refine r_iload_n dX11_behind_1 rfl ?_
  refine r_cI (as := [ax_i x1, ax_i x2]) (how_S jX11_isSpot jSX11_isSpot rfl wX11_123 dX11_behind_2) rfl (Nat.le_refl _) (Nat.le_of_ble_eq_true rfl) (fun _ => Nat.le_of_ble_eq_true rfl) H (fun w2 I1 H => ?_)
  have ob3 := H.1
  have H := H.2
  refine r_if_ne (tgt := 10) dX11_behind_5 (by decide) ob3 (fun c4 => ?_) (fun c4 => ?_)
  · have H := H.1 c4
    refine r_iload_n dX11_behind_10 rfl ?_
    refine r_i2l dX11_behind_11 r3 ?_
    refine r_ldc2 (v := (-99)) dX11_behind_12 wX11_154 ?_
    refine r_ldc2 (v := 99) dX11_behind_15 wX11_156 ?_
    refine r_cI (as := [ax_l x3, ax_l (-99), ax_l 99]) (how_S jX11_in jSX11_in rfl wX11_99 dX11_behind_18) rfl (Nat.le_refl _) (Nat.le_of_ble_eq_true rfl) (fun _ => Nat.le_of_ble_eq_true rfl) H (fun w6 I5 H => ?_)
    have ob7 := H.1
    have H := H.2
    refine r_if_ne (tgt := 27) dX11_behind_21 (by decide) ob7 (fun c8 => ?_) (fun c8 => ?_)
    · have H := H.1 c8
      refine r_bipush (v := 32) dX11_behind_27 (by decide) ?_
      refine r_iload_n dX11_behind_29 rfl ?_
      refine r_imul dX11_behind_30 ?_
      refine r_iload_n dX11_behind_31 rfl ?_
      refine r_iadd dX11_behind_32 ?_
      refine r_name (fun y4_33 e9 => ?_)
      have H := H y4_33 e9
      refine r_istore dX11_behind_33 (by decide) rfl ?_
      refine r_iload_n dX11_behind_35 rfl ?_
      refine r_if_ge (tgt := 44) dX11_behind_36 (by decide) r3 (fun c10 => ?_) (fun c10 => ?_)
      · have H := H.1 c10
        refine r_iload_n dX11_behind_44 rfl ?_
        refine r_istore dX11_behind_45 (by decide) rfl ?_
        refine r_drop (ls2 := [some (ax_r 85), none, none, some (ax_i x3), some (ax_i y4_33), some (ax_i x3)]) ?_ (ax_leS (ax_leN (ax_leN (ax_leS (ax_leS (ax_leS ax_leE))))))
        exact H
      · have H := H.2 c10
        refine r_iload_n dX11_behind_39 rfl ?_
        refine r_ineg dX11_behind_40 ?_
        refine r_goto (tgt := 45) dX11_behind_41 (by decide) ?_
        refine r_name (fun y5_45 e11 => ?_)
        have H := H y5_45 e11
        refine r_istore dX11_behind_45 (by decide) rfl ?_
        refine r_drop (ls2 := [some (ax_r 85), none, none, some (ax_i x3), some (ax_i y4_33), some (ax_i y5_45)]) ?_ (ax_leS (ax_leN (ax_leN (ax_leS (ax_leS (ax_leS ax_leE))))))
        exact H
    · have H := H.2 c8
      refine r_bipush (v := (-2)) dX11_behind_24 (by decide) ?_
      exact r_iret dX11_behind_26 rfl ⟨rfl, _, rfl, H⟩
  · have H := H.2 c4
    refine r_iconst dX11_behind_8 ?_
    exact r_iret dX11_behind_9 rfl ⟨rfl, _, rfl, H⟩

theorem vX11_behind_47 {d : Nat} {Q : Int → ax_H → Prop} {x3 : Int} {x4 : Int} {x5 : Int} {I : ax_H} (r3 : ax_R x3) (r4 : ax_R x4) (r5 : ax_R x5) (H :
  (x5 ≤ 0 →
    Q x4 I) ∧
  (¬ x5 ≤ 0 →
    (x4 = (-7) →
      Q x4 I) ∧
    (¬ x4 = (-7) →
      (0 ≤ x3 →
        cI (d + 5) kX11_step [ax_r 85, ax_i x4, ax_i 0] I (fun w5 I4 =>
        RI (d + 6) kX11_behind 47 [some (ax_r 85), none, none, some (ax_i x3), some (ax_i w5), some (ax_i (x5 + (-1)))] I4 Q)) ∧
      (¬ 0 ≤ x3 →
        cI (d + 5) kX11_step [ax_r 85, ax_i x4, ax_i 1] I (fun w7 I6 =>
        RI (d + 6) kX11_behind 47 [some (ax_r 85), none, none, some (ax_i x3), some (ax_i w7), some (ax_i (x5 + (-1)))] I6 Q))))) :
  RI (d + 6) kX11_behind 47 [some (ax_r 85), none, none, some (ax_i x3), some (ax_i x4), some (ax_i x5)] I Q := by
  show Rn _ _ _ _ _ _ _ _
  refine r_iload dX11_behind_47 rfl ?_
  refine r_if_le (tgt := 82) dX11_behind_49 (by decide) r5 (fun c1 => ?_) (fun c1 => ?_)
  · have H := H.1 c1
    refine r_iload dX11_behind_82 rfl ?_
    exact r_iret dX11_behind_84 rfl ⟨rfl, _, rfl, H⟩
  · have H := H.2 c1
    refine r_iload dX11_behind_52 rfl ?_
    refine r_bipush (v := (-7)) dX11_behind_54 (by decide) ?_
    refine r_icmp_eq (tgt := 82) dX11_behind_56 (by decide) r4 (by decide) (fun c2 => ?_) (fun c2 => ?_)
    · have H := H.1 c2
      refine r_iload dX11_behind_82 rfl ?_
      exact r_iret dX11_behind_84 rfl ⟨rfl, _, rfl, H⟩
    · have H := H.2 c2
      refine r_aload_n dX11_behind_59 rfl ?_
      refine r_iload dX11_behind_60 rfl ?_
      refine r_iload_n dX11_behind_62 rfl ?_
      refine r_if_ge (tgt := 70) dX11_behind_63 (by decide) r3 (fun c3 => ?_) (fun c3 => ?_)
      · have H := H.1 c3
        refine r_iconst dX11_behind_70 ?_
        refine r_cI (as := [ax_r 85, ax_i x4, ax_i 0]) (how_V (ci := 11) jX11_step jIX11_step jVX11_step rfl s0_85 (by decide) rfl rfl wX11_158 dX11_behind_71) rfl (Nat.le_refl _) (Nat.le_of_ble_eq_true rfl) (fun _ => Nat.le_of_ble_eq_true rfl) H (fun w5 I4 H => ?_)
        refine r_istore dX11_behind_74 (by decide) rfl ?_
        refine r_iinc dX11_behind_76 (by decide) rfl rfl ?_
        refine r_goto (tgt := 47) dX11_behind_79 (by decide) ?_
        exact H
      · have H := H.2 c3
        refine r_iconst dX11_behind_66 ?_
        refine r_goto (tgt := 71) dX11_behind_67 (by decide) ?_
        refine r_cI (as := [ax_r 85, ax_i x4, ax_i 1]) (how_V (ci := 11) jX11_step jIX11_step jVX11_step rfl s0_85 (by decide) rfl rfl wX11_158 dX11_behind_71) rfl (Nat.le_refl _) (Nat.le_of_ble_eq_true rfl) (fun _ => Nat.le_of_ble_eq_true rfl) H (fun w7 I6 H => ?_)
        refine r_istore dX11_behind_74 (by decide) rfl ?_
        refine r_iinc dX11_behind_76 (by decide) rfl rfl ?_
        refine r_goto (tgt := 47) dX11_behind_79 (by decide) ?_
        exact H

theorem vX11_period_0 {d : Nat} {Q : Int → ax_H → Prop} {x1 : Int} {x2 : Int} {I : ax_H} (H :
  cI (d + 5) kX11_isSpot [ax_i x1, ax_i x2] I (fun w2 I1 =>
  ax_R w2 ∧
  ((w2 ≠ 0 →
    ∀ y3_16, y3_16 = ((32 * x1) + x2) →
    (RI (d + 6) kX11_period 20 [some (ax_r 85), some (ax_i x1), some (ax_i x2), some (ax_i y3_16), some (ax_i 1)] I1 Q)) ∧
  (w2 = 0 →
    Q (-1) I1)))) :
  RI (d + 6) kX11_period 0 [some (ax_r 85), some (ax_i x1), some (ax_i x2), none, none] I Q := by
  show Rn _ _ _ _ _ _ _ _
  refine r_iload_n dX11_period_0 rfl ?_
  refine r_iload_n dX11_period_1 rfl ?_
  refine r_cI (as := [ax_i x1, ax_i x2]) (how_S jX11_isSpot jSX11_isSpot rfl wX11_123 dX11_period_2) rfl (Nat.le_refl _) (Nat.le_of_ble_eq_true rfl) (fun _ => Nat.le_of_ble_eq_true rfl) H (fun w2 I1 H => ?_)
  have ob3 := H.1
  have H := H.2
  refine r_if_ne (tgt := 10) dX11_period_5 (by decide) ob3 (fun c4 => ?_) (fun c4 => ?_)
  · have H := H.1 c4
    refine r_bipush (v := 32) dX11_period_10 (by decide) ?_
    refine r_iload_n dX11_period_12 rfl ?_
    refine r_imul dX11_period_13 ?_
    refine r_iload_n dX11_period_14 rfl ?_
    refine r_iadd dX11_period_15 ?_
    refine r_name (fun y3_16 e5 => ?_)
    have H := H y3_16 e5
    refine r_istore_n dX11_period_16 (by decide) rfl ?_
    refine r_iconst dX11_period_17 ?_
    refine r_istore dX11_period_18 (by decide) rfl ?_
    exact H
  · have H := H.2 c4
    refine r_iconst dX11_period_8 ?_
    exact r_iret dX11_period_9 rfl ⟨rfl, _, rfl, H⟩

theorem vX11_period_20 {d : Nat} {Q : Int → ax_H → Prop} {x1 : Int} {x2 : Int} {x3 : Int} {x4 : Int} {I : ax_H} (r4 : ax_R x4) (H :
  (1024 < x4 →
    Q (-5) I) ∧
  (¬ 1024 < x4 →
    cI (d + 5) kX11_step [ax_r 85, ax_i x3, ax_i 0] I (fun w3 I2 =>
    ax_R w3 ∧
    ((w3 ≠ (-7) →
      ax_R ((32 * x1) + x2) ∧
      ((w3 ≠ ((32 * x1) + x2) →
        RI (d + 6) kX11_period 20 [some (ax_r 85), some (ax_i x1), some (ax_i x2), some (ax_i w3), some (ax_i (x4 + 1))] I2 Q) ∧
      (w3 = ((32 * x1) + x2) →
        Q x4 I2))) ∧
    (w3 = (-7) →
      Q (-7) I2))))) :
  RI (d + 6) kX11_period 20 [some (ax_r 85), some (ax_i x1), some (ax_i x2), some (ax_i x3), some (ax_i x4)] I Q := by
  show Rn _ _ _ _ _ _ _ _
  refine r_iload dX11_period_20 rfl ?_
  refine r_sipush (v := 1024) dX11_period_22 (by decide) ?_
  refine r_icmp_gt (tgt := 63) dX11_period_25 (by decide) r4 (by decide) (fun c1 => ?_) (fun c1 => ?_)
  · have H := H.1 c1
    refine r_bipush (v := (-5)) dX11_period_63 (by decide) ?_
    exact r_iret dX11_period_65 rfl ⟨rfl, _, rfl, H⟩
  · have H := H.2 c1
    refine r_aload_n dX11_period_28 rfl ?_
    refine r_iload_n dX11_period_29 rfl ?_
    refine r_iconst dX11_period_30 ?_
    refine r_cI (as := [ax_r 85, ax_i x3, ax_i 0]) (how_V (ci := 11) jX11_step jIX11_step jVX11_step rfl s0_85 (by decide) rfl rfl wX11_158 dX11_period_31) rfl (Nat.le_refl _) (Nat.le_of_ble_eq_true rfl) (fun _ => Nat.le_of_ble_eq_true rfl) H (fun w3 I2 H => ?_)
    refine r_istore_n dX11_period_34 (by decide) rfl ?_
    refine r_iload_n dX11_period_35 rfl ?_
    refine r_bipush (v := (-7)) dX11_period_36 (by decide) ?_
    have ob4 := H.1
    have H := H.2
    refine r_icmp_ne (tgt := 44) dX11_period_38 (by decide) ob4 (by decide) (fun c5 => ?_) (fun c5 => ?_)
    · have H := H.1 c5
      refine r_iload_n dX11_period_44 rfl ?_
      refine r_bipush (v := 32) dX11_period_45 (by decide) ?_
      refine r_iload_n dX11_period_47 rfl ?_
      refine r_imul dX11_period_48 ?_
      refine r_iload_n dX11_period_49 rfl ?_
      refine r_iadd dX11_period_50 ?_
      have ob6 := H.1
      have H := H.2
      refine r_icmp_ne (tgt := 57) dX11_period_51 (by decide) ob4 ob6 (fun c7 => ?_) (fun c7 => ?_)
      · have H := H.1 c7
        refine r_iinc dX11_period_57 (by decide) rfl rfl ?_
        refine r_goto (tgt := 20) dX11_period_60 (by decide) ?_
        exact H
      · have H := H.2 c7
        refine r_iload dX11_period_54 rfl ?_
        exact r_iret dX11_period_56 rfl ⟨rfl, _, rfl, H⟩
    · have H := H.2 c5
      refine r_bipush (v := (-7)) dX11_period_41 (by decide) ?_
      exact r_iret dX11_period_43 rfl ⟨rfl, _, rfl, H⟩

theorem vX11_findsKept_0 {d : Nat} {Q : ax_H → Prop} {I : ax_H} (H :
  RV (d + 3) kX11_findsKept 2 [some (ax_r 85), some (ax_i 0)] I Q) :
  RV (d + 3) kX11_findsKept 0 [some (ax_r 85), none] I Q := by
  show Rn _ _ _ _ _ _ _ _
  refine r_iconst dX11_findsKept_0 ?_
  refine r_istore_n dX11_findsKept_1 (by decide) rfl ?_
  exact H

theorem vX11_findsKept_2 {d : Nat} {Q : ax_H → Prop} {x1 : Int} {I : ax_H} (r1 : ax_R x1) (H :
  (1024 ≤ x1 →
    Q I) ∧
  (¬ 1024 ≤ x1 →
    (0 ≤ x1 ∧ x1 < 2147483648) ∧
    (cI (d + 2) kX11_keptAt [ax_r 85, ax_i (x1 / 32), ax_i (x1 % 32)] I (fun w4 I3 =>
    (0 ≤ x1 ∧ x1 < 1024) ∧
    (ax_R w4 ∧
    (RV (d + 3) kX11_findsKept 2 [some (ax_r 85), some (ax_i (x1 + 1))] (ax_st I3 88 x1 w4) Q)))))) :
  RV (d + 3) kX11_findsKept 2 [some (ax_r 85), some (ax_i x1)] I Q := by
  show Rn _ _ _ _ _ _ _ _
  refine r_iload_n dX11_findsKept_2 rfl ?_
  refine r_sipush (v := 1024) dX11_findsKept_3 (by decide) ?_
  refine r_icmp_ge (tgt := 33) dX11_findsKept_6 (by decide) r1 (by decide) (fun c1 => ?_) (fun c1 => ?_)
  · have H := H.1 c1
    exact r_vret dX11_findsKept_33 rfl ⟨rfl, rfl, H⟩
  · have H := H.2 c1
    refine r_aload_n dX11_findsKept_9 rfl ?_
    refine r_getR clX11 3 (by decide) s0_85 rfl rfl wX11_18 dX11_findsKept_10 ?_
    refine r_iload_n dX11_findsKept_13 rfl ?_
    refine r_aload_n dX11_findsKept_14 rfl ?_
    refine r_iload_n dX11_findsKept_15 rfl ?_
    refine r_bipush (v := 32) dX11_findsKept_16 (by decide) ?_
    have ob2 := H.1
    have H := H.2
    refine r_idivp dX11_findsKept_18 ob2 (by decide) ?_
    refine r_iload_n dX11_findsKept_19 rfl ?_
    refine r_bipush (v := 32) dX11_findsKept_20 (by decide) ?_
    refine r_iremp dX11_findsKept_22 ob2 (by decide) ?_
    refine r_cI (as := [ax_r 85, ax_i (x1 / 32), ax_i (x1 % 32)]) (how_V (ci := 11) jX11_keptAt jIX11_keptAt jVX11_keptAt rfl s0_85 (by decide) rfl rfl wX11_133 dX11_findsKept_23) rfl (Nat.le_refl _) (Nat.le_of_ble_eq_true rfl) (fun _ => Nat.le_of_ble_eq_true rfl) H (fun w4 I3 H => ?_)
    have ob5 := H.1
    have H := H.2
    have ob6 := H.1
    have H := H.2
    refine r_iast s0_88 (by decide) dX11_findsKept_26 ob5 ob6 ?_
    refine r_iinc dX11_findsKept_27 (by decide) rfl rfl ?_
    refine r_goto (tgt := 2) dX11_findsKept_30 (by decide) ?_
    exact H

theorem vX11_nth_0 {d : Nat} {Q : Int → ax_H → Prop} {x1 : Int} {x2 : Int} {I : ax_H} (H :
  cV (d + 3) kX11_findsKept [ax_r 85] I (fun I1 =>
  RI (d + 4) kX11_nth 9 [some (ax_r 85), some (ax_i x1), some (ax_i x2), some (ax_i 0), some (ax_i 0)] I1 Q)) :
  RI (d + 4) kX11_nth 0 [some (ax_r 85), some (ax_i x1), some (ax_i x2), none, none] I Q := by
  show Rn _ _ _ _ _ _ _ _
  refine r_aload_n dX11_nth_0 rfl ?_
  refine r_cV (as := [ax_r 85]) (how_V (ci := 11) jX11_findsKept jIX11_findsKept jVX11_findsKept rfl s0_85 (by decide) rfl rfl wX11_162 dX11_nth_1) rfl (Nat.le_refl _) (Nat.le_of_ble_eq_true rfl) (fun _ => Nat.le_of_ble_eq_true rfl) H (fun I1 H => ?_)
  refine r_iconst dX11_nth_4 ?_
  refine r_istore_n dX11_nth_5 (by decide) rfl ?_
  refine r_iconst dX11_nth_6 ?_
  refine r_istore dX11_nth_7 (by decide) rfl ?_
  exact H

theorem vX11_nth_9 {d : Nat} {Q : Int → ax_H → Prop} {x1 : Int} {x2 : Int} {x3 : Int} {x4 : Int} {I : ax_H} (r1 : ax_R x1) (r2 : ax_R x2) (r3 : ax_R x3) (r4 : ax_R x4) (H :
  (1024 ≤ x4 →
    (x2 ≠ (-1) →
      Q (-5) I) ∧
    (x2 = (-1) →
      Q x3 I)) ∧
  (¬ 1024 ≤ x4 →
    (0 ≤ x4 ∧ x4 < 1024) ∧
    (((I 88 x4) ≠ x1 →
      RI (d + 4) kX11_nth 9 [some (ax_r 85), some (ax_i x1), some (ax_i x2), some (ax_i x3), some (ax_i (x4 + 1))] I Q) ∧
    ((I 88 x4) = x1 →
      (x3 ≠ x2 →
        RI (d + 4) kX11_nth 9 [some (ax_r 85), some (ax_i x1), some (ax_i x2), some (ax_i (x3 + 1)), some (ax_i (x4 + 1))] I Q) ∧
      (x3 = x2 →
        Q x4 I))))) :
  RI (d + 4) kX11_nth 9 [some (ax_r 85), some (ax_i x1), some (ax_i x2), some (ax_i x3), some (ax_i x4)] I Q := by
  show Rn _ _ _ _ _ _ _ _
  refine r_iload dX11_nth_9 rfl ?_
  refine r_sipush (v := 1024) dX11_nth_11 (by decide) ?_
  refine r_icmp_ge (tgt := 45) dX11_nth_14 (by decide) r4 (by decide) (fun c1 => ?_) (fun c1 => ?_)
  · have H := H.1 c1
    refine r_iload_n dX11_nth_45 rfl ?_
    refine r_iconst dX11_nth_46 ?_
    refine r_icmp_ne (tgt := 54) dX11_nth_47 (by decide) r2 (by decide) (fun c2 => ?_) (fun c2 => ?_)
    · have H := H.1 c2
      refine r_bipush (v := (-5)) dX11_nth_54 (by decide) ?_
      exact r_iret dX11_nth_56 rfl ⟨rfl, _, rfl, H⟩
    · have H := H.2 c2
      refine r_iload_n dX11_nth_50 rfl ?_
      refine r_goto (tgt := 56) dX11_nth_51 (by decide) ?_
      exact r_iret dX11_nth_56 rfl ⟨rfl, _, rfl, H⟩
  · have H := H.2 c1
    refine r_aload_n dX11_nth_17 rfl ?_
    refine r_getR clX11 3 (by decide) s0_85 rfl rfl wX11_18 dX11_nth_18 ?_
    refine r_iload dX11_nth_21 rfl ?_
    have ob3 := H.1
    have H := H.2
    refine r_iald s0_88 (by decide) dX11_nth_23 ob3 ?_
    refine r_iload_n dX11_nth_24 rfl ?_
    refine r_heapR (fun hI4 => ?_)
    refine r_icmp_ne (tgt := 39) dX11_nth_25 (by decide) (hI4 _ _) r1 (fun c5 => ?_) (fun c5 => ?_)
    · have H := H.1 c5
      refine r_iinc dX11_nth_39 (by decide) rfl rfl ?_
      refine r_goto (tgt := 9) dX11_nth_42 (by decide) ?_
      exact H
    · have H := H.2 c5
      refine r_iload_n dX11_nth_28 rfl ?_
      refine r_iload_n dX11_nth_29 rfl ?_
      refine r_icmp_ne (tgt := 36) dX11_nth_30 (by decide) r3 r2 (fun c6 => ?_) (fun c6 => ?_)
      · have H := H.1 c6
        refine r_iinc dX11_nth_36 (by decide) rfl rfl ?_
        refine r_iinc dX11_nth_39 (by decide) rfl rfl ?_
        refine r_goto (tgt := 9) dX11_nth_42 (by decide) ?_
        exact H
      · have H := H.2 c6
        refine r_iload dX11_nth_33 rfl ?_
        exact r_iret dX11_nth_35 rfl ⟨rfl, _, rfl, H⟩

theorem vX11_fibre_0 {d : Nat} {Q : Int → ax_H → Prop} {x1 : Int} {x2 : Int} {I : ax_H} (H :
  cI (d + 4) kX11_isCoordinate [ax_i x1] I (fun w2 I1 =>
  ax_R w2 ∧
  ((w2 = 0 →
    Q (-1) I1) ∧
  (¬ w2 = 0 →
    cI (d + 4) kX11_nth [ax_r 85, ax_i x1, ax_i x2] I1 (fun w6 I5 =>
    Q w6 I5))))) :
  RI (d + 5) kX11_fibre 0 [some (ax_r 85), some (ax_i x1), some (ax_i x2)] I Q := by
  show Rn _ _ _ _ _ _ _ _
  refine r_iload_n dX11_fibre_0 rfl ?_
  refine r_cI (as := [ax_i x1]) (how_S jX11_isCoordinate jSX11_isCoordinate rfl wX11_103 dX11_fibre_1) rfl (Nat.le_refl _) (Nat.le_of_ble_eq_true rfl) (fun _ => Nat.le_of_ble_eq_true rfl) H (fun w2 I1 H => ?_)
  have ob3 := H.1
  have H := H.2
  refine r_if_eq (tgt := 16) dX11_fibre_4 (by decide) ob3 (fun c4 => ?_) (fun c4 => ?_)
  · have H := H.1 c4
    refine r_iconst dX11_fibre_16 ?_
    exact r_iret dX11_fibre_17 rfl ⟨rfl, _, rfl, H⟩
  · have H := H.2 c4
    refine r_aload_n dX11_fibre_7 rfl ?_
    refine r_iload_n dX11_fibre_8 rfl ?_
    refine r_iload_n dX11_fibre_9 rfl ?_
    refine r_cI (as := [ax_r 85, ax_i x1, ax_i x2]) (how_V (ci := 11) jX11_nth jIX11_nth jVX11_nth rfl s0_85 (by decide) rfl rfl wX11_165 dX11_fibre_10) rfl (Nat.le_refl _) (Nat.le_of_ble_eq_true rfl) (fun _ => Nat.le_of_ble_eq_true rfl) H (fun w6 I5 H => ?_)
    refine r_goto (tgt := 17) dX11_fibre_13 (by decide) ?_
    exact r_iret dX11_fibre_17 rfl ⟨rfl, _, rfl, H⟩

theorem vX11_base_0 {d : Nat} {Q : Int → ax_H → Prop} {x1 : Int} {I : ax_H} (H :
  cI (d + 4) kX11_nth [ax_r 85, ax_i (-6), ax_i x1] I (fun w2 I1 =>
  Q w2 I1)) :
  RI (d + 5) kX11_base 0 [some (ax_r 85), some (ax_i x1)] I Q := by
  show Rn _ _ _ _ _ _ _ _
  refine r_aload_n dX11_base_0 rfl ?_
  refine r_bipush (v := (-6)) dX11_base_1 (by decide) ?_
  refine r_iload_n dX11_base_3 rfl ?_
  refine r_cI (as := [ax_r 85, ax_i (-6), ax_i x1]) (how_V (ci := 11) jX11_nth jIX11_nth jVX11_nth rfl s0_85 (by decide) rfl rfl wX11_165 dX11_base_4) rfl (Nat.le_refl _) (Nat.le_of_ble_eq_true rfl) (fun _ => Nat.le_of_ble_eq_true rfl) H (fun w2 I1 H => ?_)
  exact r_iret dX11_base_7 rfl ⟨rfl, _, rfl, H⟩

theorem vX11_rank_0 {d : Nat} {Q : Int → ax_H → Prop} {x1 : Int} {I : ax_H} (H :
  cI (d + 3) kX11_isCoordinate [ax_i x1] I (fun w2 I1 =>
  ax_R w2 ∧
  ((w2 ≠ 0 →
    cV (d + 3) kX11_findsKept [ax_r 85] I1 (fun I5 =>
    RI (d + 4) kX11_rank 15 [some (ax_r 85), some (ax_i x1), some (ax_i 0), none, none] I5 Q)) ∧
  (w2 = 0 →
    Q (-1) I1)))) :
  RI (d + 4) kX11_rank 0 [some (ax_r 85), some (ax_i x1), none, none, none] I Q := by
  show Rn _ _ _ _ _ _ _ _
  refine r_iload_n dX11_rank_0 rfl ?_
  refine r_cI (as := [ax_i x1]) (how_S jX11_isCoordinate jSX11_isCoordinate rfl wX11_103 dX11_rank_1) rfl (Nat.le_refl _) (Nat.le_of_ble_eq_true rfl) (fun _ => Nat.le_of_ble_eq_true rfl) H (fun w2 I1 H => ?_)
  have ob3 := H.1
  have H := H.2
  refine r_if_ne (tgt := 9) dX11_rank_4 (by decide) ob3 (fun c4 => ?_) (fun c4 => ?_)
  · have H := H.1 c4
    refine r_aload_n dX11_rank_9 rfl ?_
    refine r_cV (as := [ax_r 85]) (how_V (ci := 11) jX11_findsKept jIX11_findsKept jVX11_findsKept rfl s0_85 (by decide) rfl rfl wX11_162 dX11_rank_10) rfl (Nat.le_refl _) (Nat.le_of_ble_eq_true rfl) (fun _ => Nat.le_of_ble_eq_true rfl) H (fun I5 H => ?_)
    refine r_iconst dX11_rank_13 ?_
    refine r_istore_n dX11_rank_14 (by decide) rfl ?_
    exact H
  · have H := H.2 c4
    refine r_iconst dX11_rank_7 ?_
    exact r_iret dX11_rank_8 rfl ⟨rfl, _, rfl, H⟩

theorem vX11_rank_15 {d : Nat} {Q : Int → ax_H → Prop} {x1 : Int} {x2 : Int} {I : ax_H} (r2 : ax_R x2) (H :
  (31 < x2 →
    RI (d + 4) kX11_rank 36 [some (ax_r 85), some (ax_i x1), some (ax_i 0), none, none] I Q) ∧
  (¬ 31 < x2 →
    (0 ≤ x2 ∧ x2 < 32) ∧
    (RI (d + 4) kX11_rank 15 [some (ax_r 85), some (ax_i x1), some (ax_i (x2 + 1)), none, none] (ax_st I 89 x2 0) Q))) :
  RI (d + 4) kX11_rank 15 [some (ax_r 85), some (ax_i x1), some (ax_i x2), none, none] I Q := by
  show Rn _ _ _ _ _ _ _ _
  refine r_iload_n dX11_rank_15 rfl ?_
  refine r_bipush (v := 31) dX11_rank_16 (by decide) ?_
  refine r_icmp_gt (tgt := 34) dX11_rank_18 (by decide) r2 (by decide) (fun c1 => ?_) (fun c1 => ?_)
  · have H := H.1 c1
    refine r_iconst dX11_rank_34 ?_
    refine r_istore_n dX11_rank_35 (by decide) rfl ?_
    exact H
  · have H := H.2 c1
    refine r_aload_n dX11_rank_21 rfl ?_
    refine r_getR clX11 4 (by decide) s0_85 rfl rfl wX11_21 dX11_rank_22 ?_
    refine r_iload_n dX11_rank_25 rfl ?_
    refine r_iconst dX11_rank_26 ?_
    have ob2 := H.1
    have H := H.2
    refine r_iast s0_89 (by decide) dX11_rank_27 ob2 (by decide) ?_
    refine r_iinc dX11_rank_28 (by decide) rfl rfl ?_
    refine r_goto (tgt := 15) dX11_rank_31 (by decide) ?_
    exact H

theorem vX11_rank_36 {d : Nat} {Q : Int → ax_H → Prop} {x1 : Int} {x2 : Int} {I : ax_H} (r2 : ax_R x2) (H :
  (1024 ≤ x2 →
    RI (d + 4) kX11_rank 77 [some (ax_r 85), some (ax_i x1), some (ax_i 0), none, none] I Q) ∧
  (¬ 1024 ≤ x2 →
    (0 ≤ x2 ∧ x2 < 1024) ∧
    (((I 88 x2) = (-6) →
      RI (d + 4) kX11_rank 36 [some (ax_r 85), some (ax_i x1), some (ax_i (x2 + 1)), none, none] I Q) ∧
    (¬ (I 88 x2) = (-6) →
      (0 ≤ (I 88 x2) ∧ (I 88 x2) < 32) ∧
      (ax_R ((I 89 (I 88 x2)) + 1) ∧
      (RI (d + 4) kX11_rank 36 [some (ax_r 85), some (ax_i x1), some (ax_i (x2 + 1)), none, none] (ax_st I 89 (I 88 x2) ((I 89 (I 88 x2)) + 1)) Q)))))) :
  RI (d + 4) kX11_rank 36 [some (ax_r 85), some (ax_i x1), some (ax_i x2), none, none] I Q := by
  show Rn _ _ _ _ _ _ _ _
  refine r_iload_n dX11_rank_36 rfl ?_
  refine r_sipush (v := 1024) dX11_rank_37 (by decide) ?_
  refine r_icmp_ge (tgt := 75) dX11_rank_40 (by decide) r2 (by decide) (fun c1 => ?_) (fun c1 => ?_)
  · have H := H.1 c1
    refine r_iconst dX11_rank_75 ?_
    refine r_istore_n dX11_rank_76 (by decide) rfl ?_
    exact H
  · have H := H.2 c1
    refine r_aload_n dX11_rank_43 rfl ?_
    refine r_getR clX11 3 (by decide) s0_85 rfl rfl wX11_18 dX11_rank_44 ?_
    refine r_iload_n dX11_rank_47 rfl ?_
    have ob2 := H.1
    have H := H.2
    refine r_iald s0_88 (by decide) dX11_rank_48 ob2 ?_
    refine r_bipush (v := (-6)) dX11_rank_49 (by decide) ?_
    refine r_heapR (fun hI3 => ?_)
    refine r_icmp_eq (tgt := 69) dX11_rank_51 (by decide) (hI3 _ _) (by decide) (fun c4 => ?_) (fun c4 => ?_)
    · have H := H.1 c4
      refine r_iinc dX11_rank_69 (by decide) rfl rfl ?_
      refine r_goto (tgt := 36) dX11_rank_72 (by decide) ?_
      exact H
    · have H := H.2 c4
      refine r_aload_n dX11_rank_54 rfl ?_
      refine r_getR clX11 4 (by decide) s0_85 rfl rfl wX11_21 dX11_rank_55 ?_
      refine r_aload_n dX11_rank_58 rfl ?_
      refine r_getR clX11 3 (by decide) s0_85 rfl rfl wX11_18 dX11_rank_59 ?_
      refine r_iload_n dX11_rank_62 rfl ?_
      refine r_iald s0_88 (by decide) dX11_rank_63 ob2 ?_
      refine r_dup2 dX11_rank_64 (fun _ => rfl) (fun _ => rfl) ?_
      have ob5 := H.1
      have H := H.2
      refine r_iald s0_89 (by decide) dX11_rank_65 ob5 ?_
      refine r_iconst dX11_rank_66 ?_
      refine r_iadd dX11_rank_67 ?_
      have ob6 := H.1
      have H := H.2
      refine r_iast s0_89 (by decide) dX11_rank_68 ob5 ob6 ?_
      refine r_iinc dX11_rank_69 (by decide) rfl rfl ?_
      refine r_goto (tgt := 36) dX11_rank_72 (by decide) ?_
      exact H

theorem vX11_rank_77 {d : Nat} {Q : Int → ax_H → Prop} {x1 : Int} {x2 : Int} {I : ax_H} (r2 : ax_R x2) (H :
  (31 < x2 →
    Q (-1) I) ∧
  (¬ 31 < x2 →
    RI (d + 4) kX11_rank 88 [some (ax_r 85), some (ax_i x1), some (ax_i x2), some (ax_i 0), some (ax_i 0)] I Q)) :
  RI (d + 4) kX11_rank 77 [some (ax_r 85), some (ax_i x1), some (ax_i x2), none, none] I Q := by
  show Rn _ _ _ _ _ _ _ _
  refine r_iload_n dX11_rank_77 rfl ?_
  refine r_bipush (v := 31) dX11_rank_78 (by decide) ?_
  refine r_icmp_gt (tgt := 160) dX11_rank_80 (by decide) r2 (by decide) (fun c1 => ?_) (fun c1 => ?_)
  · have H := H.1 c1
    refine r_iconst dX11_rank_160 ?_
    exact r_iret dX11_rank_161 rfl ⟨rfl, _, rfl, H⟩
  · have H := H.2 c1
    refine r_iconst dX11_rank_83 ?_
    refine r_istore_n dX11_rank_84 (by decide) rfl ?_
    refine r_iconst dX11_rank_85 ?_
    refine r_istore dX11_rank_86 (by decide) rfl ?_
    exact H

theorem vX11_rank_88 {d : Nat} {Q : Int → ax_H → Prop} {x1 : Int} {x2 : Int} {x3 : Int} {x4 : Int} {I : ax_H} (r1 : ax_R x1) (r2 : ax_R x2) (r3 : ax_R x3) (r4 : ax_R x4) (H :
  (31 < x4 →
    (x3 ≠ x1 →
      RI (d + 4) kX11_rank 77 [some (ax_r 85), some (ax_i x1), some (ax_i (x2 + 1)), none, none] I Q) ∧
    (x3 = x1 →
      Q x2 I)) ∧
  (¬ 31 < x4 →
    (0 ≤ x4 ∧ x4 < 32) ∧
    ((0 ≤ x2 ∧ x2 < 32) ∧
    (((I 89 x2) < (I 89 x4) →
      ∀ y3_140, y3_140 = (x3 + 1) →
      (RI (d + 4) kX11_rank 88 [some (ax_r 85), some (ax_i x1), some (ax_i x2), some (ax_i y3_140), some (ax_i (x4 + 1))] I Q)) ∧
    (¬ (I 89 x2) < (I 89 x4) →
      ((I 89 x4) ≠ (I 89 x2) →
        ∀ y3_140, y3_140 = (x3 + 0) →
        (RI (d + 4) kX11_rank 88 [some (ax_r 85), some (ax_i x1), some (ax_i x2), some (ax_i y3_140), some (ax_i (x4 + 1))] I Q)) ∧
      ((I 89 x4) = (I 89 x2) →
        (x2 ≤ x4 →
          ∀ y3_140, y3_140 = (x3 + 0) →
          (RI (d + 4) kX11_rank 88 [some (ax_r 85), some (ax_i x1), some (ax_i x2), some (ax_i y3_140), some (ax_i (x4 + 1))] I Q)) ∧
        (¬ x2 ≤ x4 →
          ∀ y3_140, y3_140 = (x3 + 1) →
          (RI (d + 4) kX11_rank 88 [some (ax_r 85), some (ax_i x1), some (ax_i x2), some (ax_i y3_140), some (ax_i (x4 + 1))] I Q)))))))) :
  RI (d + 4) kX11_rank 88 [some (ax_r 85), some (ax_i x1), some (ax_i x2), some (ax_i x3), some (ax_i x4)] I Q := by
  show Rn _ _ _ _ _ _ _ _
  refine r_iload dX11_rank_88 rfl ?_
  refine r_bipush (v := 31) dX11_rank_90 (by decide) ?_
  refine r_icmp_gt (tgt := 147) dX11_rank_92 (by decide) r4 (by decide) (fun c1 => ?_) (fun c1 => ?_)
  · have H := H.1 c1
    refine r_iload_n dX11_rank_147 rfl ?_
    refine r_iload_n dX11_rank_148 rfl ?_
    refine r_icmp_ne (tgt := 154) dX11_rank_149 (by decide) r3 r1 (fun c2 => ?_) (fun c2 => ?_)
    · have H := H.1 c2
      refine r_iinc dX11_rank_154 (by decide) rfl rfl ?_
      refine r_goto (tgt := 77) dX11_rank_157 (by decide) ?_
      refine r_drop (ls2 := [some (ax_r 85), some (ax_i x1), some (ax_i (x2 + 1)), none, none]) ?_ (ax_leS (ax_leS (ax_leS (ax_leN (ax_leN ax_leE)))))
      exact H
    · have H := H.2 c2
      refine r_iload_n dX11_rank_152 rfl ?_
      exact r_iret dX11_rank_153 rfl ⟨rfl, _, rfl, H⟩
  · have H := H.2 c1
    refine r_iload_n dX11_rank_95 rfl ?_
    refine r_aload_n dX11_rank_96 rfl ?_
    refine r_getR clX11 4 (by decide) s0_85 rfl rfl wX11_21 dX11_rank_97 ?_
    refine r_iload dX11_rank_100 rfl ?_
    have ob3 := H.1
    have H := H.2
    refine r_iald s0_89 (by decide) dX11_rank_102 ob3 ?_
    refine r_aload_n dX11_rank_103 rfl ?_
    refine r_getR clX11 4 (by decide) s0_85 rfl rfl wX11_21 dX11_rank_104 ?_
    refine r_iload_n dX11_rank_107 rfl ?_
    have ob4 := H.1
    have H := H.2
    refine r_iald s0_89 (by decide) dX11_rank_108 ob4 ?_
    refine r_heapR (fun hI5 => ?_)
    refine r_icmp_gt (tgt := 134) dX11_rank_109 (by decide) (hI5 _ _) (hI5 _ _) (fun c6 => ?_) (fun c6 => ?_)
    · have H := H.1 c6
      refine r_iconst dX11_rank_134 ?_
      refine r_goto (tgt := 139) dX11_rank_135 (by decide) ?_
      refine r_iadd dX11_rank_139 ?_
      refine r_name (fun y3_140 e7 => ?_)
      have H := H y3_140 e7
      refine r_istore_n dX11_rank_140 (by decide) rfl ?_
      refine r_iinc dX11_rank_141 (by decide) rfl rfl ?_
      refine r_goto (tgt := 88) dX11_rank_144 (by decide) ?_
      exact H
    · have H := H.2 c6
      refine r_aload_n dX11_rank_112 rfl ?_
      refine r_getR clX11 4 (by decide) s0_85 rfl rfl wX11_21 dX11_rank_113 ?_
      refine r_iload dX11_rank_116 rfl ?_
      refine r_iald s0_89 (by decide) dX11_rank_118 ob3 ?_
      refine r_aload_n dX11_rank_119 rfl ?_
      refine r_getR clX11 4 (by decide) s0_85 rfl rfl wX11_21 dX11_rank_120 ?_
      refine r_iload_n dX11_rank_123 rfl ?_
      refine r_iald s0_89 (by decide) dX11_rank_124 ob4 ?_
      refine r_icmp_ne (tgt := 138) dX11_rank_125 (by decide) (hI5 _ _) (hI5 _ _) (fun c8 => ?_) (fun c8 => ?_)
      · have H := H.1 c8
        refine r_iconst dX11_rank_138 ?_
        refine r_iadd dX11_rank_139 ?_
        refine r_name (fun y3_140 e9 => ?_)
        have H := H y3_140 e9
        refine r_istore_n dX11_rank_140 (by decide) rfl ?_
        refine r_iinc dX11_rank_141 (by decide) rfl rfl ?_
        refine r_goto (tgt := 88) dX11_rank_144 (by decide) ?_
        exact H
      · have H := H.2 c8
        refine r_iload dX11_rank_128 rfl ?_
        refine r_iload_n dX11_rank_130 rfl ?_
        refine r_icmp_ge (tgt := 138) dX11_rank_131 (by decide) r4 r2 (fun c10 => ?_) (fun c10 => ?_)
        · have H := H.1 c10
          refine r_iconst dX11_rank_138 ?_
          refine r_iadd dX11_rank_139 ?_
          refine r_name (fun y3_140 e11 => ?_)
          have H := H y3_140 e11
          refine r_istore_n dX11_rank_140 (by decide) rfl ?_
          refine r_iinc dX11_rank_141 (by decide) rfl rfl ?_
          refine r_goto (tgt := 88) dX11_rank_144 (by decide) ?_
          exact H
        · have H := H.2 c10
          refine r_iconst dX11_rank_134 ?_
          refine r_goto (tgt := 139) dX11_rank_135 (by decide) ?_
          refine r_iadd dX11_rank_139 ?_
          refine r_name (fun y3_140 e12 => ?_)
          have H := H y3_140 e12
          refine r_istore_n dX11_rank_140 (by decide) rfl ?_
          refine r_iinc dX11_rank_141 (by decide) rfl rfl ?_
          refine r_goto (tgt := 88) dX11_rank_144 (by decide) ?_
          exact H

theorem vX11_lengthOf_0 {d : Nat} {Q : Int → ax_H → Prop} {x1 : Int} {I : ax_H} (H :
  (0 ≤ x1 ∧ x1 < 1024) ∧
  (RI d kX11_lengthOf 9 [some (ax_r 85), some (ax_i x1), some (ax_i (I 90 x1)), some (ax_i 1)] I Q)) :
  RI d kX11_lengthOf 0 [some (ax_r 85), some (ax_i x1), none, none] I Q := by
  show Rn _ _ _ _ _ _ _ _
  refine r_aload_n dX11_lengthOf_0 rfl ?_
  refine r_getR clX11 5 (by decide) s0_85 rfl rfl wX11_24 dX11_lengthOf_1 ?_
  refine r_iload_n dX11_lengthOf_4 rfl ?_
  have ob1 := H.1
  have H := H.2
  refine r_iald s0_90 (by decide) dX11_lengthOf_5 ob1 ?_
  refine r_istore_n dX11_lengthOf_6 (by decide) rfl ?_
  refine r_iconst dX11_lengthOf_7 ?_
  refine r_istore_n dX11_lengthOf_8 (by decide) rfl ?_
  exact H

theorem vX11_lengthOf_9 {d : Nat} {Q : Int → ax_H → Prop} {x1 : Int} {x2 : Int} {x3 : Int} {I : ax_H} (r1 : ax_R x1) (r2 : ax_R x2) (r3 : ax_R x3) (H :
  (x2 < 0 →
    (x2 ≠ x1 →
      Q 0 I) ∧
    (x2 = x1 →
      (1024 < x3 →
        Q 0 I) ∧
      (¬ 1024 < x3 →
        Q x3 I))) ∧
  (¬ x2 < 0 →
    (x2 = x1 →
      (1024 < x3 →
        Q 0 I) ∧
      (¬ 1024 < x3 →
        Q x3 I)) ∧
    (¬ x2 = x1 →
      (1024 < x3 →
        Q 0 I) ∧
      (¬ 1024 < x3 →
        (0 ≤ x2 ∧ x2 < 1024) ∧
        (RI d kX11_lengthOf 9 [some (ax_r 85), some (ax_i x1), some (ax_i (I 90 x2)), some (ax_i (x3 + 1))] I Q))))) :
  RI d kX11_lengthOf 9 [some (ax_r 85), some (ax_i x1), some (ax_i x2), some (ax_i x3)] I Q := by
  show Rn _ _ _ _ _ _ _ _
  refine r_iload_n dX11_lengthOf_9 rfl ?_
  refine r_if_lt (tgt := 38) dX11_lengthOf_10 (by decide) r2 (fun c1 => ?_) (fun c1 => ?_)
  · have H := H.1 c1
    refine r_iload_n dX11_lengthOf_38 rfl ?_
    refine r_iload_n dX11_lengthOf_39 rfl ?_
    refine r_icmp_ne (tgt := 54) dX11_lengthOf_40 (by decide) r2 r1 (fun c2 => ?_) (fun c2 => ?_)
    · have H := H.1 c2
      refine r_iconst dX11_lengthOf_54 ?_
      exact r_iret dX11_lengthOf_55 rfl ⟨rfl, _, rfl, H⟩
    · have H := H.2 c2
      refine r_iload_n dX11_lengthOf_43 rfl ?_
      refine r_sipush (v := 1024) dX11_lengthOf_44 (by decide) ?_
      refine r_icmp_gt (tgt := 54) dX11_lengthOf_47 (by decide) r3 (by decide) (fun c3 => ?_) (fun c3 => ?_)
      · have H := H.1 c3
        refine r_iconst dX11_lengthOf_54 ?_
        exact r_iret dX11_lengthOf_55 rfl ⟨rfl, _, rfl, H⟩
      · have H := H.2 c3
        refine r_iload_n dX11_lengthOf_50 rfl ?_
        refine r_goto (tgt := 55) dX11_lengthOf_51 (by decide) ?_
        exact r_iret dX11_lengthOf_55 rfl ⟨rfl, _, rfl, H⟩
  · have H := H.2 c1
    refine r_iload_n dX11_lengthOf_13 rfl ?_
    refine r_iload_n dX11_lengthOf_14 rfl ?_
    refine r_icmp_eq (tgt := 38) dX11_lengthOf_15 (by decide) r2 r1 (fun c4 => ?_) (fun c4 => ?_)
    · have H := H.1 c4
      refine r_iload_n dX11_lengthOf_38 rfl ?_
      refine r_iload_n dX11_lengthOf_39 rfl ?_
      refine r_icmp_ne (tgt := 54) dX11_lengthOf_40 (by decide) r2 r1 (fun c5 => absurd c4 c5) (fun c5 => ?_)
      refine r_iload_n dX11_lengthOf_43 rfl ?_
      refine r_sipush (v := 1024) dX11_lengthOf_44 (by decide) ?_
      refine r_icmp_gt (tgt := 54) dX11_lengthOf_47 (by decide) r3 (by decide) (fun c6 => ?_) (fun c6 => ?_)
      · have H := H.1 c6
        refine r_iconst dX11_lengthOf_54 ?_
        exact r_iret dX11_lengthOf_55 rfl ⟨rfl, _, rfl, H⟩
      · have H := H.2 c6
        refine r_iload_n dX11_lengthOf_50 rfl ?_
        refine r_goto (tgt := 55) dX11_lengthOf_51 (by decide) ?_
        exact r_iret dX11_lengthOf_55 rfl ⟨rfl, _, rfl, H⟩
    · have H := H.2 c4
      refine r_iload_n dX11_lengthOf_18 rfl ?_
      refine r_sipush (v := 1024) dX11_lengthOf_19 (by decide) ?_
      refine r_icmp_gt (tgt := 38) dX11_lengthOf_22 (by decide) r3 (by decide) (fun c7 => ?_) (fun c7 => ?_)
      · have H := H.1 c7
        refine r_iload_n dX11_lengthOf_38 rfl ?_
        refine r_iload_n dX11_lengthOf_39 rfl ?_
        refine r_icmp_ne (tgt := 54) dX11_lengthOf_40 (by decide) r2 r1 (fun c8 => ?_) (fun c8 => absurd c8 c4)
        refine r_iconst dX11_lengthOf_54 ?_
        exact r_iret dX11_lengthOf_55 rfl ⟨rfl, _, rfl, H⟩
      · have H := H.2 c7
        refine r_aload_n dX11_lengthOf_25 rfl ?_
        refine r_getR clX11 5 (by decide) s0_85 rfl rfl wX11_24 dX11_lengthOf_26 ?_
        refine r_iload_n dX11_lengthOf_29 rfl ?_
        have ob9 := H.1
        have H := H.2
        refine r_iald s0_90 (by decide) dX11_lengthOf_30 ob9 ?_
        refine r_istore_n dX11_lengthOf_31 (by decide) rfl ?_
        refine r_iinc dX11_lengthOf_32 (by decide) rfl rfl ?_
        refine r_goto (tgt := 9) dX11_lengthOf_35 (by decide) ?_
        exact H

theorem vX11_findsCycles_0 {d : Nat} {Q : ax_H → Prop} {x1 : Int} {I : ax_H} (H :
  cV (d + 5) kX11_findsKept [ax_r 85] I (fun I1 =>
  RV (d + 6) kX11_findsCycles 6 [some (ax_r 85), some (ax_i x1), some (ax_i 0), none, none, none] I1 Q)) :
  RV (d + 6) kX11_findsCycles 0 [some (ax_r 85), some (ax_i x1), none, none, none, none] I Q := by
  show Rn _ _ _ _ _ _ _ _
  refine r_aload_n dX11_findsCycles_0 rfl ?_
  refine r_cV (as := [ax_r 85]) (how_V (ci := 11) jX11_findsKept jIX11_findsKept jVX11_findsKept rfl s0_85 (by decide) rfl rfl wX11_162 dX11_findsCycles_1) rfl (Nat.le_refl _) (Nat.le_of_ble_eq_true rfl) (fun _ => Nat.le_of_ble_eq_true rfl) H (fun I1 H => ?_)
  refine r_iconst dX11_findsCycles_4 ?_
  refine r_istore_n dX11_findsCycles_5 (by decide) rfl ?_
  exact H

theorem vX11_findsCycles_6 {d : Nat} {Q : ax_H → Prop} {x1 : Int} {x2 : Int} {I : ax_H} (r2 : ax_R x2) (H :
  (1024 ≤ x2 →
    RV (d + 6) kX11_findsCycles 49 [some (ax_r 85), some (ax_i x1), some (ax_i 0), none, none, none] I Q) ∧
  (¬ 1024 ≤ x2 →
    cI (d + 5) kX11_step [ax_r 85, ax_i x2, ax_i 0] I (fun w3 I2 =>
    (0 ≤ x2 ∧ x2 < 1024) ∧
    (ax_R w3 ∧
    ((0 ≤ (x2 + 1) ∧ (x2 + 1) < 1025) ∧
    (RV (d + 6) kX11_findsCycles 6 [some (ax_r 85), some (ax_i x1), some (ax_i (x2 + 1)), none, none, none] (ax_st (ax_st (ax_st I2 90 x2 w3) 91 x2 0) 92 (x2 + 1) 0) Q)))))) :
  RV (d + 6) kX11_findsCycles 6 [some (ax_r 85), some (ax_i x1), some (ax_i x2), none, none, none] I Q := by
  show Rn _ _ _ _ _ _ _ _
  refine r_iload_n dX11_findsCycles_6 rfl ?_
  refine r_sipush (v := 1024) dX11_findsCycles_7 (by decide) ?_
  refine r_icmp_ge (tgt := 47) dX11_findsCycles_10 (by decide) r2 (by decide) (fun c1 => ?_) (fun c1 => ?_)
  · have H := H.1 c1
    refine r_iconst dX11_findsCycles_47 ?_
    refine r_istore_n dX11_findsCycles_48 (by decide) rfl ?_
    exact H
  · have H := H.2 c1
    refine r_aload_n dX11_findsCycles_13 rfl ?_
    refine r_getR clX11 5 (by decide) s0_85 rfl rfl wX11_24 dX11_findsCycles_14 ?_
    refine r_iload_n dX11_findsCycles_17 rfl ?_
    refine r_aload_n dX11_findsCycles_18 rfl ?_
    refine r_iload_n dX11_findsCycles_19 rfl ?_
    refine r_iconst dX11_findsCycles_20 ?_
    refine r_cI (as := [ax_r 85, ax_i x2, ax_i 0]) (how_V (ci := 11) jX11_step jIX11_step jVX11_step rfl s0_85 (by decide) rfl rfl wX11_158 dX11_findsCycles_21) rfl (Nat.le_refl _) (Nat.le_of_ble_eq_true rfl) (fun _ => Nat.le_of_ble_eq_true rfl) H (fun w3 I2 H => ?_)
    have ob4 := H.1
    have H := H.2
    have ob5 := H.1
    have H := H.2
    refine r_iast s0_90 (by decide) dX11_findsCycles_24 ob4 ob5 ?_
    refine r_aload_n dX11_findsCycles_25 rfl ?_
    refine r_getR clX11 6 (by decide) s0_85 rfl rfl wX11_27 dX11_findsCycles_26 ?_
    refine r_iload_n dX11_findsCycles_29 rfl ?_
    refine r_iconst dX11_findsCycles_30 ?_
    refine r_zast s0_91 (by decide) dX11_findsCycles_31 ob4 (by decide) ?_
    refine r_aload_n dX11_findsCycles_32 rfl ?_
    refine r_getR clX11 7 (by decide) s0_85 rfl rfl wX11_31 dX11_findsCycles_33 ?_
    refine r_iload_n dX11_findsCycles_36 rfl ?_
    refine r_iconst dX11_findsCycles_37 ?_
    refine r_iadd dX11_findsCycles_38 ?_
    refine r_iconst dX11_findsCycles_39 ?_
    have ob6 := H.1
    have H := H.2
    refine r_iast s0_92 (by decide) dX11_findsCycles_40 ob6 (by decide) ?_
    refine r_iinc dX11_findsCycles_41 (by decide) rfl rfl ?_
    refine r_goto (tgt := 6) dX11_findsCycles_44 (by decide) ?_
    exact H

theorem vX11_findsCycles_49 {d : Nat} {Q : ax_H → Prop} {x1 : Int} {x2 : Int} {I : ax_H} (r1 : ax_R x1) (r2 : ax_R x2) (H :
  (1024 ≤ x2 →
    Q I) ∧
  (¬ 1024 ≤ x2 →
    (0 ≤ x2 ∧ x2 < 1024) ∧
    (((I 88 x2) ≠ x1 →
      RV (d + 6) kX11_findsCycles 49 [some (ax_r 85), some (ax_i x1), some (ax_i (x2 + 1)), none, none, none] I Q) ∧
    ((I 88 x2) = x1 →
      ((I 91 x2) ≠ 0 →
        RV (d + 6) kX11_findsCycles 49 [some (ax_r 85), some (ax_i x1), some (ax_i (x2 + 1)), none, none, none] I Q) ∧
      ((I 91 x2) = 0 →
        cI (d + 5) kX11_lengthOf [ax_r 85, ax_i x2] I (fun w9 I8 =>
        ax_R w9 ∧
        ((w9 ≤ 0 →
          RV (d + 6) kX11_findsCycles 49 [some (ax_r 85), some (ax_i x1), some (ax_i (x2 + 1)), none, none, none] I8 Q) ∧
        (¬ w9 ≤ 0 →
          (0 ≤ w9 ∧ w9 < 1025) ∧
          (ax_R ((I8 92 w9) + 1) ∧
          (RV (d + 6) kX11_findsCycles 105 [some (ax_r 85), some (ax_i x1), some (ax_i x2), some (ax_i w9), some (ax_i x2), some (ax_i 0)] (ax_st I8 92 w9 ((I8 92 w9) + 1)) Q)))))))))) :
  RV (d + 6) kX11_findsCycles 49 [some (ax_r 85), some (ax_i x1), some (ax_i x2), none, none, none] I Q := by
  show Rn _ _ _ _ _ _ _ _
  refine r_iload_n dX11_findsCycles_49 rfl ?_
  refine r_sipush (v := 1024) dX11_findsCycles_50 (by decide) ?_
  refine r_icmp_ge (tgt := 140) dX11_findsCycles_53 (by decide) r2 (by decide) (fun c1 => ?_) (fun c1 => ?_)
  · have H := H.1 c1
    exact r_vret dX11_findsCycles_140 rfl ⟨rfl, rfl, H⟩
  · have H := H.2 c1
    refine r_aload_n dX11_findsCycles_56 rfl ?_
    refine r_getR clX11 3 (by decide) s0_85 rfl rfl wX11_18 dX11_findsCycles_57 ?_
    refine r_iload_n dX11_findsCycles_60 rfl ?_
    have ob2 := H.1
    have H := H.2
    refine r_iald s0_88 (by decide) dX11_findsCycles_61 ob2 ?_
    refine r_iload_n dX11_findsCycles_62 rfl ?_
    refine r_heapR (fun hI3 => ?_)
    refine r_icmp_ne (tgt := 83) dX11_findsCycles_63 (by decide) (hI3 _ _) r1 (fun c4 => ?_) (fun c4 => ?_)
    · have H := H.1 c4
      refine r_iconst dX11_findsCycles_83 ?_
      refine r_istore_n dX11_findsCycles_84 (by decide) rfl ?_
      refine r_iload_n dX11_findsCycles_85 rfl ?_
      refine r_if_le (tgt := 134) dX11_findsCycles_86 (by decide) (by decide) (fun c5 => ?_) (fun c5 => absurd c5 (by decide))
      refine r_iinc dX11_findsCycles_134 (by decide) rfl rfl ?_
      refine r_goto (tgt := 49) dX11_findsCycles_137 (by decide) ?_
      refine r_drop (ls2 := [some (ax_r 85), some (ax_i x1), some (ax_i (x2 + 1)), none, none, none]) ?_ (ax_leS (ax_leS (ax_leS (ax_leN (ax_leN (ax_leN ax_leE))))))
      exact H
    · have H := H.2 c4
      refine r_aload_n dX11_findsCycles_66 rfl ?_
      refine r_getR clX11 6 (by decide) s0_85 rfl rfl wX11_27 dX11_findsCycles_67 ?_
      refine r_iload_n dX11_findsCycles_70 rfl ?_
      refine r_zald s0_91 (by decide) dX11_findsCycles_71 ob2 ?_
      refine r_if_ne (tgt := 83) dX11_findsCycles_72 (by decide) (hI3 _ _) (fun c6 => ?_) (fun c6 => ?_)
      · have H := H.1 c6
        refine r_iconst dX11_findsCycles_83 ?_
        refine r_istore_n dX11_findsCycles_84 (by decide) rfl ?_
        refine r_iload_n dX11_findsCycles_85 rfl ?_
        refine r_if_le (tgt := 134) dX11_findsCycles_86 (by decide) (by decide) (fun c7 => ?_) (fun c7 => absurd c7 (by decide))
        refine r_iinc dX11_findsCycles_134 (by decide) rfl rfl ?_
        refine r_goto (tgt := 49) dX11_findsCycles_137 (by decide) ?_
        refine r_drop (ls2 := [some (ax_r 85), some (ax_i x1), some (ax_i (x2 + 1)), none, none, none]) ?_ (ax_leS (ax_leS (ax_leS (ax_leN (ax_leN (ax_leN ax_leE))))))
        exact H
      · have H := H.2 c6
        refine r_aload_n dX11_findsCycles_75 rfl ?_
        refine r_iload_n dX11_findsCycles_76 rfl ?_
        refine r_cI (as := [ax_r 85, ax_i x2]) (how_V (ci := 11) jX11_lengthOf jIX11_lengthOf jVX11_lengthOf rfl s0_85 (by decide) rfl rfl wX11_168 dX11_findsCycles_77) rfl (Nat.le_refl _) (Nat.le_of_ble_eq_true rfl) (fun _ => Nat.le_of_ble_eq_true rfl) H (fun w9 I8 H => ?_)
        refine r_goto (tgt := 84) dX11_findsCycles_80 (by decide) ?_
        refine r_istore_n dX11_findsCycles_84 (by decide) rfl ?_
        refine r_iload_n dX11_findsCycles_85 rfl ?_
        have ob10 := H.1
        have H := H.2
        refine r_if_le (tgt := 134) dX11_findsCycles_86 (by decide) ob10 (fun c11 => ?_) (fun c11 => ?_)
        · have H := H.1 c11
          refine r_iinc dX11_findsCycles_134 (by decide) rfl rfl ?_
          refine r_goto (tgt := 49) dX11_findsCycles_137 (by decide) ?_
          refine r_drop (ls2 := [some (ax_r 85), some (ax_i x1), some (ax_i (x2 + 1)), none, none, none]) ?_ (ax_leS (ax_leS (ax_leS (ax_leN (ax_leN (ax_leN ax_leE))))))
          exact H
        · have H := H.2 c11
          refine r_aload_n dX11_findsCycles_89 rfl ?_
          refine r_getR clX11 7 (by decide) s0_85 rfl rfl wX11_31 dX11_findsCycles_90 ?_
          refine r_iload_n dX11_findsCycles_93 rfl ?_
          refine r_dup2 dX11_findsCycles_94 (fun _ => rfl) (fun _ => rfl) ?_
          have ob12 := H.1
          have H := H.2
          refine r_iald s0_92 (by decide) dX11_findsCycles_95 ob12 ?_
          refine r_iconst dX11_findsCycles_96 ?_
          refine r_iadd dX11_findsCycles_97 ?_
          have ob13 := H.1
          have H := H.2
          refine r_iast s0_92 (by decide) dX11_findsCycles_98 ob12 ob13 ?_
          refine r_iload_n dX11_findsCycles_99 rfl ?_
          refine r_istore dX11_findsCycles_100 (by decide) rfl ?_
          refine r_iconst dX11_findsCycles_102 ?_
          refine r_istore dX11_findsCycles_103 (by decide) rfl ?_
          exact H

theorem vX11_findsCycles_105 {d : Nat} {Q : ax_H → Prop} {x1 : Int} {x2 : Int} {x3 : Int} {x4 : Int} {x5 : Int} {I : ax_H} (r3 : ax_R x3) (r5 : ax_R x5) (H :
  (x3 ≤ x5 →
    RV (d + 6) kX11_findsCycles 49 [some (ax_r 85), some (ax_i x1), some (ax_i (x2 + 1)), none, none, none] I Q) ∧
  (¬ x3 ≤ x5 →
    (0 ≤ x4 ∧ x4 < 1024) ∧
    (RV (d + 6) kX11_findsCycles 105 [some (ax_r 85), some (ax_i x1), some (ax_i x2), some (ax_i x3), some (ax_i ((ax_st I 91 x4 1) 90 x4)), some (ax_i (x5 + 1))] (ax_st I 91 x4 1) Q))) :
  RV (d + 6) kX11_findsCycles 105 [some (ax_r 85), some (ax_i x1), some (ax_i x2), some (ax_i x3), some (ax_i x4), some (ax_i x5)] I Q := by
  show Rn _ _ _ _ _ _ _ _
  refine r_iload dX11_findsCycles_105 rfl ?_
  refine r_iload_n dX11_findsCycles_107 rfl ?_
  refine r_icmp_ge (tgt := 134) dX11_findsCycles_108 (by decide) r5 r3 (fun c1 => ?_) (fun c1 => ?_)
  · have H := H.1 c1
    refine r_iinc dX11_findsCycles_134 (by decide) rfl rfl ?_
    refine r_goto (tgt := 49) dX11_findsCycles_137 (by decide) ?_
    refine r_drop (ls2 := [some (ax_r 85), some (ax_i x1), some (ax_i (x2 + 1)), none, none, none]) ?_ (ax_leS (ax_leS (ax_leS (ax_leN (ax_leN (ax_leN ax_leE))))))
    exact H
  · have H := H.2 c1
    refine r_aload_n dX11_findsCycles_111 rfl ?_
    refine r_getR clX11 6 (by decide) s0_85 rfl rfl wX11_27 dX11_findsCycles_112 ?_
    refine r_iload dX11_findsCycles_115 rfl ?_
    refine r_iconst dX11_findsCycles_117 ?_
    have ob2 := H.1
    have H := H.2
    refine r_zast s0_91 (by decide) dX11_findsCycles_118 ob2 (by decide) ?_
    refine r_aload_n dX11_findsCycles_119 rfl ?_
    refine r_getR clX11 5 (by decide) s0_85 rfl rfl wX11_24 dX11_findsCycles_120 ?_
    refine r_iload dX11_findsCycles_123 rfl ?_
    refine r_iald s0_90 (by decide) dX11_findsCycles_125 ob2 ?_
    refine r_istore dX11_findsCycles_126 (by decide) rfl ?_
    refine r_iinc dX11_findsCycles_128 (by decide) rfl rfl ?_
    refine r_goto (tgt := 105) dX11_findsCycles_131 (by decide) ?_
    exact H

theorem vX11_cycles_0 {d : Nat} {Q : Int → ax_H → Prop} {x1 : Int} {x2 : Int} {I : ax_H} (r2 : ax_R x2) (H :
  cI (d + 6) kX11_isCoordinate [ax_i x1] I (fun w2 I1 =>
  ax_R w2 ∧
  ((w2 = 0 →
    Q (-1) I1) ∧
  (¬ w2 = 0 →
    cI (d + 6) kX11_in [ax_l x2, ax_l 0, ax_l 2] I1 (fun w6 I5 =>
    ax_R w6 ∧
    ((w6 ≠ 0 →
      cV (d + 6) kX11_findsCycles [ax_r 85, ax_i x1] I5 (fun I9 =>
      (10 ≤ x2 →
        (50 ≤ x2 →
          ∀ y7_79, y7_79 = (x2 - 50) →
          (RI (d + 7) kX11_cycles 84 [some (ax_r 85), none, some (ax_i x2), some (ax_i 0), some (ax_i 0), some (ax_i 0), some (ax_i (-5)), some (ax_i y7_79), some (ax_i 1)] I9 Q)) ∧
        (¬ 50 ≤ x2 →
          ∀ y7_79, y7_79 = (x2 - 10) →
          (RI (d + 7) kX11_cycles 84 [some (ax_r 85), none, some (ax_i x2), some (ax_i 0), some (ax_i 0), some (ax_i 0), some (ax_i (-5)), some (ax_i y7_79), some (ax_i 1)] I9 Q))) ∧
      (¬ 10 ≤ x2 →
        RI (d + 7) kX11_cycles 84 [some (ax_r 85), none, some (ax_i x2), some (ax_i 0), some (ax_i 0), some (ax_i 0), some (ax_i (-5)), some (ax_i (-1)), some (ax_i 1)] I9 Q))) ∧
    (w6 = 0 →
      cI (d + 6) kX11_in [ax_l x2, ax_l 10, ax_l 89] I5 (fun w15 I14 =>
      ax_R w15 ∧
      ((w15 ≠ 0 →
        cV (d + 6) kX11_findsCycles [ax_r 85, ax_i x1] I14 (fun I18 =>
        (10 ≤ x2 →
          (50 ≤ x2 →
            ∀ y7_79, y7_79 = (x2 - 50) →
            (RI (d + 7) kX11_cycles 84 [some (ax_r 85), none, some (ax_i x2), some (ax_i 0), some (ax_i 0), some (ax_i 0), some (ax_i (-5)), some (ax_i y7_79), some (ax_i 1)] I18 Q)) ∧
          (¬ 50 ≤ x2 →
            ∀ y7_79, y7_79 = (x2 - 10) →
            (RI (d + 7) kX11_cycles 84 [some (ax_r 85), none, some (ax_i x2), some (ax_i 0), some (ax_i 0), some (ax_i 0), some (ax_i (-5)), some (ax_i y7_79), some (ax_i 1)] I18 Q))) ∧
        (¬ 10 ≤ x2 →
          RI (d + 7) kX11_cycles 84 [some (ax_r 85), none, some (ax_i x2), some (ax_i 0), some (ax_i 0), some (ax_i 0), some (ax_i (-5)), some (ax_i (-1)), some (ax_i 1)] I18 Q))) ∧
      (w15 = 0 →
        Q (-1) I14)))))))))) :
  RI (d + 7) kX11_cycles 0 [some (ax_r 85), some (ax_i x1), some (ax_i x2), none, none, none, none, none, none] I Q := by
  show Rn _ _ _ _ _ _ _ _
  refine r_iload_n dX11_cycles_0 rfl ?_
  refine r_cI (as := [ax_i x1]) (how_S jX11_isCoordinate jSX11_isCoordinate rfl wX11_103 dX11_cycles_1) rfl (Nat.le_refl _) (Nat.le_of_ble_eq_true rfl) (fun _ => Nat.le_of_ble_eq_true rfl) H (fun w2 I1 H => ?_)
  have ob3 := H.1
  have H := H.2
  refine r_if_eq (tgt := 33) dX11_cycles_4 (by decide) ob3 (fun c4 => ?_) (fun c4 => ?_)
  · have H := H.1 c4
    refine r_iconst dX11_cycles_33 ?_
    exact r_iret dX11_cycles_34 rfl ⟨rfl, _, rfl, H⟩
  · have H := H.2 c4
    refine r_iload_n dX11_cycles_7 rfl ?_
    refine r_i2l dX11_cycles_8 r2 ?_
    refine r_lconst (v := 0) dX11_cycles_9 rfl ?_
    refine r_ldc2 (v := 2) dX11_cycles_10 wX11_107 ?_
    refine r_cI (as := [ax_l x2, ax_l 0, ax_l 2]) (how_S jX11_in jSX11_in rfl wX11_99 dX11_cycles_13) rfl (Nat.le_refl _) (Nat.le_of_ble_eq_true rfl) (fun _ => Nat.le_of_ble_eq_true rfl) H (fun w6 I5 H => ?_)
    have ob7 := H.1
    have H := H.2
    refine r_if_ne (tgt := 35) dX11_cycles_16 (by decide) ob7 (fun c8 => ?_) (fun c8 => ?_)
    · have H := H.1 c8
      refine r_aload_n dX11_cycles_35 rfl ?_
      refine r_iload_n dX11_cycles_36 rfl ?_
      refine r_cV (as := [ax_r 85, ax_i x1]) (how_V (ci := 11) jX11_findsCycles jIX11_findsCycles jVX11_findsCycles rfl s0_85 (by decide) rfl rfl wX11_175 dX11_cycles_37) rfl (Nat.le_refl _) (Nat.le_of_ble_eq_true rfl) (fun _ => Nat.le_of_ble_eq_true rfl) H (fun I9 H => ?_)
      refine r_iconst dX11_cycles_40 ?_
      refine r_istore_n dX11_cycles_41 (by decide) rfl ?_
      refine r_iconst dX11_cycles_42 ?_
      refine r_istore dX11_cycles_43 (by decide) rfl ?_
      refine r_iconst dX11_cycles_45 ?_
      refine r_istore dX11_cycles_46 (by decide) rfl ?_
      refine r_bipush (v := (-5)) dX11_cycles_48 (by decide) ?_
      refine r_istore dX11_cycles_50 (by decide) rfl ?_
      refine r_iload_n dX11_cycles_52 rfl ?_
      refine r_bipush (v := 10) dX11_cycles_53 (by decide) ?_
      refine r_icmp_ge (tgt := 62) dX11_cycles_55 (by decide) r2 (by decide) (fun c10 => ?_) (fun c10 => ?_)
      · have H := H.1 c10
        refine r_iload_n dX11_cycles_62 rfl ?_
        refine r_bipush (v := 50) dX11_cycles_63 (by decide) ?_
        refine r_icmp_ge (tgt := 75) dX11_cycles_65 (by decide) r2 (by decide) (fun c11 => ?_) (fun c11 => ?_)
        · have H := H.1 c11
          refine r_iload_n dX11_cycles_75 rfl ?_
          refine r_bipush (v := 50) dX11_cycles_76 (by decide) ?_
          refine r_isub dX11_cycles_78 ?_
          refine r_name (fun y7_79 e12 => ?_)
          have H := H y7_79 e12
          refine r_istore dX11_cycles_79 (by decide) rfl ?_
          refine r_iconst dX11_cycles_81 ?_
          refine r_istore dX11_cycles_82 (by decide) rfl ?_
          refine r_drop (ls2 := [some (ax_r 85), none, some (ax_i x2), some (ax_i 0), some (ax_i 0), some (ax_i 0), some (ax_i (-5)), some (ax_i y7_79), some (ax_i 1)]) ?_ (ax_leS (ax_leN (ax_leS (ax_leS (ax_leS (ax_leS (ax_leS (ax_leS (ax_leS ax_leE)))))))))
          exact H
        · have H := H.2 c11
          refine r_iload_n dX11_cycles_68 rfl ?_
          refine r_bipush (v := 10) dX11_cycles_69 (by decide) ?_
          refine r_isub dX11_cycles_71 ?_
          refine r_goto (tgt := 79) dX11_cycles_72 (by decide) ?_
          refine r_name (fun y7_79 e13 => ?_)
          have H := H y7_79 e13
          refine r_istore dX11_cycles_79 (by decide) rfl ?_
          refine r_iconst dX11_cycles_81 ?_
          refine r_istore dX11_cycles_82 (by decide) rfl ?_
          refine r_drop (ls2 := [some (ax_r 85), none, some (ax_i x2), some (ax_i 0), some (ax_i 0), some (ax_i 0), some (ax_i (-5)), some (ax_i y7_79), some (ax_i 1)]) ?_ (ax_leS (ax_leN (ax_leS (ax_leS (ax_leS (ax_leS (ax_leS (ax_leS (ax_leS ax_leE)))))))))
          exact H
      · have H := H.2 c10
        refine r_iconst dX11_cycles_58 ?_
        refine r_goto (tgt := 79) dX11_cycles_59 (by decide) ?_
        refine r_istore dX11_cycles_79 (by decide) rfl ?_
        refine r_iconst dX11_cycles_81 ?_
        refine r_istore dX11_cycles_82 (by decide) rfl ?_
        refine r_drop (ls2 := [some (ax_r 85), none, some (ax_i x2), some (ax_i 0), some (ax_i 0), some (ax_i 0), some (ax_i (-5)), some (ax_i (-1)), some (ax_i 1)]) ?_ (ax_leS (ax_leN (ax_leS (ax_leS (ax_leS (ax_leS (ax_leS (ax_leS (ax_leS ax_leE)))))))))
        exact H
    · have H := H.2 c8
      refine r_iload_n dX11_cycles_19 rfl ?_
      refine r_i2l dX11_cycles_20 r2 ?_
      refine r_ldc2 (v := 10) dX11_cycles_21 wX11_171 ?_
      refine r_ldc2 (v := 89) dX11_cycles_24 wX11_173 ?_
      refine r_cI (as := [ax_l x2, ax_l 10, ax_l 89]) (how_S jX11_in jSX11_in rfl wX11_99 dX11_cycles_27) rfl (Nat.le_refl _) (Nat.le_of_ble_eq_true rfl) (fun _ => Nat.le_of_ble_eq_true rfl) H (fun w15 I14 H => ?_)
      have ob16 := H.1
      have H := H.2
      refine r_if_ne (tgt := 35) dX11_cycles_30 (by decide) ob16 (fun c17 => ?_) (fun c17 => ?_)
      · have H := H.1 c17
        refine r_aload_n dX11_cycles_35 rfl ?_
        refine r_iload_n dX11_cycles_36 rfl ?_
        refine r_cV (as := [ax_r 85, ax_i x1]) (how_V (ci := 11) jX11_findsCycles jIX11_findsCycles jVX11_findsCycles rfl s0_85 (by decide) rfl rfl wX11_175 dX11_cycles_37) rfl (Nat.le_refl _) (Nat.le_of_ble_eq_true rfl) (fun _ => Nat.le_of_ble_eq_true rfl) H (fun I18 H => ?_)
        refine r_iconst dX11_cycles_40 ?_
        refine r_istore_n dX11_cycles_41 (by decide) rfl ?_
        refine r_iconst dX11_cycles_42 ?_
        refine r_istore dX11_cycles_43 (by decide) rfl ?_
        refine r_iconst dX11_cycles_45 ?_
        refine r_istore dX11_cycles_46 (by decide) rfl ?_
        refine r_bipush (v := (-5)) dX11_cycles_48 (by decide) ?_
        refine r_istore dX11_cycles_50 (by decide) rfl ?_
        refine r_iload_n dX11_cycles_52 rfl ?_
        refine r_bipush (v := 10) dX11_cycles_53 (by decide) ?_
        refine r_icmp_ge (tgt := 62) dX11_cycles_55 (by decide) r2 (by decide) (fun c19 => ?_) (fun c19 => ?_)
        · have H := H.1 c19
          refine r_iload_n dX11_cycles_62 rfl ?_
          refine r_bipush (v := 50) dX11_cycles_63 (by decide) ?_
          refine r_icmp_ge (tgt := 75) dX11_cycles_65 (by decide) r2 (by decide) (fun c20 => ?_) (fun c20 => ?_)
          · have H := H.1 c20
            refine r_iload_n dX11_cycles_75 rfl ?_
            refine r_bipush (v := 50) dX11_cycles_76 (by decide) ?_
            refine r_isub dX11_cycles_78 ?_
            refine r_name (fun y7_79 e21 => ?_)
            have H := H y7_79 e21
            refine r_istore dX11_cycles_79 (by decide) rfl ?_
            refine r_iconst dX11_cycles_81 ?_
            refine r_istore dX11_cycles_82 (by decide) rfl ?_
            refine r_drop (ls2 := [some (ax_r 85), none, some (ax_i x2), some (ax_i 0), some (ax_i 0), some (ax_i 0), some (ax_i (-5)), some (ax_i y7_79), some (ax_i 1)]) ?_ (ax_leS (ax_leN (ax_leS (ax_leS (ax_leS (ax_leS (ax_leS (ax_leS (ax_leS ax_leE)))))))))
            exact H
          · have H := H.2 c20
            refine r_iload_n dX11_cycles_68 rfl ?_
            refine r_bipush (v := 10) dX11_cycles_69 (by decide) ?_
            refine r_isub dX11_cycles_71 ?_
            refine r_goto (tgt := 79) dX11_cycles_72 (by decide) ?_
            refine r_name (fun y7_79 e22 => ?_)
            have H := H y7_79 e22
            refine r_istore dX11_cycles_79 (by decide) rfl ?_
            refine r_iconst dX11_cycles_81 ?_
            refine r_istore dX11_cycles_82 (by decide) rfl ?_
            refine r_drop (ls2 := [some (ax_r 85), none, some (ax_i x2), some (ax_i 0), some (ax_i 0), some (ax_i 0), some (ax_i (-5)), some (ax_i y7_79), some (ax_i 1)]) ?_ (ax_leS (ax_leN (ax_leS (ax_leS (ax_leS (ax_leS (ax_leS (ax_leS (ax_leS ax_leE)))))))))
            exact H
        · have H := H.2 c19
          refine r_iconst dX11_cycles_58 ?_
          refine r_goto (tgt := 79) dX11_cycles_59 (by decide) ?_
          refine r_istore dX11_cycles_79 (by decide) rfl ?_
          refine r_iconst dX11_cycles_81 ?_
          refine r_istore dX11_cycles_82 (by decide) rfl ?_
          refine r_drop (ls2 := [some (ax_r 85), none, some (ax_i x2), some (ax_i 0), some (ax_i 0), some (ax_i 0), some (ax_i (-5)), some (ax_i (-1)), some (ax_i 1)]) ?_ (ax_leS (ax_leN (ax_leS (ax_leS (ax_leS (ax_leS (ax_leS (ax_leS (ax_leS ax_leE)))))))))
          exact H
      · have H := H.2 c17
        refine r_iconst dX11_cycles_33 ?_
        exact r_iret dX11_cycles_34 rfl ⟨rfl, _, rfl, H⟩

theorem vX11_cycles_84 {d : Nat} {Q : Int → ax_H → Prop} {x2 : Int} {x3 : Int} {x4 : Int} {x5 : Int} {x6 : Int} {x7 : Int} {x8 : Int} {I : ax_H} (r2 : ax_R x2) (r5 : ax_R x5) (r7 : ax_R x7) (r8 : ax_R x8) (H :
  (1024 < x8 →
    (x2 ≠ 0 →
      (x2 ≠ 1 →
        (x2 ≠ 2 →
          Q x6 I) ∧
        (x2 = 2 →
          Q x5 I)) ∧
      (x2 = 1 →
        Q x4 I)) ∧
    (x2 = 0 →
      Q x3 I)) ∧
  (¬ 1024 < x8 →
    (0 ≤ x8 ∧ x8 < 1025) ∧
    (((I 92 x8) ≤ 0 →
      RI (d + 7) kX11_cycles 84 [some (ax_r 85), none, some (ax_i x2), some (ax_i x3), some (ax_i x4), some (ax_i x5), some (ax_i x6), some (ax_i x7), some (ax_i (x8 + 1))] I Q) ∧
    (¬ (I 92 x8) ≤ 0 →
      ∀ y3_111, y3_111 = (x3 + (I 92 x8)) →
      (∀ y4_125, y4_125 = (x4 + (x8 * (I 92 x8))) →
      ((x5 ≠ x7 →
        RI (d + 7) kX11_cycles 84 [some (ax_r 85), none, some (ax_i x2), some (ax_i y3_111), some (ax_i y4_125), some (ax_i (x5 + 1)), some (ax_i x6), some (ax_i x7), some (ax_i (x8 + 1))] I Q) ∧
      (x5 = x7 →
        (50 ≤ x2 →
          RI (d + 7) kX11_cycles 84 [some (ax_r 85), none, some (ax_i x2), some (ax_i y3_111), some (ax_i y4_125), some (ax_i (x5 + 1)), some (ax_i (I 92 x8)), some (ax_i x7), some (ax_i (x8 + 1))] I Q) ∧
        (¬ 50 ≤ x2 →
          RI (d + 7) kX11_cycles 84 [some (ax_r 85), none, some (ax_i x2), some (ax_i y3_111), some (ax_i y4_125), some (ax_i (x5 + 1)), some (ax_i x8), some (ax_i x7), some (ax_i (x8 + 1))] I Q)))))))) :
  RI (d + 7) kX11_cycles 84 [some (ax_r 85), none, some (ax_i x2), some (ax_i x3), some (ax_i x4), some (ax_i x5), some (ax_i x6), some (ax_i x7), some (ax_i x8)] I Q := by
  show Rn _ _ _ _ _ _ _ _
  refine r_iload dX11_cycles_84 rfl ?_
  refine r_sipush (v := 1024) dX11_cycles_86 (by decide) ?_
  refine r_icmp_gt (tgt := 168) dX11_cycles_89 (by decide) r8 (by decide) (fun c1 => ?_) (fun c1 => ?_)
  · have H := H.1 c1
    refine r_iload_n dX11_cycles_168 rfl ?_
    refine r_if_ne (tgt := 176) dX11_cycles_169 (by decide) r2 (fun c2 => ?_) (fun c2 => ?_)
    · have H := H.1 c2
      refine r_iload_n dX11_cycles_176 rfl ?_
      refine r_iconst dX11_cycles_177 ?_
      refine r_icmp_ne (tgt := 186) dX11_cycles_178 (by decide) r2 (by decide) (fun c3 => ?_) (fun c3 => ?_)
      · have H := H.1 c3
        refine r_iload_n dX11_cycles_186 rfl ?_
        refine r_iconst dX11_cycles_187 ?_
        refine r_icmp_ne (tgt := 196) dX11_cycles_188 (by decide) r2 (by decide) (fun c4 => ?_) (fun c4 => ?_)
        · have H := H.1 c4
          refine r_iload dX11_cycles_196 rfl ?_
          exact r_iret dX11_cycles_198 rfl ⟨rfl, _, rfl, H⟩
        · have H := H.2 c4
          refine r_iload dX11_cycles_191 rfl ?_
          refine r_goto (tgt := 198) dX11_cycles_193 (by decide) ?_
          exact r_iret dX11_cycles_198 rfl ⟨rfl, _, rfl, H⟩
      · have H := H.2 c3
        refine r_iload dX11_cycles_181 rfl ?_
        refine r_goto (tgt := 198) dX11_cycles_183 (by decide) ?_
        exact r_iret dX11_cycles_198 rfl ⟨rfl, _, rfl, H⟩
    · have H := H.2 c2
      refine r_iload_n dX11_cycles_172 rfl ?_
      refine r_goto (tgt := 198) dX11_cycles_173 (by decide) ?_
      exact r_iret dX11_cycles_198 rfl ⟨rfl, _, rfl, H⟩
  · have H := H.2 c1
    refine r_aload_n dX11_cycles_92 rfl ?_
    refine r_getR clX11 7 (by decide) s0_85 rfl rfl wX11_31 dX11_cycles_93 ?_
    refine r_iload dX11_cycles_96 rfl ?_
    have ob5 := H.1
    have H := H.2
    refine r_iald s0_92 (by decide) dX11_cycles_98 ob5 ?_
    refine r_heapR (fun hI6 => ?_)
    refine r_if_le (tgt := 162) dX11_cycles_99 (by decide) (hI6 _ _) (fun c7 => ?_) (fun c7 => ?_)
    · have H := H.1 c7
      refine r_iinc dX11_cycles_162 (by decide) rfl rfl ?_
      refine r_goto (tgt := 84) dX11_cycles_165 (by decide) ?_
      exact H
    · have H := H.2 c7
      refine r_iload_n dX11_cycles_102 rfl ?_
      refine r_aload_n dX11_cycles_103 rfl ?_
      refine r_getR clX11 7 (by decide) s0_85 rfl rfl wX11_31 dX11_cycles_104 ?_
      refine r_iload dX11_cycles_107 rfl ?_
      refine r_iald s0_92 (by decide) dX11_cycles_109 ob5 ?_
      refine r_iadd dX11_cycles_110 ?_
      refine r_name (fun y3_111 e8 => ?_)
      have H := H y3_111 e8
      refine r_istore_n dX11_cycles_111 (by decide) rfl ?_
      refine r_iload dX11_cycles_112 rfl ?_
      refine r_iload dX11_cycles_114 rfl ?_
      refine r_aload_n dX11_cycles_116 rfl ?_
      refine r_getR clX11 7 (by decide) s0_85 rfl rfl wX11_31 dX11_cycles_117 ?_
      refine r_iload dX11_cycles_120 rfl ?_
      refine r_iald s0_92 (by decide) dX11_cycles_122 ob5 ?_
      refine r_imul dX11_cycles_123 ?_
      refine r_iadd dX11_cycles_124 ?_
      refine r_name (fun y4_125 e9 => ?_)
      have H := H y4_125 e9
      refine r_istore dX11_cycles_125 (by decide) rfl ?_
      refine r_iload dX11_cycles_127 rfl ?_
      refine r_iload dX11_cycles_129 rfl ?_
      refine r_icmp_ne (tgt := 155) dX11_cycles_131 (by decide) r5 r7 (fun c10 => ?_) (fun c10 => ?_)
      · have H := H.1 c10
        refine r_iload dX11_cycles_155 rfl ?_
        refine r_istore dX11_cycles_157 (by decide) rfl ?_
        refine r_iinc dX11_cycles_159 (by decide) rfl rfl ?_
        refine r_iinc dX11_cycles_162 (by decide) rfl rfl ?_
        refine r_goto (tgt := 84) dX11_cycles_165 (by decide) ?_
        exact H
      · have H := H.2 c10
        refine r_iload_n dX11_cycles_134 rfl ?_
        refine r_bipush (v := 50) dX11_cycles_135 (by decide) ?_
        refine r_icmp_ge (tgt := 145) dX11_cycles_137 (by decide) r2 (by decide) (fun c11 => ?_) (fun c11 => ?_)
        · have H := H.1 c11
          refine r_aload_n dX11_cycles_145 rfl ?_
          refine r_getR clX11 7 (by decide) s0_85 rfl rfl wX11_31 dX11_cycles_146 ?_
          refine r_iload dX11_cycles_149 rfl ?_
          refine r_iald s0_92 (by decide) dX11_cycles_151 ob5 ?_
          refine r_goto (tgt := 157) dX11_cycles_152 (by decide) ?_
          refine r_istore dX11_cycles_157 (by decide) rfl ?_
          refine r_iinc dX11_cycles_159 (by decide) rfl rfl ?_
          refine r_iinc dX11_cycles_162 (by decide) rfl rfl ?_
          refine r_goto (tgt := 84) dX11_cycles_165 (by decide) ?_
          exact H
        · have H := H.2 c11
          refine r_iload dX11_cycles_140 rfl ?_
          refine r_goto (tgt := 157) dX11_cycles_142 (by decide) ?_
          refine r_istore dX11_cycles_157 (by decide) rfl ?_
          refine r_iinc dX11_cycles_159 (by decide) rfl rfl ?_
          refine r_iinc dX11_cycles_162 (by decide) rfl rfl ?_
          refine r_goto (tgt := 84) dX11_cycles_165 (by decide) ?_
          exact H

theorem vX11_becomes_0 {d : Nat} {Q : ax_H → Prop} {a0 : Nat} {a1 : Nat} {I : ax_H} (h0 : isAr a0) (h1 : isAr a1) (H :
  RV d kX11_becomes 2 [some (ax_r a0), some (ax_r a1), some (ax_i 0)] I Q) :
  RV d kX11_becomes 0 [some (ax_r a0), some (ax_r a1), none] I Q := by
  show Rn _ _ _ _ _ _ _ _
  refine r_iconst dX11_becomes_0 ?_
  refine r_istore_n dX11_becomes_1 (by decide) rfl ?_
  exact H

theorem vX11_becomes_2 {d : Nat} {Q : ax_H → Prop} {a0 : Nat} {a1 : Nat} {x2 : Int} {I : ax_H} (h0 : isAr a0) (h1 : isAr a1) (r2 : ax_R x2) (H :
  ax_R ((I a1 0) + 1) ∧
  ((((I a1 0) + 1) < x2 →
    Q I) ∧
  (¬ ((I a1 0) + 1) < x2 →
    (0 ≤ x2 ∧ x2 < 2500) ∧
    (RV d kX11_becomes 2 [some (ax_r a0), some (ax_r a1), some (ax_i (x2 + 1))] (ax_st I a0 x2 (I a1 x2)) Q)))) :
  RV d kX11_becomes 2 [some (ax_r a0), some (ax_r a1), some (ax_i x2)] I Q := by
  show Rn _ _ _ _ _ _ _ _
  refine r_iload_n dX11_becomes_2 rfl ?_
  refine r_aload_n dX11_becomes_3 rfl ?_
  refine r_iconst dX11_becomes_4 ?_
  refine r_iald h1 (by decide) dX11_becomes_5 (by decide) ?_
  refine r_iconst dX11_becomes_6 ?_
  refine r_iadd dX11_becomes_7 ?_
  have ob1 := H.1
  have H := H.2
  refine r_icmp_gt (tgt := 23) dX11_becomes_8 (by decide) r2 ob1 (fun c2 => ?_) (fun c2 => ?_)
  · have H := H.1 c2
    exact r_vret dX11_becomes_23 rfl ⟨rfl, rfl, H⟩
  · have H := H.2 c2
    refine r_aload_n dX11_becomes_11 rfl ?_
    refine r_iload_n dX11_becomes_12 rfl ?_
    refine r_aload_n dX11_becomes_13 rfl ?_
    refine r_iload_n dX11_becomes_14 rfl ?_
    have ob3 := H.1
    have H := H.2
    refine r_iald h1 (by decide) dX11_becomes_15 ob3 ?_
    refine r_heapR (fun hI4 => ?_)
    refine r_iast h0 (by decide) dX11_becomes_16 ob3 (hI4 _ _) ?_
    refine r_iinc dX11_becomes_17 (by decide) rfl rfl ?_
    refine r_goto (tgt := 2) dX11_becomes_20 (by decide) ?_
    exact H

theorem vX11_constant_0 {d : Nat} {Q : ax_H → Prop} {a0 : Nat} {x1 : Int} {I : ax_H} (h0 : isAr a0) (r1 : ax_R x1) (H :
  (x1 ≠ 0 →
    Q (ax_st (ax_st I a0 0 0) a0 1 x1)) ∧
  (x1 = 0 →
    Q (ax_st (ax_st I a0 0 (-1)) a0 1 x1))) :
  RV d kX11_constant 0 [some (ax_r a0), some (ax_i x1)] I Q := by
  show Rn _ _ _ _ _ _ _ _
  refine r_aload_n dX11_constant_0 rfl ?_
  refine r_iconst dX11_constant_1 ?_
  refine r_iload_n dX11_constant_2 rfl ?_
  refine r_if_ne (tgt := 10) dX11_constant_3 (by decide) r1 (fun c1 => ?_) (fun c1 => ?_)
  · have H := H.1 c1
    refine r_iconst dX11_constant_10 ?_
    refine r_iast h0 (by decide) dX11_constant_11 (by decide) (by decide) ?_
    refine r_aload_n dX11_constant_12 rfl ?_
    refine r_iconst dX11_constant_13 ?_
    refine r_iload_n dX11_constant_14 rfl ?_
    refine r_iast h0 (by decide) dX11_constant_15 (by decide) r1 ?_
    exact r_vret dX11_constant_16 rfl ⟨rfl, rfl, H⟩
  · have H := H.2 c1
    refine r_iconst dX11_constant_6 ?_
    refine r_goto (tgt := 11) dX11_constant_7 (by decide) ?_
    refine r_iast h0 (by decide) dX11_constant_11 (by decide) (by decide) ?_
    refine r_aload_n dX11_constant_12 rfl ?_
    refine r_iconst dX11_constant_13 ?_
    refine r_iload_n dX11_constant_14 rfl ?_
    refine r_iast h0 (by decide) dX11_constant_15 (by decide) r1 ?_
    exact r_vret dX11_constant_16 rfl ⟨rfl, rfl, H⟩

theorem vX11_trims_0 {d : Nat} {Q : ax_H → Prop} {a0 : Nat} {x1 : Int} {I : ax_H} (h0 : isAr a0) (r1 : ax_R x1) (H :
  RV d kX11_trims 4 [some (ax_r a0), none] (ax_st I a0 0 x1) Q) :
  RV d kX11_trims 0 [some (ax_r a0), some (ax_i x1)] I Q := by
  show Rn _ _ _ _ _ _ _ _
  refine r_aload_n dX11_trims_0 rfl ?_
  refine r_iconst dX11_trims_1 ?_
  refine r_iload_n dX11_trims_2 rfl ?_
  refine r_iast h0 (by decide) dX11_trims_3 (by decide) r1 ?_
  refine r_drop (ls2 := [some (ax_r a0), none]) ?_ (ax_leS (ax_leN ax_leE))
  exact H

theorem vX11_trims_4 {d : Nat} {Q : ax_H → Prop} {a0 : Nat} {I : ax_H} (h0 : isAr a0) (H :
  ((I a0 0) < 0 →
    Q I) ∧
  (¬ (I a0 0) < 0 →
    (0 ≤ ((I a0 0) + 1) ∧ ((I a0 0) + 1) < 2500) ∧
    (((I a0 ((I a0 0) + 1)) ≠ 0 →
      Q I) ∧
    ((I a0 ((I a0 0) + 1)) = 0 →
      ax_R ((I a0 0) - 1) ∧
      (RV d kX11_trims 4 [some (ax_r a0), none] (ax_st I a0 0 ((I a0 0) - 1)) Q))))) :
  RV d kX11_trims 4 [some (ax_r a0), none] I Q := by
  show Rn _ _ _ _ _ _ _ _
  refine r_aload_n dX11_trims_4 rfl ?_
  refine r_iconst dX11_trims_5 ?_
  refine r_iald h0 (by decide) dX11_trims_6 (by decide) ?_
  refine r_heapR (fun hI1 => ?_)
  refine r_if_lt (tgt := 30) dX11_trims_7 (by decide) (hI1 _ _) (fun c2 => ?_) (fun c2 => ?_)
  · have H := H.1 c2
    exact r_vret dX11_trims_30 rfl ⟨rfl, rfl, H⟩
  · have H := H.2 c2
    refine r_aload_n dX11_trims_10 rfl ?_
    refine r_aload_n dX11_trims_11 rfl ?_
    refine r_iconst dX11_trims_12 ?_
    refine r_iald h0 (by decide) dX11_trims_13 (by decide) ?_
    refine r_iconst dX11_trims_14 ?_
    refine r_iadd dX11_trims_15 ?_
    have ob3 := H.1
    have H := H.2
    refine r_iald h0 (by decide) dX11_trims_16 ob3 ?_
    refine r_if_ne (tgt := 30) dX11_trims_17 (by decide) (hI1 _ _) (fun c4 => ?_) (fun c4 => ?_)
    · have H := H.1 c4
      exact r_vret dX11_trims_30 rfl ⟨rfl, rfl, H⟩
    · have H := H.2 c4
      refine r_aload_n dX11_trims_20 rfl ?_
      refine r_iconst dX11_trims_21 ?_
      refine r_dup2 dX11_trims_22 (fun _ => rfl) (fun _ => rfl) ?_
      refine r_iald h0 (by decide) dX11_trims_23 (by decide) ?_
      refine r_iconst dX11_trims_24 ?_
      refine r_isub dX11_trims_25 ?_
      have ob5 := H.1
      have H := H.2
      refine r_iast h0 (by decide) dX11_trims_26 (by decide) ob5 ?_
      refine r_goto (tgt := 4) dX11_trims_27 (by decide) ?_
      exact H

theorem vX11_sums_0 {d : Nat} {Q : ax_H → Prop} {a0 : Nat} {x1 : Int} {a2 : Nat} {x3 : Int} {a4 : Nat} {I : ax_H} (h0 : isAr a0) (h2 : isAr a2) (h4 : isAr a4) (H :
  ((I a2 0) ≤ (I a4 0) →
    RV (d + 1) kX11_sums 25 [some (ax_r a0), some (ax_i x1), some (ax_r a2), some (ax_i x3), some (ax_r a4), some (ax_i (I a4 0)), some (ax_i 0)] I Q) ∧
  (¬ (I a2 0) ≤ (I a4 0) →
    RV (d + 1) kX11_sums 25 [some (ax_r a0), some (ax_i x1), some (ax_r a2), some (ax_i x3), some (ax_r a4), some (ax_i (I a2 0)), some (ax_i 0)] I Q)) :
  RV (d + 1) kX11_sums 0 [some (ax_r a0), some (ax_i x1), some (ax_r a2), some (ax_i x3), some (ax_r a4), none, none] I Q := by
  show Rn _ _ _ _ _ _ _ _
  refine r_aload_n dX11_sums_0 rfl ?_
  refine r_iconst dX11_sums_1 ?_
  refine r_iald h2 (by decide) dX11_sums_2 (by decide) ?_
  refine r_aload dX11_sums_3 rfl ?_
  refine r_iconst dX11_sums_5 ?_
  refine r_iald h4 (by decide) dX11_sums_6 (by decide) ?_
  refine r_heapR (fun hI1 => ?_)
  refine r_icmp_le (tgt := 16) dX11_sums_7 (by decide) (hI1 _ _) (hI1 _ _) (fun c2 => ?_) (fun c2 => ?_)
  · have H := H.1 c2
    refine r_aload dX11_sums_16 rfl ?_
    refine r_iconst dX11_sums_18 ?_
    refine r_iald h4 (by decide) dX11_sums_19 (by decide) ?_
    refine r_istore dX11_sums_20 (by decide) rfl ?_
    refine r_iconst dX11_sums_22 ?_
    refine r_istore dX11_sums_23 (by decide) rfl ?_
    exact H
  · have H := H.2 c2
    refine r_aload_n dX11_sums_10 rfl ?_
    refine r_iconst dX11_sums_11 ?_
    refine r_iald h2 (by decide) dX11_sums_12 (by decide) ?_
    refine r_goto (tgt := 20) dX11_sums_13 (by decide) ?_
    refine r_istore dX11_sums_20 (by decide) rfl ?_
    refine r_iconst dX11_sums_22 ?_
    refine r_istore dX11_sums_23 (by decide) rfl ?_
    exact H

theorem vX11_sums_25 {d : Nat} {Q : ax_H → Prop} {a0 : Nat} {x1 : Int} {a2 : Nat} {x3 : Int} {a4 : Nat} {x5 : Int} {x6 : Int} {I : ax_H} (h0 : isAr a0) (h2 : isAr a2) (h4 : isAr a4) (r5 : ax_R x5) (r6 : ax_R x6) (H :
  (x5 < x6 →
    cV d kX11_trims [ax_r a0, ax_i x5] I (fun I2 =>
    Q I2)) ∧
  (¬ x5 < x6 →
    ((I a2 0) < x6 →
      ((I a4 0) < x6 →
        cI d kX11_mod [ax_i ((x1 * 0) + (x3 * 0))] I (fun w7 I6 =>
        (0 ≤ (x6 + 1) ∧ (x6 + 1) < 2500) ∧
        (ax_R w7 ∧
        (RV (d + 1) kX11_sums 25 [some (ax_r a0), some (ax_i x1), some (ax_r a2), some (ax_i x3), some (ax_r a4), some (ax_i x5), some (ax_i (x6 + 1))] (ax_st I6 a0 (x6 + 1) w7) Q)))) ∧
      (¬ (I a4 0) < x6 →
        (0 ≤ (x6 + 1) ∧ (x6 + 1) < 2500) ∧
        (cI d kX11_mod [ax_i ((x1 * 0) + (x3 * (I a4 (x6 + 1))))] I (fun w12 I11 =>
        ax_R w12 ∧
        (RV (d + 1) kX11_sums 25 [some (ax_r a0), some (ax_i x1), some (ax_r a2), some (ax_i x3), some (ax_r a4), some (ax_i x5), some (ax_i (x6 + 1))] (ax_st I11 a0 (x6 + 1) w12) Q))))) ∧
    (¬ (I a2 0) < x6 →
      (0 ≤ (x6 + 1) ∧ (x6 + 1) < 2500) ∧
      (((I a4 0) < x6 →
        cI d kX11_mod [ax_i ((x1 * (I a2 (x6 + 1))) + (x3 * 0))] I (fun w17 I16 =>
        ax_R w17 ∧
        (RV (d + 1) kX11_sums 25 [some (ax_r a0), some (ax_i x1), some (ax_r a2), some (ax_i x3), some (ax_r a4), some (ax_i x5), some (ax_i (x6 + 1))] (ax_st I16 a0 (x6 + 1) w17) Q))) ∧
      (¬ (I a4 0) < x6 →
        cI d kX11_mod [ax_i ((x1 * (I a2 (x6 + 1))) + (x3 * (I a4 (x6 + 1))))] I (fun w20 I19 =>
        ax_R w20 ∧
        (RV (d + 1) kX11_sums 25 [some (ax_r a0), some (ax_i x1), some (ax_r a2), some (ax_i x3), some (ax_r a4), some (ax_i x5), some (ax_i (x6 + 1))] (ax_st I19 a0 (x6 + 1) w20) Q))))))) :
  RV (d + 1) kX11_sums 25 [some (ax_r a0), some (ax_i x1), some (ax_r a2), some (ax_i x3), some (ax_r a4), some (ax_i x5), some (ax_i x6)] I Q := by
  show Rn _ _ _ _ _ _ _ _
  refine r_iload dX11_sums_25 rfl ?_
  refine r_iload dX11_sums_27 rfl ?_
  refine r_icmp_gt (tgt := 90) dX11_sums_29 (by decide) r6 r5 (fun c1 => ?_) (fun c1 => ?_)
  · have H := H.1 c1
    refine r_aload_n dX11_sums_90 rfl ?_
    refine r_iload dX11_sums_91 rfl ?_
    refine r_cV (as := [ax_r a0, ax_i x5]) (how_S jX11_trims jSX11_trims rfl wX11_179 dX11_sums_93) rfl (Nat.le_refl _) (Nat.le_of_ble_eq_true rfl) (fun _ => Nat.le_of_ble_eq_true rfl) H (fun I2 H => ?_)
    exact r_vret dX11_sums_96 rfl ⟨rfl, rfl, H⟩
  · have H := H.2 c1
    refine r_aload_n dX11_sums_32 rfl ?_
    refine r_iload dX11_sums_33 rfl ?_
    refine r_iconst dX11_sums_35 ?_
    refine r_iadd dX11_sums_36 ?_
    refine r_iload_n dX11_sums_37 rfl ?_
    refine r_iload dX11_sums_38 rfl ?_
    refine r_aload_n dX11_sums_40 rfl ?_
    refine r_iconst dX11_sums_41 ?_
    refine r_iald h2 (by decide) dX11_sums_42 (by decide) ?_
    refine r_heapR (fun hI3 => ?_)
    refine r_icmp_gt (tgt := 55) dX11_sums_43 (by decide) r6 (hI3 _ _) (fun c4 => ?_) (fun c4 => ?_)
    · have H := H.1 c4
      refine r_iconst dX11_sums_55 ?_
      refine r_imul dX11_sums_56 ?_
      refine r_iload_n dX11_sums_57 rfl ?_
      refine r_iload dX11_sums_58 rfl ?_
      refine r_aload dX11_sums_60 rfl ?_
      refine r_iconst dX11_sums_62 ?_
      refine r_iald h4 (by decide) dX11_sums_63 (by decide) ?_
      refine r_icmp_gt (tgt := 77) dX11_sums_64 (by decide) r6 (hI3 _ _) (fun c5 => ?_) (fun c5 => ?_)
      · have H := H.1 c5
        refine r_iconst dX11_sums_77 ?_
        refine r_imul dX11_sums_78 ?_
        refine r_iadd dX11_sums_79 ?_
        refine r_cI (as := [ax_i ((x1 * 0) + (x3 * 0))]) (how_S jX11_mod jSX11_mod rfl wX11_140 dX11_sums_80) rfl (Nat.le_refl _) (Nat.le_of_ble_eq_true rfl) (fun _ => Nat.le_of_ble_eq_true rfl) H (fun w7 I6 H => ?_)
        have ob8 := H.1
        have H := H.2
        have ob9 := H.1
        have H := H.2
        refine r_iast h0 (by decide) dX11_sums_83 ob8 ob9 ?_
        refine r_iinc dX11_sums_84 (by decide) rfl rfl ?_
        refine r_goto (tgt := 25) dX11_sums_87 (by decide) ?_
        exact H
      · have H := H.2 c5
        refine r_aload dX11_sums_67 rfl ?_
        refine r_iload dX11_sums_69 rfl ?_
        refine r_iconst dX11_sums_71 ?_
        refine r_iadd dX11_sums_72 ?_
        have ob10 := H.1
        have H := H.2
        refine r_iald h4 (by decide) dX11_sums_73 ob10 ?_
        refine r_goto (tgt := 78) dX11_sums_74 (by decide) ?_
        refine r_imul dX11_sums_78 ?_
        refine r_iadd dX11_sums_79 ?_
        refine r_cI (as := [ax_i ((x1 * 0) + (x3 * (I a4 (x6 + 1))))]) (how_S jX11_mod jSX11_mod rfl wX11_140 dX11_sums_80) rfl (Nat.le_refl _) (Nat.le_of_ble_eq_true rfl) (fun _ => Nat.le_of_ble_eq_true rfl) H (fun w12 I11 H => ?_)
        have ob13 := H.1
        have H := H.2
        refine r_iast h0 (by decide) dX11_sums_83 ob10 ob13 ?_
        refine r_iinc dX11_sums_84 (by decide) rfl rfl ?_
        refine r_goto (tgt := 25) dX11_sums_87 (by decide) ?_
        exact H
    · have H := H.2 c4
      refine r_aload_n dX11_sums_46 rfl ?_
      refine r_iload dX11_sums_47 rfl ?_
      refine r_iconst dX11_sums_49 ?_
      refine r_iadd dX11_sums_50 ?_
      have ob14 := H.1
      have H := H.2
      refine r_iald h2 (by decide) dX11_sums_51 ob14 ?_
      refine r_goto (tgt := 56) dX11_sums_52 (by decide) ?_
      refine r_imul dX11_sums_56 ?_
      refine r_iload_n dX11_sums_57 rfl ?_
      refine r_iload dX11_sums_58 rfl ?_
      refine r_aload dX11_sums_60 rfl ?_
      refine r_iconst dX11_sums_62 ?_
      refine r_iald h4 (by decide) dX11_sums_63 (by decide) ?_
      refine r_icmp_gt (tgt := 77) dX11_sums_64 (by decide) r6 (hI3 _ _) (fun c15 => ?_) (fun c15 => ?_)
      · have H := H.1 c15
        refine r_iconst dX11_sums_77 ?_
        refine r_imul dX11_sums_78 ?_
        refine r_iadd dX11_sums_79 ?_
        refine r_cI (as := [ax_i ((x1 * (I a2 (x6 + 1))) + (x3 * 0))]) (how_S jX11_mod jSX11_mod rfl wX11_140 dX11_sums_80) rfl (Nat.le_refl _) (Nat.le_of_ble_eq_true rfl) (fun _ => Nat.le_of_ble_eq_true rfl) H (fun w17 I16 H => ?_)
        have ob18 := H.1
        have H := H.2
        refine r_iast h0 (by decide) dX11_sums_83 ob14 ob18 ?_
        refine r_iinc dX11_sums_84 (by decide) rfl rfl ?_
        refine r_goto (tgt := 25) dX11_sums_87 (by decide) ?_
        exact H
      · have H := H.2 c15
        refine r_aload dX11_sums_67 rfl ?_
        refine r_iload dX11_sums_69 rfl ?_
        refine r_iconst dX11_sums_71 ?_
        refine r_iadd dX11_sums_72 ?_
        refine r_iald h4 (by decide) dX11_sums_73 ob14 ?_
        refine r_goto (tgt := 78) dX11_sums_74 (by decide) ?_
        refine r_imul dX11_sums_78 ?_
        refine r_iadd dX11_sums_79 ?_
        refine r_cI (as := [ax_i ((x1 * (I a2 (x6 + 1))) + (x3 * (I a4 (x6 + 1))))]) (how_S jX11_mod jSX11_mod rfl wX11_140 dX11_sums_80) rfl (Nat.le_refl _) (Nat.le_of_ble_eq_true rfl) (fun _ => Nat.le_of_ble_eq_true rfl) H (fun w20 I19 H => ?_)
        have ob21 := H.1
        have H := H.2
        refine r_iast h0 (by decide) dX11_sums_83 ob14 ob21 ?_
        refine r_iinc dX11_sums_84 (by decide) rfl rfl ?_
        refine r_goto (tgt := 25) dX11_sums_87 (by decide) ?_
        exact H

theorem vX11_times_0 {d : Nat} {Q : ax_H → Prop} {a0 : Nat} {a1 : Nat} {a2 : Nat} {I : ax_H} (h0 : isAr a0) (h1 : isAr a1) (h2 : isAr a2) (H :
  ((I a1 0) < 0 →
    RV (d + 1) kX11_times 27 [some (ax_r a0), some (ax_r a1), some (ax_r a2), some (ax_i (-1)), some (ax_i 0), none] I Q) ∧
  (¬ (I a1 0) < 0 →
    (0 ≤ (I a2 0) →
      ∀ y3_23, y3_23 = ((I a1 0) + (I a2 0)) →
      (RV (d + 1) kX11_times 27 [some (ax_r a0), some (ax_r a1), some (ax_r a2), some (ax_i y3_23), some (ax_i 0), none] I Q)) ∧
    (¬ 0 ≤ (I a2 0) →
      RV (d + 1) kX11_times 27 [some (ax_r a0), some (ax_r a1), some (ax_r a2), some (ax_i (-1)), some (ax_i 0), none] I Q))) :
  RV (d + 1) kX11_times 0 [some (ax_r a0), some (ax_r a1), some (ax_r a2), none, none, none] I Q := by
  show Rn _ _ _ _ _ _ _ _
  refine r_aload_n dX11_times_0 rfl ?_
  refine r_iconst dX11_times_1 ?_
  refine r_iald h1 (by decide) dX11_times_2 (by decide) ?_
  refine r_heapR (fun hI1 => ?_)
  refine r_if_lt (tgt := 12) dX11_times_3 (by decide) (hI1 _ _) (fun c2 => ?_) (fun c2 => ?_)
  · have H := H.1 c2
    refine r_iconst dX11_times_12 ?_
    refine r_goto (tgt := 23) dX11_times_13 (by decide) ?_
    refine r_istore_n dX11_times_23 (by decide) rfl ?_
    refine r_iconst dX11_times_24 ?_
    refine r_istore dX11_times_25 (by decide) rfl ?_
    exact H
  · have H := H.2 c2
    refine r_aload_n dX11_times_6 rfl ?_
    refine r_iconst dX11_times_7 ?_
    refine r_iald h2 (by decide) dX11_times_8 (by decide) ?_
    refine r_if_ge (tgt := 16) dX11_times_9 (by decide) (hI1 _ _) (fun c3 => ?_) (fun c3 => ?_)
    · have H := H.1 c3
      refine r_aload_n dX11_times_16 rfl ?_
      refine r_iconst dX11_times_17 ?_
      refine r_iald h1 (by decide) dX11_times_18 (by decide) ?_
      refine r_aload_n dX11_times_19 rfl ?_
      refine r_iconst dX11_times_20 ?_
      refine r_iald h2 (by decide) dX11_times_21 (by decide) ?_
      refine r_iadd dX11_times_22 ?_
      refine r_name (fun y3_23 e4 => ?_)
      have H := H y3_23 e4
      refine r_istore_n dX11_times_23 (by decide) rfl ?_
      refine r_iconst dX11_times_24 ?_
      refine r_istore dX11_times_25 (by decide) rfl ?_
      exact H
    · have H := H.2 c3
      refine r_iconst dX11_times_12 ?_
      refine r_goto (tgt := 23) dX11_times_13 (by decide) ?_
      refine r_istore_n dX11_times_23 (by decide) rfl ?_
      refine r_iconst dX11_times_24 ?_
      refine r_istore dX11_times_25 (by decide) rfl ?_
      exact H

theorem vX11_times_27 {d : Nat} {Q : ax_H → Prop} {a0 : Nat} {a1 : Nat} {a2 : Nat} {x3 : Int} {x4 : Int} {I : ax_H} (h0 : isAr a0) (h1 : isAr a1) (h2 : isAr a2) (r3 : ax_R x3) (r4 : ax_R x4) (H :
  (x3 < x4 →
    RV (d + 1) kX11_times 49 [some (ax_r a0), some (ax_r a1), some (ax_r a2), some (ax_i x3), some (ax_i 0), none] I Q) ∧
  (¬ x3 < x4 →
    (0 ≤ (x4 + 1) ∧ (x4 + 1) < 2500) ∧
    (RV (d + 1) kX11_times 27 [some (ax_r a0), some (ax_r a1), some (ax_r a2), some (ax_i x3), some (ax_i (x4 + 1)), none] (ax_st I a0 (x4 + 1) 0) Q))) :
  RV (d + 1) kX11_times 27 [some (ax_r a0), some (ax_r a1), some (ax_r a2), some (ax_i x3), some (ax_i x4), none] I Q := by
  show Rn _ _ _ _ _ _ _ _
  refine r_iload dX11_times_27 rfl ?_
  refine r_iload_n dX11_times_29 rfl ?_
  refine r_icmp_gt (tgt := 46) dX11_times_30 (by decide) r4 r3 (fun c1 => ?_) (fun c1 => ?_)
  · have H := H.1 c1
    refine r_iconst dX11_times_46 ?_
    refine r_istore dX11_times_47 (by decide) rfl ?_
    exact H
  · have H := H.2 c1
    refine r_aload_n dX11_times_33 rfl ?_
    refine r_iload dX11_times_34 rfl ?_
    refine r_iconst dX11_times_36 ?_
    refine r_iadd dX11_times_37 ?_
    refine r_iconst dX11_times_38 ?_
    have ob2 := H.1
    have H := H.2
    refine r_iast h0 (by decide) dX11_times_39 ob2 (by decide) ?_
    refine r_iinc dX11_times_40 (by decide) rfl rfl ?_
    refine r_goto (tgt := 27) dX11_times_43 (by decide) ?_
    exact H

theorem vX11_times_49 {d : Nat} {Q : ax_H → Prop} {a0 : Nat} {a1 : Nat} {a2 : Nat} {x3 : Int} {x4 : Int} {I : ax_H} (h0 : isAr a0) (h1 : isAr a1) (h2 : isAr a2) (r4 : ax_R x4) (H :
  ((I a1 0) < x4 →
    cV d kX11_trims [ax_r a0, ax_i x3] I (fun I3 =>
    Q I3)) ∧
  (¬ (I a1 0) < x4 →
    RV (d + 1) kX11_times 60 [some (ax_r a0), some (ax_r a1), some (ax_r a2), some (ax_i x3), some (ax_i x4), some (ax_i 0)] I Q)) :
  RV (d + 1) kX11_times 49 [some (ax_r a0), some (ax_r a1), some (ax_r a2), some (ax_i x3), some (ax_i x4), none] I Q := by
  show Rn _ _ _ _ _ _ _ _
  refine r_iload dX11_times_49 rfl ?_
  refine r_aload_n dX11_times_51 rfl ?_
  refine r_iconst dX11_times_52 ?_
  refine r_iald h1 (by decide) dX11_times_53 (by decide) ?_
  refine r_heapR (fun hI1 => ?_)
  refine r_icmp_gt (tgt := 115) dX11_times_54 (by decide) r4 (hI1 _ _) (fun c2 => ?_) (fun c2 => ?_)
  · have H := H.1 c2
    refine r_aload_n dX11_times_115 rfl ?_
    refine r_iload_n dX11_times_116 rfl ?_
    refine r_cV (as := [ax_r a0, ax_i x3]) (how_S jX11_trims jSX11_trims rfl wX11_179 dX11_times_117) rfl (Nat.le_refl _) (Nat.le_of_ble_eq_true rfl) (fun _ => Nat.le_of_ble_eq_true rfl) H (fun I3 H => ?_)
    exact r_vret dX11_times_120 rfl ⟨rfl, rfl, H⟩
  · have H := H.2 c2
    refine r_iconst dX11_times_57 ?_
    refine r_istore dX11_times_58 (by decide) rfl ?_
    exact H

theorem vX11_times_60 {d : Nat} {Q : ax_H → Prop} {a0 : Nat} {a1 : Nat} {a2 : Nat} {x3 : Int} {x4 : Int} {x5 : Int} {I : ax_H} (h0 : isAr a0) (h1 : isAr a1) (h2 : isAr a2) (r5 : ax_R x5) (H :
  ((I a2 0) < x5 →
    RV (d + 1) kX11_times 49 [some (ax_r a0), some (ax_r a1), some (ax_r a2), some (ax_i x3), some (ax_i (x4 + 1)), none] I Q) ∧
  (¬ (I a2 0) < x5 →
    (0 ≤ ((x4 + x5) + 1) ∧ ((x4 + x5) + 1) < 2500) ∧
    ((0 ≤ (x4 + 1) ∧ (x4 + 1) < 2500) ∧
    ((0 ≤ (x5 + 1) ∧ (x5 + 1) < 2500) ∧
    ((0 ≤ ((I a0 ((x4 + x5) + 1)) + ((I a1 (x4 + 1)) * (I a2 (x5 + 1)))) ∧ ((I a0 ((x4 + x5) + 1)) + ((I a1 (x4 + 1)) * (I a2 (x5 + 1)))) < 2147483648) ∧
    (RV (d + 1) kX11_times 60 [some (ax_r a0), some (ax_r a1), some (ax_r a2), some (ax_i x3), some (ax_i x4), some (ax_i (x5 + 1))] (ax_st I a0 ((x4 + x5) + 1) (((I a0 ((x4 + x5) + 1)) + ((I a1 (x4 + 1)) * (I a2 (x5 + 1)))) % 31)) Q)))))) :
  RV (d + 1) kX11_times 60 [some (ax_r a0), some (ax_r a1), some (ax_r a2), some (ax_i x3), some (ax_i x4), some (ax_i x5)] I Q := by
  show Rn _ _ _ _ _ _ _ _
  refine r_iload dX11_times_60 rfl ?_
  refine r_aload_n dX11_times_62 rfl ?_
  refine r_iconst dX11_times_63 ?_
  refine r_iald h2 (by decide) dX11_times_64 (by decide) ?_
  refine r_heapR (fun hI1 => ?_)
  refine r_icmp_gt (tgt := 109) dX11_times_65 (by decide) r5 (hI1 _ _) (fun c2 => ?_) (fun c2 => ?_)
  · have H := H.1 c2
    refine r_iinc dX11_times_109 (by decide) rfl rfl ?_
    refine r_goto (tgt := 49) dX11_times_112 (by decide) ?_
    refine r_drop (ls2 := [some (ax_r a0), some (ax_r a1), some (ax_r a2), some (ax_i x3), some (ax_i (x4 + 1)), none]) ?_ (ax_leS (ax_leS (ax_leS (ax_leS (ax_leS (ax_leN ax_leE))))))
    exact H
  · have H := H.2 c2
    refine r_aload_n dX11_times_68 rfl ?_
    refine r_iload dX11_times_69 rfl ?_
    refine r_iload dX11_times_71 rfl ?_
    refine r_iadd dX11_times_73 ?_
    refine r_iconst dX11_times_74 ?_
    refine r_iadd dX11_times_75 ?_
    refine r_aload_n dX11_times_76 rfl ?_
    refine r_iload dX11_times_77 rfl ?_
    refine r_iload dX11_times_79 rfl ?_
    refine r_iadd dX11_times_81 ?_
    refine r_iconst dX11_times_82 ?_
    refine r_iadd dX11_times_83 ?_
    have ob3 := H.1
    have H := H.2
    refine r_iald h0 (by decide) dX11_times_84 ob3 ?_
    refine r_aload_n dX11_times_85 rfl ?_
    refine r_iload dX11_times_86 rfl ?_
    refine r_iconst dX11_times_88 ?_
    refine r_iadd dX11_times_89 ?_
    have ob4 := H.1
    have H := H.2
    refine r_iald h1 (by decide) dX11_times_90 ob4 ?_
    refine r_aload_n dX11_times_91 rfl ?_
    refine r_iload dX11_times_92 rfl ?_
    refine r_iconst dX11_times_94 ?_
    refine r_iadd dX11_times_95 ?_
    have ob5 := H.1
    have H := H.2
    refine r_iald h2 (by decide) dX11_times_96 ob5 ?_
    refine r_imul dX11_times_97 ?_
    refine r_iadd dX11_times_98 ?_
    refine r_bipush (v := 31) dX11_times_99 (by decide) ?_
    have ob6 := H.1
    have H := H.2
    refine r_iremp dX11_times_101 ob6 (by decide) ?_
    refine r_iast h0 (by decide) dX11_times_102 ob3 ⟨by omega, by omega⟩ ?_
    refine r_iinc dX11_times_103 (by decide) rfl rfl ?_
    refine r_goto (tgt := 60) dX11_times_106 (by decide) ?_
    exact H

theorem vX11_divides_0 {d : Nat} {Q : ax_H → Prop} {a0 : Nat} {a1 : Nat} {a2 : Nat} {I : ax_H} (h0 : isAr a0) (h1 : isAr a1) (h2 : isAr a2) (H :
  ∀ y3_7, y3_7 = ((I a0 0) - (I a1 0)) →
  (RV (d + 1) kX11_divides 11 [some (ax_r a0), some (ax_r a1), some (ax_r a2), some (ax_i y3_7), some (ax_i 0), none, none, none] I Q)) :
  RV (d + 1) kX11_divides 0 [some (ax_r a0), some (ax_r a1), some (ax_r a2), none, none, none, none, none] I Q := by
  show Rn _ _ _ _ _ _ _ _
  refine r_aload_n dX11_divides_0 rfl ?_
  refine r_iconst dX11_divides_1 ?_
  refine r_iald h0 (by decide) dX11_divides_2 (by decide) ?_
  refine r_aload_n dX11_divides_3 rfl ?_
  refine r_iconst dX11_divides_4 ?_
  refine r_iald h1 (by decide) dX11_divides_5 (by decide) ?_
  refine r_isub dX11_divides_6 ?_
  refine r_name (fun y3_7 e1 => ?_)
  have H := H y3_7 e1
  refine r_istore_n dX11_divides_7 (by decide) rfl ?_
  refine r_iconst dX11_divides_8 ?_
  refine r_istore dX11_divides_9 (by decide) rfl ?_
  exact H

theorem vX11_divides_11 {d : Nat} {Q : ax_H → Prop} {a0 : Nat} {a1 : Nat} {a2 : Nat} {x3 : Int} {x4 : Int} {I : ax_H} (h0 : isAr a0) (h1 : isAr a1) (h2 : isAr a2) (r3 : ax_R x3) (r4 : ax_R x4) (H :
  (x3 < x4 →
    (0 ≤ x3 →
      (0 ≤ (((ax_st I a2 0 x3) a1 0) + 1) ∧ (((ax_st I a2 0 x3) a1 0) + 1) < 2500) ∧
      (cI d kX11_inverse [ax_i ((ax_st I a2 0 x3) a1 (((ax_st I a2 0 x3) a1 0) + 1))] (ax_st I a2 0 x3) (fun w5 I4 =>
      RV (d + 1) kX11_divides 54 [some (ax_r a0), some (ax_r a1), some (ax_r a2), none, some (ax_i w5), none, none, none] I4 Q))) ∧
    (¬ 0 ≤ x3 →
      (0 ≤ (((ax_st I a2 0 (-1)) a1 0) + 1) ∧ (((ax_st I a2 0 (-1)) a1 0) + 1) < 2500) ∧
      (cI d kX11_inverse [ax_i ((ax_st I a2 0 (-1)) a1 (((ax_st I a2 0 (-1)) a1 0) + 1))] (ax_st I a2 0 (-1)) (fun w8 I7 =>
      RV (d + 1) kX11_divides 54 [some (ax_r a0), some (ax_r a1), some (ax_r a2), none, some (ax_i w8), none, none, none] I7 Q)))) ∧
  (¬ x3 < x4 →
    (0 ≤ (x4 + 1) ∧ (x4 + 1) < 2500) ∧
    (RV (d + 1) kX11_divides 11 [some (ax_r a0), some (ax_r a1), some (ax_r a2), some (ax_i x3), some (ax_i (x4 + 1)), none, none, none] (ax_st I a2 (x4 + 1) 0) Q))) :
  RV (d + 1) kX11_divides 11 [some (ax_r a0), some (ax_r a1), some (ax_r a2), some (ax_i x3), some (ax_i x4), none, none, none] I Q := by
  show Rn _ _ _ _ _ _ _ _
  refine r_iload dX11_divides_11 rfl ?_
  refine r_iload_n dX11_divides_13 rfl ?_
  refine r_icmp_gt (tgt := 30) dX11_divides_14 (by decide) r4 r3 (fun c1 => ?_) (fun c1 => ?_)
  · have H := H.1 c1
    refine r_aload_n dX11_divides_30 rfl ?_
    refine r_iconst dX11_divides_31 ?_
    refine r_iload_n dX11_divides_32 rfl ?_
    refine r_if_ge (tgt := 40) dX11_divides_33 (by decide) r3 (fun c2 => ?_) (fun c2 => ?_)
    · have H := H.1 c2
      refine r_iload_n dX11_divides_40 rfl ?_
      refine r_iast h2 (by decide) dX11_divides_41 (by decide) r3 ?_
      refine r_aload_n dX11_divides_42 rfl ?_
      refine r_aload_n dX11_divides_43 rfl ?_
      refine r_iconst dX11_divides_44 ?_
      refine r_iald h1 (by decide) dX11_divides_45 (by decide) ?_
      refine r_iconst dX11_divides_46 ?_
      refine r_iadd dX11_divides_47 ?_
      have ob3 := H.1
      have H := H.2
      refine r_iald h1 (by decide) dX11_divides_48 ob3 ?_
      refine r_cI (as := [ax_i ((ax_st I a2 0 x3) a1 (((ax_st I a2 0 x3) a1 0) + 1))]) (how_S jX11_inverse jSX11_inverse rfl wX11_93 dX11_divides_49) rfl (Nat.le_refl _) (Nat.le_of_ble_eq_true rfl) (fun _ => Nat.le_of_ble_eq_true rfl) H (fun w5 I4 H => ?_)
      refine r_istore dX11_divides_52 (by decide) rfl ?_
      refine r_drop (ls2 := [some (ax_r a0), some (ax_r a1), some (ax_r a2), none, some (ax_i w5), none, none, none]) ?_ (ax_leS (ax_leS (ax_leS (ax_leN (ax_leS (ax_leN (ax_leN (ax_leN ax_leE))))))))
      exact H
    · have H := H.2 c2
      refine r_iconst dX11_divides_36 ?_
      refine r_goto (tgt := 41) dX11_divides_37 (by decide) ?_
      refine r_iast h2 (by decide) dX11_divides_41 (by decide) (by decide) ?_
      refine r_aload_n dX11_divides_42 rfl ?_
      refine r_aload_n dX11_divides_43 rfl ?_
      refine r_iconst dX11_divides_44 ?_
      refine r_iald h1 (by decide) dX11_divides_45 (by decide) ?_
      refine r_iconst dX11_divides_46 ?_
      refine r_iadd dX11_divides_47 ?_
      have ob6 := H.1
      have H := H.2
      refine r_iald h1 (by decide) dX11_divides_48 ob6 ?_
      refine r_cI (as := [ax_i ((ax_st I a2 0 (-1)) a1 (((ax_st I a2 0 (-1)) a1 0) + 1))]) (how_S jX11_inverse jSX11_inverse rfl wX11_93 dX11_divides_49) rfl (Nat.le_refl _) (Nat.le_of_ble_eq_true rfl) (fun _ => Nat.le_of_ble_eq_true rfl) H (fun w8 I7 H => ?_)
      refine r_istore dX11_divides_52 (by decide) rfl ?_
      refine r_drop (ls2 := [some (ax_r a0), some (ax_r a1), some (ax_r a2), none, some (ax_i w8), none, none, none]) ?_ (ax_leS (ax_leS (ax_leS (ax_leN (ax_leS (ax_leN (ax_leN (ax_leN ax_leE))))))))
      exact H
  · have H := H.2 c1
    refine r_aload_n dX11_divides_17 rfl ?_
    refine r_iload dX11_divides_18 rfl ?_
    refine r_iconst dX11_divides_20 ?_
    refine r_iadd dX11_divides_21 ?_
    refine r_iconst dX11_divides_22 ?_
    have ob9 := H.1
    have H := H.2
    refine r_iast h2 (by decide) dX11_divides_23 ob9 (by decide) ?_
    refine r_iinc dX11_divides_24 (by decide) rfl rfl ?_
    refine r_goto (tgt := 11) dX11_divides_27 (by decide) ?_
    exact H

theorem vX11_divides_54 {d : Nat} {Q : ax_H → Prop} {a0 : Nat} {a1 : Nat} {a2 : Nat} {x4 : Int} {I : ax_H} (h0 : isAr a0) (h1 : isAr a1) (h2 : isAr a2) (H :
  ((I a0 0) < (I a1 0) →
    Q I) ∧
  (¬ (I a0 0) < (I a1 0) →
    (0 ≤ ((I a0 0) + 1) ∧ ((I a0 0) + 1) < 2500) ∧
    ((0 ≤ ((I a0 ((I a0 0) + 1)) * x4) ∧ ((I a0 ((I a0 0) + 1)) * x4) < 2147483648) ∧
    (∀ y5_76, y5_76 = (((I a0 ((I a0 0) + 1)) * x4) % 31) →
    (∀ y6_85, y6_85 = ((I a0 0) - (I a1 0)) →
    ((0 ≤ (y6_85 + 1) ∧ (y6_85 + 1) < 2500) ∧
    (ax_R y5_76 ∧
    (RV (d + 1) kX11_divides 98 [some (ax_r a0), some (ax_r a1), some (ax_r a2), none, some (ax_i x4), some (ax_i y5_76), some (ax_i y6_85), some (ax_i 0)] (ax_st I a2 (y6_85 + 1) y5_76) Q)))))))) :
  RV (d + 1) kX11_divides 54 [some (ax_r a0), some (ax_r a1), some (ax_r a2), none, some (ax_i x4), none, none, none] I Q := by
  show Rn _ _ _ _ _ _ _ _
  refine r_aload_n dX11_divides_54 rfl ?_
  refine r_iconst dX11_divides_55 ?_
  refine r_iald h0 (by decide) dX11_divides_56 (by decide) ?_
  refine r_aload_n dX11_divides_57 rfl ?_
  refine r_iconst dX11_divides_58 ?_
  refine r_iald h1 (by decide) dX11_divides_59 (by decide) ?_
  refine r_heapR (fun hI1 => ?_)
  refine r_icmp_lt (tgt := 153) dX11_divides_60 (by decide) (hI1 _ _) (hI1 _ _) (fun c2 => ?_) (fun c2 => ?_)
  · have H := H.1 c2
    exact r_vret dX11_divides_153 rfl ⟨rfl, rfl, H⟩
  · have H := H.2 c2
    refine r_aload_n dX11_divides_63 rfl ?_
    refine r_aload_n dX11_divides_64 rfl ?_
    refine r_iconst dX11_divides_65 ?_
    refine r_iald h0 (by decide) dX11_divides_66 (by decide) ?_
    refine r_iconst dX11_divides_67 ?_
    refine r_iadd dX11_divides_68 ?_
    have ob3 := H.1
    have H := H.2
    refine r_iald h0 (by decide) dX11_divides_69 ob3 ?_
    refine r_iload dX11_divides_70 rfl ?_
    refine r_imul dX11_divides_72 ?_
    refine r_bipush (v := 31) dX11_divides_73 (by decide) ?_
    have ob4 := H.1
    have H := H.2
    refine r_iremp dX11_divides_75 ob4 (by decide) ?_
    refine r_name (fun y5_76 e5 => ?_)
    have H := H y5_76 e5
    refine r_istore dX11_divides_76 (by decide) rfl ?_
    refine r_aload_n dX11_divides_78 rfl ?_
    refine r_iconst dX11_divides_79 ?_
    refine r_iald h0 (by decide) dX11_divides_80 (by decide) ?_
    refine r_aload_n dX11_divides_81 rfl ?_
    refine r_iconst dX11_divides_82 ?_
    refine r_iald h1 (by decide) dX11_divides_83 (by decide) ?_
    refine r_isub dX11_divides_84 ?_
    refine r_name (fun y6_85 e6 => ?_)
    have H := H y6_85 e6
    refine r_istore dX11_divides_85 (by decide) rfl ?_
    refine r_aload_n dX11_divides_87 rfl ?_
    refine r_iload dX11_divides_88 rfl ?_
    refine r_iconst dX11_divides_90 ?_
    refine r_iadd dX11_divides_91 ?_
    refine r_iload dX11_divides_92 rfl ?_
    have ob7 := H.1
    have H := H.2
    have ob8 := H.1
    have H := H.2
    refine r_iast h2 (by decide) dX11_divides_94 ob7 ob8 ?_
    refine r_iconst dX11_divides_95 ?_
    refine r_istore dX11_divides_96 (by decide) rfl ?_
    exact H

theorem vX11_divides_98 {d : Nat} {Q : ax_H → Prop} {a0 : Nat} {a1 : Nat} {a2 : Nat} {x4 : Int} {x5 : Int} {x6 : Int} {x7 : Int} {I : ax_H} (h0 : isAr a0) (h1 : isAr a1) (h2 : isAr a2) (r7 : ax_R x7) (H :
  ((I a1 0) < x7 →
    cV d kX11_trims [ax_r a0, ax_i (I a0 0)] I (fun I3 =>
    RV (d + 1) kX11_divides 54 [some (ax_r a0), some (ax_r a1), some (ax_r a2), none, some (ax_i x4), none, none, none] I3 Q)) ∧
  (¬ (I a1 0) < x7 →
    (0 ≤ ((x6 + x7) + 1) ∧ ((x6 + x7) + 1) < 2500) ∧
    ((0 ≤ (x7 + 1) ∧ (x7 + 1) < 2500) ∧
    (cI d kX11_mod [ax_i ((I a0 ((x6 + x7) + 1)) - (x5 * (I a1 (x7 + 1))))] I (fun w7 I6 =>
    ax_R w7 ∧
    (RV (d + 1) kX11_divides 98 [some (ax_r a0), some (ax_r a1), some (ax_r a2), none, some (ax_i x4), some (ax_i x5), some (ax_i x6), some (ax_i (x7 + 1))] (ax_st I6 a0 ((x6 + x7) + 1) w7) Q)))))) :
  RV (d + 1) kX11_divides 98 [some (ax_r a0), some (ax_r a1), some (ax_r a2), none, some (ax_i x4), some (ax_i x5), some (ax_i x6), some (ax_i x7)] I Q := by
  show Rn _ _ _ _ _ _ _ _
  refine r_iload dX11_divides_98 rfl ?_
  refine r_aload_n dX11_divides_100 rfl ?_
  refine r_iconst dX11_divides_101 ?_
  refine r_iald h1 (by decide) dX11_divides_102 (by decide) ?_
  refine r_heapR (fun hI1 => ?_)
  refine r_icmp_gt (tgt := 143) dX11_divides_103 (by decide) r7 (hI1 _ _) (fun c2 => ?_) (fun c2 => ?_)
  · have H := H.1 c2
    refine r_aload_n dX11_divides_143 rfl ?_
    refine r_aload_n dX11_divides_144 rfl ?_
    refine r_iconst dX11_divides_145 ?_
    refine r_iald h0 (by decide) dX11_divides_146 (by decide) ?_
    refine r_cV (as := [ax_r a0, ax_i (I a0 0)]) (how_S jX11_trims jSX11_trims rfl wX11_179 dX11_divides_147) rfl (Nat.le_refl _) (Nat.le_of_ble_eq_true rfl) (fun _ => Nat.le_of_ble_eq_true rfl) H (fun I3 H => ?_)
    refine r_goto (tgt := 54) dX11_divides_150 (by decide) ?_
    refine r_drop (ls2 := [some (ax_r a0), some (ax_r a1), some (ax_r a2), none, some (ax_i x4), none, none, none]) ?_ (ax_leS (ax_leS (ax_leS (ax_leN (ax_leS (ax_leN (ax_leN (ax_leN ax_leE))))))))
    exact H
  · have H := H.2 c2
    refine r_aload_n dX11_divides_106 rfl ?_
    refine r_iload dX11_divides_107 rfl ?_
    refine r_iload dX11_divides_109 rfl ?_
    refine r_iadd dX11_divides_111 ?_
    refine r_iconst dX11_divides_112 ?_
    refine r_iadd dX11_divides_113 ?_
    refine r_aload_n dX11_divides_114 rfl ?_
    refine r_iload dX11_divides_115 rfl ?_
    refine r_iload dX11_divides_117 rfl ?_
    refine r_iadd dX11_divides_119 ?_
    refine r_iconst dX11_divides_120 ?_
    refine r_iadd dX11_divides_121 ?_
    have ob4 := H.1
    have H := H.2
    refine r_iald h0 (by decide) dX11_divides_122 ob4 ?_
    refine r_iload dX11_divides_123 rfl ?_
    refine r_aload_n dX11_divides_125 rfl ?_
    refine r_iload dX11_divides_126 rfl ?_
    refine r_iconst dX11_divides_128 ?_
    refine r_iadd dX11_divides_129 ?_
    have ob5 := H.1
    have H := H.2
    refine r_iald h1 (by decide) dX11_divides_130 ob5 ?_
    refine r_imul dX11_divides_131 ?_
    refine r_isub dX11_divides_132 ?_
    refine r_cI (as := [ax_i ((I a0 ((x6 + x7) + 1)) - (x5 * (I a1 (x7 + 1))))]) (how_S jX11_mod jSX11_mod rfl wX11_140 dX11_divides_133) rfl (Nat.le_refl _) (Nat.le_of_ble_eq_true rfl) (fun _ => Nat.le_of_ble_eq_true rfl) H (fun w7 I6 H => ?_)
    have ob8 := H.1
    have H := H.2
    refine r_iast h0 (by decide) dX11_divides_136 ob4 ob8 ?_
    refine r_iinc dX11_divides_137 (by decide) rfl rfl ?_
    refine r_goto (tgt := 98) dX11_divides_140 (by decide) ?_
    exact H

theorem vX11_lowers_0 {d : Nat} {Q : ax_H → Prop} {a1 : Nat} {a2 : Nat} {I : ax_H} (h1 : isAr a1) (h2 : isAr a2) (H :
  cV (d + 1) kX11_becomes [ax_r 107, ax_r a1] I (fun I1 =>
  cV (d + 1) kX11_becomes [ax_r 108, ax_r a2] I1 (fun I2 =>
  RV (d + 2) kX11_lowers 16 [some (ax_r 85), some (ax_r a1), some (ax_r a2)] I2 Q))) :
  RV (d + 2) kX11_lowers 0 [some (ax_r 85), some (ax_r a1), some (ax_r a2)] I Q := by
  show Rn _ _ _ _ _ _ _ _
  refine r_aload_n dX11_lowers_0 rfl ?_
  refine r_getR clX11 16 (by decide) s0_85 rfl rfl wX11_60 dX11_lowers_1 ?_
  refine r_aload_n dX11_lowers_4 rfl ?_
  refine r_cV (as := [ax_r 107, ax_r a1]) (how_S jX11_becomes jSX11_becomes rfl wX11_183 dX11_lowers_5) rfl (Nat.le_refl _) (Nat.le_of_ble_eq_true rfl) (fun _ => Nat.le_of_ble_eq_true rfl) H (fun I1 H => ?_)
  refine r_aload_n dX11_lowers_8 rfl ?_
  refine r_getR clX11 17 (by decide) s0_85 rfl rfl wX11_63 dX11_lowers_9 ?_
  refine r_aload_n dX11_lowers_12 rfl ?_
  refine r_cV (as := [ax_r 108, ax_r a2]) (how_S jX11_becomes jSX11_becomes rfl wX11_183 dX11_lowers_13) rfl (Nat.le_refl _) (Nat.le_of_ble_eq_true rfl) (fun _ => Nat.le_of_ble_eq_true rfl) H (fun I2 H => ?_)
  exact H

theorem vX11_lowers_16 {d : Nat} {Q : ax_H → Prop} {a1 : Nat} {a2 : Nat} {I : ax_H} (h1 : isAr a1) (h2 : isAr a2) (H :
  ((I 108 0) < 0 →
    cV (d + 1) kX11_becomes [ax_r 108, ax_r a1] I (fun I3 =>
    cV (d + 1) kX11_divides [ax_r 108, ax_r 107, ax_r 109] I3 (fun I4 =>
    cV (d + 1) kX11_becomes [ax_r a1, ax_r 109] I4 (fun I5 =>
    cV (d + 1) kX11_becomes [ax_r 108, ax_r a2] I5 (fun I6 =>
    cV (d + 1) kX11_divides [ax_r 108, ax_r 107, ax_r 109] I6 (fun I7 =>
    cV (d + 1) kX11_becomes [ax_r a2, ax_r 109] I7 (fun I8 =>
    Q I8))))))) ∧
  (¬ (I 108 0) < 0 →
    cV (d + 1) kX11_divides [ax_r 107, ax_r 108, ax_r 109] I (fun I9 =>
    cV (d + 1) kX11_becomes [ax_r 109, ax_r 107] I9 (fun I10 =>
    cV (d + 1) kX11_becomes [ax_r 107, ax_r 108] I10 (fun I11 =>
    cV (d + 1) kX11_becomes [ax_r 108, ax_r 109] I11 (fun I12 =>
    RV (d + 2) kX11_lowers 16 [some (ax_r 85), some (ax_r a1), some (ax_r a2)] I12 Q)))))) :
  RV (d + 2) kX11_lowers 16 [some (ax_r 85), some (ax_r a1), some (ax_r a2)] I Q := by
  show Rn _ _ _ _ _ _ _ _
  refine r_aload_n dX11_lowers_16 rfl ?_
  refine r_getR clX11 17 (by decide) s0_85 rfl rfl wX11_63 dX11_lowers_17 ?_
  refine r_iconst dX11_lowers_20 ?_
  refine r_iald s0_108 (by decide) dX11_lowers_21 (by decide) ?_
  refine r_heapR (fun hI1 => ?_)
  refine r_if_lt (tgt := 76) dX11_lowers_22 (by decide) (hI1 _ _) (fun c2 => ?_) (fun c2 => ?_)
  · have H := H.1 c2
    refine r_aload_n dX11_lowers_76 rfl ?_
    refine r_getR clX11 17 (by decide) s0_85 rfl rfl wX11_63 dX11_lowers_77 ?_
    refine r_aload_n dX11_lowers_80 rfl ?_
    refine r_cV (as := [ax_r 108, ax_r a1]) (how_S jX11_becomes jSX11_becomes rfl wX11_183 dX11_lowers_81) rfl (Nat.le_refl _) (Nat.le_of_ble_eq_true rfl) (fun _ => Nat.le_of_ble_eq_true rfl) H (fun I3 H => ?_)
    refine r_aload_n dX11_lowers_84 rfl ?_
    refine r_getR clX11 17 (by decide) s0_85 rfl rfl wX11_63 dX11_lowers_85 ?_
    refine r_aload_n dX11_lowers_88 rfl ?_
    refine r_getR clX11 16 (by decide) s0_85 rfl rfl wX11_60 dX11_lowers_89 ?_
    refine r_aload_n dX11_lowers_92 rfl ?_
    refine r_getR clX11 18 (by decide) s0_85 rfl rfl wX11_66 dX11_lowers_93 ?_
    refine r_cV (as := [ax_r 108, ax_r 107, ax_r 109]) (how_S jX11_divides jSX11_divides rfl wX11_187 dX11_lowers_96) rfl (Nat.le_refl _) (Nat.le_of_ble_eq_true rfl) (fun _ => Nat.le_of_ble_eq_true rfl) H (fun I4 H => ?_)
    refine r_aload_n dX11_lowers_99 rfl ?_
    refine r_aload_n dX11_lowers_100 rfl ?_
    refine r_getR clX11 18 (by decide) s0_85 rfl rfl wX11_66 dX11_lowers_101 ?_
    refine r_cV (as := [ax_r a1, ax_r 109]) (how_S jX11_becomes jSX11_becomes rfl wX11_183 dX11_lowers_104) rfl (Nat.le_refl _) (Nat.le_of_ble_eq_true rfl) (fun _ => Nat.le_of_ble_eq_true rfl) H (fun I5 H => ?_)
    refine r_aload_n dX11_lowers_107 rfl ?_
    refine r_getR clX11 17 (by decide) s0_85 rfl rfl wX11_63 dX11_lowers_108 ?_
    refine r_aload_n dX11_lowers_111 rfl ?_
    refine r_cV (as := [ax_r 108, ax_r a2]) (how_S jX11_becomes jSX11_becomes rfl wX11_183 dX11_lowers_112) rfl (Nat.le_refl _) (Nat.le_of_ble_eq_true rfl) (fun _ => Nat.le_of_ble_eq_true rfl) H (fun I6 H => ?_)
    refine r_aload_n dX11_lowers_115 rfl ?_
    refine r_getR clX11 17 (by decide) s0_85 rfl rfl wX11_63 dX11_lowers_116 ?_
    refine r_aload_n dX11_lowers_119 rfl ?_
    refine r_getR clX11 16 (by decide) s0_85 rfl rfl wX11_60 dX11_lowers_120 ?_
    refine r_aload_n dX11_lowers_123 rfl ?_
    refine r_getR clX11 18 (by decide) s0_85 rfl rfl wX11_66 dX11_lowers_124 ?_
    refine r_cV (as := [ax_r 108, ax_r 107, ax_r 109]) (how_S jX11_divides jSX11_divides rfl wX11_187 dX11_lowers_127) rfl (Nat.le_refl _) (Nat.le_of_ble_eq_true rfl) (fun _ => Nat.le_of_ble_eq_true rfl) H (fun I7 H => ?_)
    refine r_aload_n dX11_lowers_130 rfl ?_
    refine r_aload_n dX11_lowers_131 rfl ?_
    refine r_getR clX11 18 (by decide) s0_85 rfl rfl wX11_66 dX11_lowers_132 ?_
    refine r_cV (as := [ax_r a2, ax_r 109]) (how_S jX11_becomes jSX11_becomes rfl wX11_183 dX11_lowers_135) rfl (Nat.le_refl _) (Nat.le_of_ble_eq_true rfl) (fun _ => Nat.le_of_ble_eq_true rfl) H (fun I8 H => ?_)
    exact r_vret dX11_lowers_138 rfl ⟨rfl, rfl, H⟩
  · have H := H.2 c2
    refine r_aload_n dX11_lowers_25 rfl ?_
    refine r_getR clX11 16 (by decide) s0_85 rfl rfl wX11_60 dX11_lowers_26 ?_
    refine r_aload_n dX11_lowers_29 rfl ?_
    refine r_getR clX11 17 (by decide) s0_85 rfl rfl wX11_63 dX11_lowers_30 ?_
    refine r_aload_n dX11_lowers_33 rfl ?_
    refine r_getR clX11 18 (by decide) s0_85 rfl rfl wX11_66 dX11_lowers_34 ?_
    refine r_cV (as := [ax_r 107, ax_r 108, ax_r 109]) (how_S jX11_divides jSX11_divides rfl wX11_187 dX11_lowers_37) rfl (Nat.le_refl _) (Nat.le_of_ble_eq_true rfl) (fun _ => Nat.le_of_ble_eq_true rfl) H (fun I9 H => ?_)
    refine r_aload_n dX11_lowers_40 rfl ?_
    refine r_getR clX11 18 (by decide) s0_85 rfl rfl wX11_66 dX11_lowers_41 ?_
    refine r_aload_n dX11_lowers_44 rfl ?_
    refine r_getR clX11 16 (by decide) s0_85 rfl rfl wX11_60 dX11_lowers_45 ?_
    refine r_cV (as := [ax_r 109, ax_r 107]) (how_S jX11_becomes jSX11_becomes rfl wX11_183 dX11_lowers_48) rfl (Nat.le_refl _) (Nat.le_of_ble_eq_true rfl) (fun _ => Nat.le_of_ble_eq_true rfl) H (fun I10 H => ?_)
    refine r_aload_n dX11_lowers_51 rfl ?_
    refine r_getR clX11 16 (by decide) s0_85 rfl rfl wX11_60 dX11_lowers_52 ?_
    refine r_aload_n dX11_lowers_55 rfl ?_
    refine r_getR clX11 17 (by decide) s0_85 rfl rfl wX11_63 dX11_lowers_56 ?_
    refine r_cV (as := [ax_r 107, ax_r 108]) (how_S jX11_becomes jSX11_becomes rfl wX11_183 dX11_lowers_59) rfl (Nat.le_refl _) (Nat.le_of_ble_eq_true rfl) (fun _ => Nat.le_of_ble_eq_true rfl) H (fun I11 H => ?_)
    refine r_aload_n dX11_lowers_62 rfl ?_
    refine r_getR clX11 17 (by decide) s0_85 rfl rfl wX11_63 dX11_lowers_63 ?_
    refine r_aload_n dX11_lowers_66 rfl ?_
    refine r_getR clX11 18 (by decide) s0_85 rfl rfl wX11_66 dX11_lowers_67 ?_
    refine r_cV (as := [ax_r 108, ax_r 109]) (how_S jX11_becomes jSX11_becomes rfl wX11_183 dX11_lowers_70) rfl (Nat.le_refl _) (Nat.le_of_ble_eq_true rfl) (fun _ => Nat.le_of_ble_eq_true rfl) H (fun I12 H => ?_)
    refine r_goto (tgt := 16) dX11_lowers_73 (by decide) ?_
    exact H

theorem vX11_rowsAt_0 {d : Nat} {Q : ax_H → Prop} {x1 : Int} {a2 : Nat} {a3 : Nat} {I : ax_H} (h2 : isAr a2) (h3 : isAr a3) (H :
  RV (d + 2) kX11_rowsAt 3 [some (ax_r 85), some (ax_i x1), some (ax_r a2), some (ax_r a3), some (ax_i 0), none, none, none, none] I Q) :
  RV (d + 2) kX11_rowsAt 0 [some (ax_r 85), some (ax_i x1), some (ax_r a2), some (ax_r a3), none, none, none, none, none] I Q := by
  show Rn _ _ _ _ _ _ _ _
  refine r_iconst dX11_rowsAt_0 ?_
  refine r_istore dX11_rowsAt_1 (by decide) rfl ?_
  exact H

theorem vX11_rowsAt_3 {d : Nat} {Q : ax_H → Prop} {x1 : Int} {a2 : Nat} {a3 : Nat} {x4 : Int} {I : ax_H} (h2 : isAr a2) (h3 : isAr a3) (r4 : ax_R x4) (H :
  (2 ≤ x4 →
    Q I) ∧
  (¬ 2 ≤ x4 →
    RV (d + 2) kX11_rowsAt 12 [some (ax_r 85), some (ax_i x1), some (ax_r a2), some (ax_r a3), some (ax_i x4), some (ax_i 0), none, none, none] I Q)) :
  RV (d + 2) kX11_rowsAt 3 [some (ax_r 85), some (ax_i x1), some (ax_r a2), some (ax_r a3), some (ax_i x4), none, none, none, none] I Q := by
  show Rn _ _ _ _ _ _ _ _
  refine r_iload dX11_rowsAt_3 rfl ?_
  refine r_iconst dX11_rowsAt_5 ?_
  refine r_icmp_ge (tgt := 155) dX11_rowsAt_6 (by decide) r4 (by decide) (fun c1 => ?_) (fun c1 => ?_)
  · have H := H.1 c1
    exact r_vret dX11_rowsAt_155 rfl ⟨rfl, rfl, H⟩
  · have H := H.2 c1
    refine r_iconst dX11_rowsAt_9 ?_
    refine r_istore dX11_rowsAt_10 (by decide) rfl ?_
    exact H

theorem vX11_rowsAt_12 {d : Nat} {Q : ax_H → Prop} {x1 : Int} {a2 : Nat} {a3 : Nat} {x4 : Int} {x5 : Int} {I : ax_H} (h2 : isAr a2) (h3 : isAr a3) (r5 : ax_R x5) (H :
  (3 ≤ x5 →
    RV (d + 2) kX11_rowsAt 3 [some (ax_r 85), some (ax_i x1), some (ax_r a2), some (ax_r a3), some (ax_i (x4 + 1)), none, none, none, none] I Q) ∧
  (¬ 3 ≤ x5 →
    (0 ≤ ((3 * x4) + x5) ∧ ((3 * x4) + x5) < 6) ∧
    (∀ b3, b3 = (98 + (((3 * x4) + x5)).toNat) → isAr b3 →
    (cV (d + 1) kX11_constant [ax_r b3, ax_i 0] I (fun I5 =>
    RV (d + 2) kX11_rowsAt 41 [some (ax_r 85), some (ax_i x1), some (ax_r a2), some (ax_r a3), some (ax_i x4), some (ax_i x5), some (ax_r b3), some (ax_i 0), none] I5 Q))))) :
  RV (d + 2) kX11_rowsAt 12 [some (ax_r 85), some (ax_i x1), some (ax_r a2), some (ax_r a3), some (ax_i x4), some (ax_i x5), none, none, none] I Q := by
  show Rn _ _ _ _ _ _ _ _
  refine r_iload dX11_rowsAt_12 rfl ?_
  refine r_iconst dX11_rowsAt_14 ?_
  refine r_icmp_ge (tgt := 149) dX11_rowsAt_15 (by decide) r5 (by decide) (fun c1 => ?_) (fun c1 => ?_)
  · have H := H.1 c1
    refine r_iinc dX11_rowsAt_149 (by decide) rfl rfl ?_
    refine r_goto (tgt := 3) dX11_rowsAt_152 (by decide) ?_
    refine r_drop (ls2 := [some (ax_r 85), some (ax_i x1), some (ax_r a2), some (ax_r a3), some (ax_i (x4 + 1)), none, none, none, none]) ?_ (ax_leS (ax_leS (ax_leS (ax_leS (ax_leS (ax_leN (ax_leN (ax_leN (ax_leN ax_leE)))))))))
    exact H
  · have H := H.2 c1
    refine r_aload_n dX11_rowsAt_18 rfl ?_
    refine r_getR clX11 12 (by decide) s0_85 rfl rfl wX11_48 dX11_rowsAt_19 ?_
    refine r_iconst dX11_rowsAt_22 ?_
    refine r_iload dX11_rowsAt_23 rfl ?_
    refine r_imul dX11_rowsAt_25 ?_
    refine r_iload dX11_rowsAt_26 rfl ?_
    refine r_iadd dX11_rowsAt_28 ?_
    have ob2 := H.1
    have H := H.2
    obtain ⟨b3, hb4, hb4q⟩ : ∃ q, q = (98 + (((3 * x4) + x5)).toNat) ∧ isAr q := ⟨_, rfl, (el_97 ob2).2⟩
    have H := H b3 hb4 hb4q
    refine r_aaldA (b := b3) s0_97 (by decide) dX11_rowsAt_29 ob2 (by rw [hb4]; exact (el_97 ob2).1) ?_
    refine r_astore dX11_rowsAt_30 (by decide) rfl ?_
    refine r_aload dX11_rowsAt_32 rfl ?_
    refine r_iconst dX11_rowsAt_34 ?_
    refine r_cV (as := [ax_r b3, ax_i 0]) (how_S jX11_constant jSX11_constant rfl wX11_191 dX11_rowsAt_35) rfl (Nat.le_refl _) (Nat.le_of_ble_eq_true rfl) (fun _ => Nat.le_of_ble_eq_true rfl) H (fun I5 H => ?_)
    refine r_iconst dX11_rowsAt_38 ?_
    refine r_istore dX11_rowsAt_39 (by decide) rfl ?_
    exact H

theorem vX11_rowsAt_41 {d : Nat} {Q : ax_H → Prop} {x1 : Int} {a2 : Nat} {a3 : Nat} {x4 : Int} {x5 : Int} {a6 : Nat} {x7 : Int} {I : ax_H} (h2 : isAr a2) (h3 : isAr a3) (h6 : isAr a6) (r1 : ax_R x1) (r7 : ax_R x7) (H :
  (3 ≤ x7 →
    RV (d + 2) kX11_rowsAt 12 [some (ax_r 85), some (ax_i x1), some (ax_r a2), some (ax_r a3), some (ax_i x4), some (ax_i (x5 + 1)), none, none, none] I Q) ∧
  (¬ 3 ≤ x7 →
    (x7 ≠ 0 →
      (x7 ≠ 2 →
        cV (d + 1) kX11_times [ax_r 108, ax_r a2, ax_r a3] I (fun I4 =>
        cV (d + 1) kX11_becomes [ax_r 107, ax_r a6] I4 (fun I5 =>
        (x1 ≠ 0 →
          cI (d + 1) kX11_placeOf [ax_i x4, ax_i x7, ax_i x5] I5 (fun w8 I7 =>
          (0 ≤ w8 ∧ w8 < 48) ∧
          (cV (d + 1) kX11_sums [ax_r a6, ax_i 1, ax_r 107, ax_i (I7 86 w8), ax_r 108] I7 (fun I10 =>
          RV (d + 2) kX11_rowsAt 41 [some (ax_r 85), some (ax_i x1), some (ax_r a2), some (ax_r a3), some (ax_i x4), some (ax_i x5), some (ax_r a6), some (ax_i (x7 + 1)), none] I10 Q)))) ∧
        (x1 = 0 →
          cI (d + 1) kX11_placeOf [ax_i x4, ax_i x5, ax_i x7] I5 (fun w12 I11 =>
          (0 ≤ w12 ∧ w12 < 48) ∧
          (cV (d + 1) kX11_sums [ax_r a6, ax_i 1, ax_r 107, ax_i (I11 86 w12), ax_r 108] I11 (fun I14 =>
          RV (d + 2) kX11_rowsAt 41 [some (ax_r 85), some (ax_i x1), some (ax_r a2), some (ax_r a3), some (ax_i x4), some (ax_i x5), some (ax_r a6), some (ax_i (x7 + 1)), none] I14 Q))))))) ∧
      (x7 = 2 →
        cV (d + 1) kX11_times [ax_r 108, ax_r a2, ax_r a2] I (fun I15 =>
        cV (d + 1) kX11_becomes [ax_r 107, ax_r a6] I15 (fun I16 =>
        (x1 ≠ 0 →
          cI (d + 1) kX11_placeOf [ax_i x4, ax_i x7, ax_i x5] I16 (fun w19 I18 =>
          (0 ≤ w19 ∧ w19 < 48) ∧
          (cV (d + 1) kX11_sums [ax_r a6, ax_i 1, ax_r 107, ax_i (I18 86 w19), ax_r 108] I18 (fun I21 =>
          RV (d + 2) kX11_rowsAt 41 [some (ax_r 85), some (ax_i x1), some (ax_r a2), some (ax_r a3), some (ax_i x4), some (ax_i x5), some (ax_r a6), some (ax_i (x7 + 1)), none] I21 Q)))) ∧
        (x1 = 0 →
          cI (d + 1) kX11_placeOf [ax_i x4, ax_i x5, ax_i x7] I16 (fun w23 I22 =>
          (0 ≤ w23 ∧ w23 < 48) ∧
          (cV (d + 1) kX11_sums [ax_r a6, ax_i 1, ax_r 107, ax_i (I22 86 w23), ax_r 108] I22 (fun I25 =>
          RV (d + 2) kX11_rowsAt 41 [some (ax_r 85), some (ax_i x1), some (ax_r a2), some (ax_r a3), some (ax_i x4), some (ax_i x5), some (ax_r a6), some (ax_i (x7 + 1)), none] I25 Q)))))))) ∧
    (x7 = 0 →
      (x7 ≠ 2 →
        cV (d + 1) kX11_times [ax_r 108, ax_r a3, ax_r a3] I (fun I27 =>
        cV (d + 1) kX11_becomes [ax_r 107, ax_r a6] I27 (fun I28 =>
        (x1 ≠ 0 →
          cI (d + 1) kX11_placeOf [ax_i x4, ax_i x7, ax_i x5] I28 (fun w31 I30 =>
          (0 ≤ w31 ∧ w31 < 48) ∧
          (cV (d + 1) kX11_sums [ax_r a6, ax_i 1, ax_r 107, ax_i (I30 86 w31), ax_r 108] I30 (fun I33 =>
          RV (d + 2) kX11_rowsAt 41 [some (ax_r 85), some (ax_i x1), some (ax_r a2), some (ax_r a3), some (ax_i x4), some (ax_i x5), some (ax_r a6), some (ax_i (x7 + 1)), none] I33 Q)))) ∧
        (x1 = 0 →
          cI (d + 1) kX11_placeOf [ax_i x4, ax_i x5, ax_i x7] I28 (fun w35 I34 =>
          (0 ≤ w35 ∧ w35 < 48) ∧
          (cV (d + 1) kX11_sums [ax_r a6, ax_i 1, ax_r 107, ax_i (I34 86 w35), ax_r 108] I34 (fun I37 =>
          RV (d + 2) kX11_rowsAt 41 [some (ax_r 85), some (ax_i x1), some (ax_r a2), some (ax_r a3), some (ax_i x4), some (ax_i x5), some (ax_r a6), some (ax_i (x7 + 1)), none] I37 Q))))))) ∧
      (x7 = 2 →
        cV (d + 1) kX11_times [ax_r 108, ax_r a3, ax_r a2] I (fun I38 =>
        cV (d + 1) kX11_becomes [ax_r 107, ax_r a6] I38 (fun I39 =>
        (x1 ≠ 0 →
          cI (d + 1) kX11_placeOf [ax_i x4, ax_i x7, ax_i x5] I39 (fun w42 I41 =>
          (0 ≤ w42 ∧ w42 < 48) ∧
          (cV (d + 1) kX11_sums [ax_r a6, ax_i 1, ax_r 107, ax_i (I41 86 w42), ax_r 108] I41 (fun I44 =>
          RV (d + 2) kX11_rowsAt 41 [some (ax_r 85), some (ax_i x1), some (ax_r a2), some (ax_r a3), some (ax_i x4), some (ax_i x5), some (ax_r a6), some (ax_i (x7 + 1)), none] I44 Q)))) ∧
        (x1 = 0 →
          cI (d + 1) kX11_placeOf [ax_i x4, ax_i x5, ax_i x7] I39 (fun w46 I45 =>
          (0 ≤ w46 ∧ w46 < 48) ∧
          (cV (d + 1) kX11_sums [ax_r a6, ax_i 1, ax_r 107, ax_i (I45 86 w46), ax_r 108] I45 (fun I48 =>
          RV (d + 2) kX11_rowsAt 41 [some (ax_r 85), some (ax_i x1), some (ax_r a2), some (ax_r a3), some (ax_i x4), some (ax_i x5), some (ax_r a6), some (ax_i (x7 + 1)), none] I48 Q)))))))))) :
  RV (d + 2) kX11_rowsAt 41 [some (ax_r 85), some (ax_i x1), some (ax_r a2), some (ax_r a3), some (ax_i x4), some (ax_i x5), some (ax_r a6), some (ax_i x7), none] I Q := by
  show Rn _ _ _ _ _ _ _ _
  refine r_iload dX11_rowsAt_41 rfl ?_
  refine r_iconst dX11_rowsAt_43 ?_
  refine r_icmp_ge (tgt := 143) dX11_rowsAt_44 (by decide) r7 (by decide) (fun c1 => ?_) (fun c1 => ?_)
  · have H := H.1 c1
    refine r_iinc dX11_rowsAt_143 (by decide) rfl rfl ?_
    refine r_goto (tgt := 12) dX11_rowsAt_146 (by decide) ?_
    refine r_drop (ls2 := [some (ax_r 85), some (ax_i x1), some (ax_r a2), some (ax_r a3), some (ax_i x4), some (ax_i (x5 + 1)), none, none, none]) ?_ (ax_leS (ax_leS (ax_leS (ax_leS (ax_leS (ax_leS (ax_leN (ax_leN (ax_leN ax_leE)))))))))
    exact H
  · have H := H.2 c1
    refine r_aload_n dX11_rowsAt_47 rfl ?_
    refine r_getR clX11 17 (by decide) s0_85 rfl rfl wX11_63 dX11_rowsAt_48 ?_
    refine r_iload dX11_rowsAt_51 rfl ?_
    refine r_if_ne (tgt := 60) dX11_rowsAt_53 (by decide) r7 (fun c2 => ?_) (fun c2 => ?_)
    · have H := H.1 c2
      refine r_aload_n dX11_rowsAt_60 rfl ?_
      refine r_iload dX11_rowsAt_61 rfl ?_
      refine r_iconst dX11_rowsAt_63 ?_
      refine r_icmp_ne (tgt := 71) dX11_rowsAt_64 (by decide) r7 (by decide) (fun c3 => ?_) (fun c3 => ?_)
      · have H := H.1 c3
        refine r_aload_n dX11_rowsAt_71 rfl ?_
        refine r_cV (as := [ax_r 108, ax_r a2, ax_r a3]) (how_S jX11_times jSX11_times rfl wX11_194 dX11_rowsAt_72) rfl (Nat.le_refl _) (Nat.le_of_ble_eq_true rfl) (fun _ => Nat.le_of_ble_eq_true rfl) H (fun I4 H => ?_)
        refine r_aload_n dX11_rowsAt_75 rfl ?_
        refine r_getR clX11 16 (by decide) s0_85 rfl rfl wX11_60 dX11_rowsAt_76 ?_
        refine r_aload dX11_rowsAt_79 rfl ?_
        refine r_cV (as := [ax_r 107, ax_r a6]) (how_S jX11_becomes jSX11_becomes rfl wX11_183 dX11_rowsAt_81) rfl (Nat.le_refl _) (Nat.le_of_ble_eq_true rfl) (fun _ => Nat.le_of_ble_eq_true rfl) H (fun I5 H => ?_)
        refine r_iload_n dX11_rowsAt_84 rfl ?_
        refine r_if_ne (tgt := 105) dX11_rowsAt_85 (by decide) r1 (fun c6 => ?_) (fun c6 => ?_)
        · have H := H.1 c6
          refine r_aload_n dX11_rowsAt_105 rfl ?_
          refine r_getR clX11 0 (by decide) s0_85 rfl rfl wX11_11 dX11_rowsAt_106 ?_
          refine r_iload dX11_rowsAt_109 rfl ?_
          refine r_iload dX11_rowsAt_111 rfl ?_
          refine r_iload dX11_rowsAt_113 rfl ?_
          refine r_cI (as := [ax_i x4, ax_i x7, ax_i x5]) (how_S jX11_placeOf jSX11_placeOf rfl wX11_115 dX11_rowsAt_115) rfl (Nat.le_refl _) (Nat.le_of_ble_eq_true rfl) (fun _ => Nat.le_of_ble_eq_true rfl) H (fun w8 I7 H => ?_)
          have ob9 := H.1
          have H := H.2
          refine r_iald s0_86 (by decide) dX11_rowsAt_118 ob9 ?_
          refine r_istore dX11_rowsAt_119 (by decide) rfl ?_
          refine r_aload dX11_rowsAt_121 rfl ?_
          refine r_iconst dX11_rowsAt_123 ?_
          refine r_aload_n dX11_rowsAt_124 rfl ?_
          refine r_getR clX11 16 (by decide) s0_85 rfl rfl wX11_60 dX11_rowsAt_125 ?_
          refine r_iload dX11_rowsAt_128 rfl ?_
          refine r_aload_n dX11_rowsAt_130 rfl ?_
          refine r_getR clX11 17 (by decide) s0_85 rfl rfl wX11_63 dX11_rowsAt_131 ?_
          refine r_cV (as := [ax_r a6, ax_i 1, ax_r 107, ax_i (I7 86 w8), ax_r 108]) (how_S jX11_sums jSX11_sums rfl wX11_197 dX11_rowsAt_134) rfl (Nat.le_refl _) (Nat.le_of_ble_eq_true rfl) (fun _ => Nat.le_of_ble_eq_true rfl) H (fun I10 H => ?_)
          refine r_iinc dX11_rowsAt_137 (by decide) rfl rfl ?_
          refine r_goto (tgt := 41) dX11_rowsAt_140 (by decide) ?_
          refine r_drop (ls2 := [some (ax_r 85), some (ax_i x1), some (ax_r a2), some (ax_r a3), some (ax_i x4), some (ax_i x5), some (ax_r a6), some (ax_i (x7 + 1)), none]) ?_ (ax_leS (ax_leS (ax_leS (ax_leS (ax_leS (ax_leS (ax_leS (ax_leS (ax_leN ax_leE)))))))))
          exact H
        · have H := H.2 c6
          refine r_aload_n dX11_rowsAt_88 rfl ?_
          refine r_getR clX11 0 (by decide) s0_85 rfl rfl wX11_11 dX11_rowsAt_89 ?_
          refine r_iload dX11_rowsAt_92 rfl ?_
          refine r_iload dX11_rowsAt_94 rfl ?_
          refine r_iload dX11_rowsAt_96 rfl ?_
          refine r_cI (as := [ax_i x4, ax_i x5, ax_i x7]) (how_S jX11_placeOf jSX11_placeOf rfl wX11_115 dX11_rowsAt_98) rfl (Nat.le_refl _) (Nat.le_of_ble_eq_true rfl) (fun _ => Nat.le_of_ble_eq_true rfl) H (fun w12 I11 H => ?_)
          have ob13 := H.1
          have H := H.2
          refine r_iald s0_86 (by decide) dX11_rowsAt_101 ob13 ?_
          refine r_goto (tgt := 119) dX11_rowsAt_102 (by decide) ?_
          refine r_istore dX11_rowsAt_119 (by decide) rfl ?_
          refine r_aload dX11_rowsAt_121 rfl ?_
          refine r_iconst dX11_rowsAt_123 ?_
          refine r_aload_n dX11_rowsAt_124 rfl ?_
          refine r_getR clX11 16 (by decide) s0_85 rfl rfl wX11_60 dX11_rowsAt_125 ?_
          refine r_iload dX11_rowsAt_128 rfl ?_
          refine r_aload_n dX11_rowsAt_130 rfl ?_
          refine r_getR clX11 17 (by decide) s0_85 rfl rfl wX11_63 dX11_rowsAt_131 ?_
          refine r_cV (as := [ax_r a6, ax_i 1, ax_r 107, ax_i (I11 86 w12), ax_r 108]) (how_S jX11_sums jSX11_sums rfl wX11_197 dX11_rowsAt_134) rfl (Nat.le_refl _) (Nat.le_of_ble_eq_true rfl) (fun _ => Nat.le_of_ble_eq_true rfl) H (fun I14 H => ?_)
          refine r_iinc dX11_rowsAt_137 (by decide) rfl rfl ?_
          refine r_goto (tgt := 41) dX11_rowsAt_140 (by decide) ?_
          refine r_drop (ls2 := [some (ax_r 85), some (ax_i x1), some (ax_r a2), some (ax_r a3), some (ax_i x4), some (ax_i x5), some (ax_r a6), some (ax_i (x7 + 1)), none]) ?_ (ax_leS (ax_leS (ax_leS (ax_leS (ax_leS (ax_leS (ax_leS (ax_leS (ax_leN ax_leE)))))))))
          exact H
      · have H := H.2 c3
        refine r_aload_n dX11_rowsAt_67 rfl ?_
        refine r_goto (tgt := 72) dX11_rowsAt_68 (by decide) ?_
        refine r_cV (as := [ax_r 108, ax_r a2, ax_r a2]) (how_S jX11_times jSX11_times rfl wX11_194 dX11_rowsAt_72) rfl (Nat.le_refl _) (Nat.le_of_ble_eq_true rfl) (fun _ => Nat.le_of_ble_eq_true rfl) H (fun I15 H => ?_)
        refine r_aload_n dX11_rowsAt_75 rfl ?_
        refine r_getR clX11 16 (by decide) s0_85 rfl rfl wX11_60 dX11_rowsAt_76 ?_
        refine r_aload dX11_rowsAt_79 rfl ?_
        refine r_cV (as := [ax_r 107, ax_r a6]) (how_S jX11_becomes jSX11_becomes rfl wX11_183 dX11_rowsAt_81) rfl (Nat.le_refl _) (Nat.le_of_ble_eq_true rfl) (fun _ => Nat.le_of_ble_eq_true rfl) H (fun I16 H => ?_)
        refine r_iload_n dX11_rowsAt_84 rfl ?_
        refine r_if_ne (tgt := 105) dX11_rowsAt_85 (by decide) r1 (fun c17 => ?_) (fun c17 => ?_)
        · have H := H.1 c17
          refine r_aload_n dX11_rowsAt_105 rfl ?_
          refine r_getR clX11 0 (by decide) s0_85 rfl rfl wX11_11 dX11_rowsAt_106 ?_
          refine r_iload dX11_rowsAt_109 rfl ?_
          refine r_iload dX11_rowsAt_111 rfl ?_
          refine r_iload dX11_rowsAt_113 rfl ?_
          refine r_cI (as := [ax_i x4, ax_i x7, ax_i x5]) (how_S jX11_placeOf jSX11_placeOf rfl wX11_115 dX11_rowsAt_115) rfl (Nat.le_refl _) (Nat.le_of_ble_eq_true rfl) (fun _ => Nat.le_of_ble_eq_true rfl) H (fun w19 I18 H => ?_)
          have ob20 := H.1
          have H := H.2
          refine r_iald s0_86 (by decide) dX11_rowsAt_118 ob20 ?_
          refine r_istore dX11_rowsAt_119 (by decide) rfl ?_
          refine r_aload dX11_rowsAt_121 rfl ?_
          refine r_iconst dX11_rowsAt_123 ?_
          refine r_aload_n dX11_rowsAt_124 rfl ?_
          refine r_getR clX11 16 (by decide) s0_85 rfl rfl wX11_60 dX11_rowsAt_125 ?_
          refine r_iload dX11_rowsAt_128 rfl ?_
          refine r_aload_n dX11_rowsAt_130 rfl ?_
          refine r_getR clX11 17 (by decide) s0_85 rfl rfl wX11_63 dX11_rowsAt_131 ?_
          refine r_cV (as := [ax_r a6, ax_i 1, ax_r 107, ax_i (I18 86 w19), ax_r 108]) (how_S jX11_sums jSX11_sums rfl wX11_197 dX11_rowsAt_134) rfl (Nat.le_refl _) (Nat.le_of_ble_eq_true rfl) (fun _ => Nat.le_of_ble_eq_true rfl) H (fun I21 H => ?_)
          refine r_iinc dX11_rowsAt_137 (by decide) rfl rfl ?_
          refine r_goto (tgt := 41) dX11_rowsAt_140 (by decide) ?_
          refine r_drop (ls2 := [some (ax_r 85), some (ax_i x1), some (ax_r a2), some (ax_r a3), some (ax_i x4), some (ax_i x5), some (ax_r a6), some (ax_i (x7 + 1)), none]) ?_ (ax_leS (ax_leS (ax_leS (ax_leS (ax_leS (ax_leS (ax_leS (ax_leS (ax_leN ax_leE)))))))))
          exact H
        · have H := H.2 c17
          refine r_aload_n dX11_rowsAt_88 rfl ?_
          refine r_getR clX11 0 (by decide) s0_85 rfl rfl wX11_11 dX11_rowsAt_89 ?_
          refine r_iload dX11_rowsAt_92 rfl ?_
          refine r_iload dX11_rowsAt_94 rfl ?_
          refine r_iload dX11_rowsAt_96 rfl ?_
          refine r_cI (as := [ax_i x4, ax_i x5, ax_i x7]) (how_S jX11_placeOf jSX11_placeOf rfl wX11_115 dX11_rowsAt_98) rfl (Nat.le_refl _) (Nat.le_of_ble_eq_true rfl) (fun _ => Nat.le_of_ble_eq_true rfl) H (fun w23 I22 H => ?_)
          have ob24 := H.1
          have H := H.2
          refine r_iald s0_86 (by decide) dX11_rowsAt_101 ob24 ?_
          refine r_goto (tgt := 119) dX11_rowsAt_102 (by decide) ?_
          refine r_istore dX11_rowsAt_119 (by decide) rfl ?_
          refine r_aload dX11_rowsAt_121 rfl ?_
          refine r_iconst dX11_rowsAt_123 ?_
          refine r_aload_n dX11_rowsAt_124 rfl ?_
          refine r_getR clX11 16 (by decide) s0_85 rfl rfl wX11_60 dX11_rowsAt_125 ?_
          refine r_iload dX11_rowsAt_128 rfl ?_
          refine r_aload_n dX11_rowsAt_130 rfl ?_
          refine r_getR clX11 17 (by decide) s0_85 rfl rfl wX11_63 dX11_rowsAt_131 ?_
          refine r_cV (as := [ax_r a6, ax_i 1, ax_r 107, ax_i (I22 86 w23), ax_r 108]) (how_S jX11_sums jSX11_sums rfl wX11_197 dX11_rowsAt_134) rfl (Nat.le_refl _) (Nat.le_of_ble_eq_true rfl) (fun _ => Nat.le_of_ble_eq_true rfl) H (fun I25 H => ?_)
          refine r_iinc dX11_rowsAt_137 (by decide) rfl rfl ?_
          refine r_goto (tgt := 41) dX11_rowsAt_140 (by decide) ?_
          refine r_drop (ls2 := [some (ax_r 85), some (ax_i x1), some (ax_r a2), some (ax_r a3), some (ax_i x4), some (ax_i x5), some (ax_r a6), some (ax_i (x7 + 1)), none]) ?_ (ax_leS (ax_leS (ax_leS (ax_leS (ax_leS (ax_leS (ax_leS (ax_leS (ax_leN ax_leE)))))))))
          exact H
    · have H := H.2 c2
      refine r_aload_n dX11_rowsAt_56 rfl ?_
      refine r_goto (tgt := 61) dX11_rowsAt_57 (by decide) ?_
      refine r_iload dX11_rowsAt_61 rfl ?_
      refine r_iconst dX11_rowsAt_63 ?_
      refine r_icmp_ne (tgt := 71) dX11_rowsAt_64 (by decide) r7 (by decide) (fun c26 => ?_) (fun c26 => ?_)
      · have H := H.1 c26
        refine r_aload_n dX11_rowsAt_71 rfl ?_
        refine r_cV (as := [ax_r 108, ax_r a3, ax_r a3]) (how_S jX11_times jSX11_times rfl wX11_194 dX11_rowsAt_72) rfl (Nat.le_refl _) (Nat.le_of_ble_eq_true rfl) (fun _ => Nat.le_of_ble_eq_true rfl) H (fun I27 H => ?_)
        refine r_aload_n dX11_rowsAt_75 rfl ?_
        refine r_getR clX11 16 (by decide) s0_85 rfl rfl wX11_60 dX11_rowsAt_76 ?_
        refine r_aload dX11_rowsAt_79 rfl ?_
        refine r_cV (as := [ax_r 107, ax_r a6]) (how_S jX11_becomes jSX11_becomes rfl wX11_183 dX11_rowsAt_81) rfl (Nat.le_refl _) (Nat.le_of_ble_eq_true rfl) (fun _ => Nat.le_of_ble_eq_true rfl) H (fun I28 H => ?_)
        refine r_iload_n dX11_rowsAt_84 rfl ?_
        refine r_if_ne (tgt := 105) dX11_rowsAt_85 (by decide) r1 (fun c29 => ?_) (fun c29 => ?_)
        · have H := H.1 c29
          refine r_aload_n dX11_rowsAt_105 rfl ?_
          refine r_getR clX11 0 (by decide) s0_85 rfl rfl wX11_11 dX11_rowsAt_106 ?_
          refine r_iload dX11_rowsAt_109 rfl ?_
          refine r_iload dX11_rowsAt_111 rfl ?_
          refine r_iload dX11_rowsAt_113 rfl ?_
          refine r_cI (as := [ax_i x4, ax_i x7, ax_i x5]) (how_S jX11_placeOf jSX11_placeOf rfl wX11_115 dX11_rowsAt_115) rfl (Nat.le_refl _) (Nat.le_of_ble_eq_true rfl) (fun _ => Nat.le_of_ble_eq_true rfl) H (fun w31 I30 H => ?_)
          have ob32 := H.1
          have H := H.2
          refine r_iald s0_86 (by decide) dX11_rowsAt_118 ob32 ?_
          refine r_istore dX11_rowsAt_119 (by decide) rfl ?_
          refine r_aload dX11_rowsAt_121 rfl ?_
          refine r_iconst dX11_rowsAt_123 ?_
          refine r_aload_n dX11_rowsAt_124 rfl ?_
          refine r_getR clX11 16 (by decide) s0_85 rfl rfl wX11_60 dX11_rowsAt_125 ?_
          refine r_iload dX11_rowsAt_128 rfl ?_
          refine r_aload_n dX11_rowsAt_130 rfl ?_
          refine r_getR clX11 17 (by decide) s0_85 rfl rfl wX11_63 dX11_rowsAt_131 ?_
          refine r_cV (as := [ax_r a6, ax_i 1, ax_r 107, ax_i (I30 86 w31), ax_r 108]) (how_S jX11_sums jSX11_sums rfl wX11_197 dX11_rowsAt_134) rfl (Nat.le_refl _) (Nat.le_of_ble_eq_true rfl) (fun _ => Nat.le_of_ble_eq_true rfl) H (fun I33 H => ?_)
          refine r_iinc dX11_rowsAt_137 (by decide) rfl rfl ?_
          refine r_goto (tgt := 41) dX11_rowsAt_140 (by decide) ?_
          refine r_drop (ls2 := [some (ax_r 85), some (ax_i x1), some (ax_r a2), some (ax_r a3), some (ax_i x4), some (ax_i x5), some (ax_r a6), some (ax_i (x7 + 1)), none]) ?_ (ax_leS (ax_leS (ax_leS (ax_leS (ax_leS (ax_leS (ax_leS (ax_leS (ax_leN ax_leE)))))))))
          exact H
        · have H := H.2 c29
          refine r_aload_n dX11_rowsAt_88 rfl ?_
          refine r_getR clX11 0 (by decide) s0_85 rfl rfl wX11_11 dX11_rowsAt_89 ?_
          refine r_iload dX11_rowsAt_92 rfl ?_
          refine r_iload dX11_rowsAt_94 rfl ?_
          refine r_iload dX11_rowsAt_96 rfl ?_
          refine r_cI (as := [ax_i x4, ax_i x5, ax_i x7]) (how_S jX11_placeOf jSX11_placeOf rfl wX11_115 dX11_rowsAt_98) rfl (Nat.le_refl _) (Nat.le_of_ble_eq_true rfl) (fun _ => Nat.le_of_ble_eq_true rfl) H (fun w35 I34 H => ?_)
          have ob36 := H.1
          have H := H.2
          refine r_iald s0_86 (by decide) dX11_rowsAt_101 ob36 ?_
          refine r_goto (tgt := 119) dX11_rowsAt_102 (by decide) ?_
          refine r_istore dX11_rowsAt_119 (by decide) rfl ?_
          refine r_aload dX11_rowsAt_121 rfl ?_
          refine r_iconst dX11_rowsAt_123 ?_
          refine r_aload_n dX11_rowsAt_124 rfl ?_
          refine r_getR clX11 16 (by decide) s0_85 rfl rfl wX11_60 dX11_rowsAt_125 ?_
          refine r_iload dX11_rowsAt_128 rfl ?_
          refine r_aload_n dX11_rowsAt_130 rfl ?_
          refine r_getR clX11 17 (by decide) s0_85 rfl rfl wX11_63 dX11_rowsAt_131 ?_
          refine r_cV (as := [ax_r a6, ax_i 1, ax_r 107, ax_i (I34 86 w35), ax_r 108]) (how_S jX11_sums jSX11_sums rfl wX11_197 dX11_rowsAt_134) rfl (Nat.le_refl _) (Nat.le_of_ble_eq_true rfl) (fun _ => Nat.le_of_ble_eq_true rfl) H (fun I37 H => ?_)
          refine r_iinc dX11_rowsAt_137 (by decide) rfl rfl ?_
          refine r_goto (tgt := 41) dX11_rowsAt_140 (by decide) ?_
          refine r_drop (ls2 := [some (ax_r 85), some (ax_i x1), some (ax_r a2), some (ax_r a3), some (ax_i x4), some (ax_i x5), some (ax_r a6), some (ax_i (x7 + 1)), none]) ?_ (ax_leS (ax_leS (ax_leS (ax_leS (ax_leS (ax_leS (ax_leS (ax_leS (ax_leN ax_leE)))))))))
          exact H
      · have H := H.2 c26
        refine r_aload_n dX11_rowsAt_67 rfl ?_
        refine r_goto (tgt := 72) dX11_rowsAt_68 (by decide) ?_
        refine r_cV (as := [ax_r 108, ax_r a3, ax_r a2]) (how_S jX11_times jSX11_times rfl wX11_194 dX11_rowsAt_72) rfl (Nat.le_refl _) (Nat.le_of_ble_eq_true rfl) (fun _ => Nat.le_of_ble_eq_true rfl) H (fun I38 H => ?_)
        refine r_aload_n dX11_rowsAt_75 rfl ?_
        refine r_getR clX11 16 (by decide) s0_85 rfl rfl wX11_60 dX11_rowsAt_76 ?_
        refine r_aload dX11_rowsAt_79 rfl ?_
        refine r_cV (as := [ax_r 107, ax_r a6]) (how_S jX11_becomes jSX11_becomes rfl wX11_183 dX11_rowsAt_81) rfl (Nat.le_refl _) (Nat.le_of_ble_eq_true rfl) (fun _ => Nat.le_of_ble_eq_true rfl) H (fun I39 H => ?_)
        refine r_iload_n dX11_rowsAt_84 rfl ?_
        refine r_if_ne (tgt := 105) dX11_rowsAt_85 (by decide) r1 (fun c40 => ?_) (fun c40 => ?_)
        · have H := H.1 c40
          refine r_aload_n dX11_rowsAt_105 rfl ?_
          refine r_getR clX11 0 (by decide) s0_85 rfl rfl wX11_11 dX11_rowsAt_106 ?_
          refine r_iload dX11_rowsAt_109 rfl ?_
          refine r_iload dX11_rowsAt_111 rfl ?_
          refine r_iload dX11_rowsAt_113 rfl ?_
          refine r_cI (as := [ax_i x4, ax_i x7, ax_i x5]) (how_S jX11_placeOf jSX11_placeOf rfl wX11_115 dX11_rowsAt_115) rfl (Nat.le_refl _) (Nat.le_of_ble_eq_true rfl) (fun _ => Nat.le_of_ble_eq_true rfl) H (fun w42 I41 H => ?_)
          have ob43 := H.1
          have H := H.2
          refine r_iald s0_86 (by decide) dX11_rowsAt_118 ob43 ?_
          refine r_istore dX11_rowsAt_119 (by decide) rfl ?_
          refine r_aload dX11_rowsAt_121 rfl ?_
          refine r_iconst dX11_rowsAt_123 ?_
          refine r_aload_n dX11_rowsAt_124 rfl ?_
          refine r_getR clX11 16 (by decide) s0_85 rfl rfl wX11_60 dX11_rowsAt_125 ?_
          refine r_iload dX11_rowsAt_128 rfl ?_
          refine r_aload_n dX11_rowsAt_130 rfl ?_
          refine r_getR clX11 17 (by decide) s0_85 rfl rfl wX11_63 dX11_rowsAt_131 ?_
          refine r_cV (as := [ax_r a6, ax_i 1, ax_r 107, ax_i (I41 86 w42), ax_r 108]) (how_S jX11_sums jSX11_sums rfl wX11_197 dX11_rowsAt_134) rfl (Nat.le_refl _) (Nat.le_of_ble_eq_true rfl) (fun _ => Nat.le_of_ble_eq_true rfl) H (fun I44 H => ?_)
          refine r_iinc dX11_rowsAt_137 (by decide) rfl rfl ?_
          refine r_goto (tgt := 41) dX11_rowsAt_140 (by decide) ?_
          refine r_drop (ls2 := [some (ax_r 85), some (ax_i x1), some (ax_r a2), some (ax_r a3), some (ax_i x4), some (ax_i x5), some (ax_r a6), some (ax_i (x7 + 1)), none]) ?_ (ax_leS (ax_leS (ax_leS (ax_leS (ax_leS (ax_leS (ax_leS (ax_leS (ax_leN ax_leE)))))))))
          exact H
        · have H := H.2 c40
          refine r_aload_n dX11_rowsAt_88 rfl ?_
          refine r_getR clX11 0 (by decide) s0_85 rfl rfl wX11_11 dX11_rowsAt_89 ?_
          refine r_iload dX11_rowsAt_92 rfl ?_
          refine r_iload dX11_rowsAt_94 rfl ?_
          refine r_iload dX11_rowsAt_96 rfl ?_
          refine r_cI (as := [ax_i x4, ax_i x5, ax_i x7]) (how_S jX11_placeOf jSX11_placeOf rfl wX11_115 dX11_rowsAt_98) rfl (Nat.le_refl _) (Nat.le_of_ble_eq_true rfl) (fun _ => Nat.le_of_ble_eq_true rfl) H (fun w46 I45 H => ?_)
          have ob47 := H.1
          have H := H.2
          refine r_iald s0_86 (by decide) dX11_rowsAt_101 ob47 ?_
          refine r_goto (tgt := 119) dX11_rowsAt_102 (by decide) ?_
          refine r_istore dX11_rowsAt_119 (by decide) rfl ?_
          refine r_aload dX11_rowsAt_121 rfl ?_
          refine r_iconst dX11_rowsAt_123 ?_
          refine r_aload_n dX11_rowsAt_124 rfl ?_
          refine r_getR clX11 16 (by decide) s0_85 rfl rfl wX11_60 dX11_rowsAt_125 ?_
          refine r_iload dX11_rowsAt_128 rfl ?_
          refine r_aload_n dX11_rowsAt_130 rfl ?_
          refine r_getR clX11 17 (by decide) s0_85 rfl rfl wX11_63 dX11_rowsAt_131 ?_
          refine r_cV (as := [ax_r a6, ax_i 1, ax_r 107, ax_i (I45 86 w46), ax_r 108]) (how_S jX11_sums jSX11_sums rfl wX11_197 dX11_rowsAt_134) rfl (Nat.le_refl _) (Nat.le_of_ble_eq_true rfl) (fun _ => Nat.le_of_ble_eq_true rfl) H (fun I48 H => ?_)
          refine r_iinc dX11_rowsAt_137 (by decide) rfl rfl ?_
          refine r_goto (tgt := 41) dX11_rowsAt_140 (by decide) ?_
          refine r_drop (ls2 := [some (ax_r 85), some (ax_i x1), some (ax_r a2), some (ax_r a3), some (ax_i x4), some (ax_i x5), some (ax_r a6), some (ax_i (x7 + 1)), none]) ?_ (ax_leS (ax_leS (ax_leS (ax_leS (ax_leS (ax_leS (ax_leS (ax_leS (ax_leN ax_leE)))))))))
          exact H

theorem vX11_crosses_0 {d : Nat} {Q : ax_H → Prop} {a1 : Nat} {x2 : Int} {x3 : Int} {I : ax_H} (h1 : isAr a1) (H :
  (0 ≤ x2 ∧ x2 < 6) ∧
  (∀ b2, b2 = (98 + (x2).toNat) → isAr b2 →
  ((0 ≤ (3 + x3) ∧ (3 + x3) < 6) ∧
  (∀ b5, b5 = (98 + ((3 + x3)).toNat) → isAr b5 →
  (cV (d + 1) kX11_times [ax_r 107, ax_r b2, ax_r b5] I (fun I7 =>
  (0 ≤ x3 ∧ x3 < 6) ∧
  (∀ b9, b9 = (98 + (x3).toNat) → isAr b9 →
  ((0 ≤ (3 + x2) ∧ (3 + x2) < 6) ∧
  (∀ b12, b12 = (98 + ((3 + x2)).toNat) → isAr b12 →
  (cV (d + 1) kX11_times [ax_r 108, ax_r b9, ax_r b12] I7 (fun I14 =>
  cV (d + 1) kX11_sums [ax_r a1, ax_i 1, ax_r 107, ax_i 30, ax_r 108] I14 (fun I15 =>
  Q I15)))))))))))) :
  RV (d + 2) kX11_crosses 0 [some (ax_r 85), some (ax_r a1), some (ax_i x2), some (ax_i x3)] I Q := by
  show Rn _ _ _ _ _ _ _ _
  refine r_aload_n dX11_crosses_0 rfl ?_
  refine r_getR clX11 16 (by decide) s0_85 rfl rfl wX11_60 dX11_crosses_1 ?_
  refine r_aload_n dX11_crosses_4 rfl ?_
  refine r_getR clX11 12 (by decide) s0_85 rfl rfl wX11_48 dX11_crosses_5 ?_
  refine r_iload_n dX11_crosses_8 rfl ?_
  have ob1 := H.1
  have H := H.2
  obtain ⟨b2, hb3, hb3q⟩ : ∃ q, q = (98 + (x2).toNat) ∧ isAr q := ⟨_, rfl, (el_97 ob1).2⟩
  have H := H b2 hb3 hb3q
  refine r_aaldA (b := b2) s0_97 (by decide) dX11_crosses_9 ob1 (by rw [hb3]; exact (el_97 ob1).1) ?_
  refine r_aload_n dX11_crosses_10 rfl ?_
  refine r_getR clX11 12 (by decide) s0_85 rfl rfl wX11_48 dX11_crosses_11 ?_
  refine r_iconst dX11_crosses_14 ?_
  refine r_iload_n dX11_crosses_15 rfl ?_
  refine r_iadd dX11_crosses_16 ?_
  have ob4 := H.1
  have H := H.2
  obtain ⟨b5, hb6, hb6q⟩ : ∃ q, q = (98 + ((3 + x3)).toNat) ∧ isAr q := ⟨_, rfl, (el_97 ob4).2⟩
  have H := H b5 hb6 hb6q
  refine r_aaldA (b := b5) s0_97 (by decide) dX11_crosses_17 ob4 (by rw [hb6]; exact (el_97 ob4).1) ?_
  refine r_cV (as := [ax_r 107, ax_r b2, ax_r b5]) (how_S jX11_times jSX11_times rfl wX11_194 dX11_crosses_18) rfl (Nat.le_refl _) (Nat.le_of_ble_eq_true rfl) (fun _ => Nat.le_of_ble_eq_true rfl) H (fun I7 H => ?_)
  refine r_aload_n dX11_crosses_21 rfl ?_
  refine r_getR clX11 17 (by decide) s0_85 rfl rfl wX11_63 dX11_crosses_22 ?_
  refine r_aload_n dX11_crosses_25 rfl ?_
  refine r_getR clX11 12 (by decide) s0_85 rfl rfl wX11_48 dX11_crosses_26 ?_
  refine r_iload_n dX11_crosses_29 rfl ?_
  have ob8 := H.1
  have H := H.2
  obtain ⟨b9, hb10, hb10q⟩ : ∃ q, q = (98 + (x3).toNat) ∧ isAr q := ⟨_, rfl, (el_97 ob8).2⟩
  have H := H b9 hb10 hb10q
  refine r_aaldA (b := b9) s0_97 (by decide) dX11_crosses_30 ob8 (by rw [hb10]; exact (el_97 ob8).1) ?_
  refine r_aload_n dX11_crosses_31 rfl ?_
  refine r_getR clX11 12 (by decide) s0_85 rfl rfl wX11_48 dX11_crosses_32 ?_
  refine r_iconst dX11_crosses_35 ?_
  refine r_iload_n dX11_crosses_36 rfl ?_
  refine r_iadd dX11_crosses_37 ?_
  have ob11 := H.1
  have H := H.2
  obtain ⟨b12, hb13, hb13q⟩ : ∃ q, q = (98 + ((3 + x2)).toNat) ∧ isAr q := ⟨_, rfl, (el_97 ob11).2⟩
  have H := H b12 hb13 hb13q
  refine r_aaldA (b := b12) s0_97 (by decide) dX11_crosses_38 ob11 (by rw [hb13]; exact (el_97 ob11).1) ?_
  refine r_cV (as := [ax_r 108, ax_r b9, ax_r b12]) (how_S jX11_times jSX11_times rfl wX11_194 dX11_crosses_39) rfl (Nat.le_refl _) (Nat.le_of_ble_eq_true rfl) (fun _ => Nat.le_of_ble_eq_true rfl) H (fun I14 H => ?_)
  refine r_aload_n dX11_crosses_42 rfl ?_
  refine r_iconst dX11_crosses_43 ?_
  refine r_aload_n dX11_crosses_44 rfl ?_
  refine r_getR clX11 16 (by decide) s0_85 rfl rfl wX11_60 dX11_crosses_45 ?_
  refine r_bipush (v := 30) dX11_crosses_48 (by decide) ?_
  refine r_aload_n dX11_crosses_50 rfl ?_
  refine r_getR clX11 17 (by decide) s0_85 rfl rfl wX11_63 dX11_crosses_51 ?_
  refine r_cV (as := [ax_r a1, ax_i 1, ax_r 107, ax_i 30, ax_r 108]) (how_S jX11_sums jSX11_sums rfl wX11_197 dX11_crosses_54) rfl (Nat.le_refl _) (Nat.le_of_ble_eq_true rfl) (fun _ => Nat.le_of_ble_eq_true rfl) H (fun I15 H => ?_)
  exact r_vret dX11_crosses_57 rfl ⟨rfl, rfl, H⟩

theorem vX11_isSwapped_0 {d : Nat} {Q : Int → ax_H → Prop} {x1 : Int} {a2 : Nat} {a3 : Nat} {a4 : Nat} {a5 : Nat} {I : ax_H} (h2 : isAr a2) (h3 : isAr a3) (h4 : isAr a4) (h5 : isAr a5) (H :
  cV (d + 2) kX11_rowsAt [ax_r 85, ax_i x1, ax_r a4, ax_r a5] I (fun I1 =>
  cV (d + 2) kX11_crosses [ax_r 85, ax_r 104, ax_i 2, ax_i 1] I1 (fun I2 =>
  cV (d + 2) kX11_crosses [ax_r 85, ax_r 105, ax_i 2, ax_i 0] I2 (fun I3 =>
  cV (d + 2) kX11_crosses [ax_r 85, ax_r 106, ax_i 1, ax_i 0] I3 (fun I4 =>
  cV (d + 2) kX11_times [ax_r 107, ax_r 105, ax_r a2] I4 (fun I5 =>
  cV (d + 2) kX11_times [ax_r 108, ax_r 106, ax_r a3] I5 (fun I6 =>
  cV (d + 2) kX11_sums [ax_r 110, ax_i 30, ax_r 107, ax_i 30, ax_r 108] I6 (fun I7 =>
  cV (d + 2) kX11_times [ax_r 107, ax_r 104, ax_r a2] I7 (fun I8 =>
  cV (d + 2) kX11_times [ax_r 108, ax_r 105, ax_r a3] I8 (fun I9 =>
  cV (d + 2) kX11_sums [ax_r 111, ax_i 1, ax_r 107, ax_i 1, ax_r 108] I9 (fun I10 =>
  (0 ≤ (I10 110 0) →
    cV (d + 2) kX11_becomes [ax_r a2, ax_r 110] I10 (fun I13 =>
    cV (d + 2) kX11_becomes [ax_r a3, ax_r 111] I13 (fun I14 =>
    cV (d + 2) kX11_lowers [ax_r 85, ax_r a2, ax_r a3] I14 (fun I15 =>
    Q 1 I15)))) ∧
  (¬ 0 ≤ (I10 110 0) →
    (0 ≤ (I10 111 0) →
      cV (d + 2) kX11_becomes [ax_r a2, ax_r 110] I10 (fun I17 =>
      cV (d + 2) kX11_becomes [ax_r a3, ax_r 111] I17 (fun I18 =>
      cV (d + 2) kX11_lowers [ax_r 85, ax_r a2, ax_r a3] I18 (fun I19 =>
      Q 1 I19)))) ∧
    (¬ 0 ≤ (I10 111 0) →
      Q 0 I10))))))))))))) :
  RI (d + 3) kX11_isSwapped 0 [some (ax_r 85), some (ax_i x1), some (ax_r a2), some (ax_r a3), some (ax_r a4), some (ax_r a5)] I Q := by
  show Rn _ _ _ _ _ _ _ _
  refine r_aload_n dX11_isSwapped_0 rfl ?_
  refine r_iload_n dX11_isSwapped_1 rfl ?_
  refine r_aload dX11_isSwapped_2 rfl ?_
  refine r_aload dX11_isSwapped_4 rfl ?_
  refine r_cV (as := [ax_r 85, ax_i x1, ax_r a4, ax_r a5]) (how_V (ci := 11) jX11_rowsAt jIX11_rowsAt jVX11_rowsAt rfl s0_85 (by decide) rfl rfl wX11_201 dX11_isSwapped_6) rfl (Nat.le_refl _) (Nat.le_of_ble_eq_true rfl) (fun _ => Nat.le_of_ble_eq_true rfl) H (fun I1 H => ?_)
  refine r_aload_n dX11_isSwapped_9 rfl ?_
  refine r_aload_n dX11_isSwapped_10 rfl ?_
  refine r_getR clX11 13 (by decide) s0_85 rfl rfl wX11_51 dX11_isSwapped_11 ?_
  refine r_iconst dX11_isSwapped_14 ?_
  refine r_iconst dX11_isSwapped_15 ?_
  refine r_cV (as := [ax_r 85, ax_r 104, ax_i 2, ax_i 1]) (how_V (ci := 11) jX11_crosses jIX11_crosses jVX11_crosses rfl s0_85 (by decide) rfl rfl wX11_205 dX11_isSwapped_16) rfl (Nat.le_refl _) (Nat.le_of_ble_eq_true rfl) (fun _ => Nat.le_of_ble_eq_true rfl) H (fun I2 H => ?_)
  refine r_aload_n dX11_isSwapped_19 rfl ?_
  refine r_aload_n dX11_isSwapped_20 rfl ?_
  refine r_getR clX11 14 (by decide) s0_85 rfl rfl wX11_54 dX11_isSwapped_21 ?_
  refine r_iconst dX11_isSwapped_24 ?_
  refine r_iconst dX11_isSwapped_25 ?_
  refine r_cV (as := [ax_r 85, ax_r 105, ax_i 2, ax_i 0]) (how_V (ci := 11) jX11_crosses jIX11_crosses jVX11_crosses rfl s0_85 (by decide) rfl rfl wX11_205 dX11_isSwapped_26) rfl (Nat.le_refl _) (Nat.le_of_ble_eq_true rfl) (fun _ => Nat.le_of_ble_eq_true rfl) H (fun I3 H => ?_)
  refine r_aload_n dX11_isSwapped_29 rfl ?_
  refine r_aload_n dX11_isSwapped_30 rfl ?_
  refine r_getR clX11 15 (by decide) s0_85 rfl rfl wX11_57 dX11_isSwapped_31 ?_
  refine r_iconst dX11_isSwapped_34 ?_
  refine r_iconst dX11_isSwapped_35 ?_
  refine r_cV (as := [ax_r 85, ax_r 106, ax_i 1, ax_i 0]) (how_V (ci := 11) jX11_crosses jIX11_crosses jVX11_crosses rfl s0_85 (by decide) rfl rfl wX11_205 dX11_isSwapped_36) rfl (Nat.le_refl _) (Nat.le_of_ble_eq_true rfl) (fun _ => Nat.le_of_ble_eq_true rfl) H (fun I4 H => ?_)
  refine r_aload_n dX11_isSwapped_39 rfl ?_
  refine r_getR clX11 16 (by decide) s0_85 rfl rfl wX11_60 dX11_isSwapped_40 ?_
  refine r_aload_n dX11_isSwapped_43 rfl ?_
  refine r_getR clX11 14 (by decide) s0_85 rfl rfl wX11_54 dX11_isSwapped_44 ?_
  refine r_aload_n dX11_isSwapped_47 rfl ?_
  refine r_cV (as := [ax_r 107, ax_r 105, ax_r a2]) (how_S jX11_times jSX11_times rfl wX11_194 dX11_isSwapped_48) rfl (Nat.le_refl _) (Nat.le_of_ble_eq_true rfl) (fun _ => Nat.le_of_ble_eq_true rfl) H (fun I5 H => ?_)
  refine r_aload_n dX11_isSwapped_51 rfl ?_
  refine r_getR clX11 17 (by decide) s0_85 rfl rfl wX11_63 dX11_isSwapped_52 ?_
  refine r_aload_n dX11_isSwapped_55 rfl ?_
  refine r_getR clX11 15 (by decide) s0_85 rfl rfl wX11_57 dX11_isSwapped_56 ?_
  refine r_aload_n dX11_isSwapped_59 rfl ?_
  refine r_cV (as := [ax_r 108, ax_r 106, ax_r a3]) (how_S jX11_times jSX11_times rfl wX11_194 dX11_isSwapped_60) rfl (Nat.le_refl _) (Nat.le_of_ble_eq_true rfl) (fun _ => Nat.le_of_ble_eq_true rfl) H (fun I6 H => ?_)
  refine r_aload_n dX11_isSwapped_63 rfl ?_
  refine r_getR clX11 19 (by decide) s0_85 rfl rfl wX11_69 dX11_isSwapped_64 ?_
  refine r_bipush (v := 30) dX11_isSwapped_67 (by decide) ?_
  refine r_aload_n dX11_isSwapped_69 rfl ?_
  refine r_getR clX11 16 (by decide) s0_85 rfl rfl wX11_60 dX11_isSwapped_70 ?_
  refine r_bipush (v := 30) dX11_isSwapped_73 (by decide) ?_
  refine r_aload_n dX11_isSwapped_75 rfl ?_
  refine r_getR clX11 17 (by decide) s0_85 rfl rfl wX11_63 dX11_isSwapped_76 ?_
  refine r_cV (as := [ax_r 110, ax_i 30, ax_r 107, ax_i 30, ax_r 108]) (how_S jX11_sums jSX11_sums rfl wX11_197 dX11_isSwapped_79) rfl (Nat.le_refl _) (Nat.le_of_ble_eq_true rfl) (fun _ => Nat.le_of_ble_eq_true rfl) H (fun I7 H => ?_)
  refine r_aload_n dX11_isSwapped_82 rfl ?_
  refine r_getR clX11 16 (by decide) s0_85 rfl rfl wX11_60 dX11_isSwapped_83 ?_
  refine r_aload_n dX11_isSwapped_86 rfl ?_
  refine r_getR clX11 13 (by decide) s0_85 rfl rfl wX11_51 dX11_isSwapped_87 ?_
  refine r_aload_n dX11_isSwapped_90 rfl ?_
  refine r_cV (as := [ax_r 107, ax_r 104, ax_r a2]) (how_S jX11_times jSX11_times rfl wX11_194 dX11_isSwapped_91) rfl (Nat.le_refl _) (Nat.le_of_ble_eq_true rfl) (fun _ => Nat.le_of_ble_eq_true rfl) H (fun I8 H => ?_)
  refine r_aload_n dX11_isSwapped_94 rfl ?_
  refine r_getR clX11 17 (by decide) s0_85 rfl rfl wX11_63 dX11_isSwapped_95 ?_
  refine r_aload_n dX11_isSwapped_98 rfl ?_
  refine r_getR clX11 14 (by decide) s0_85 rfl rfl wX11_54 dX11_isSwapped_99 ?_
  refine r_aload_n dX11_isSwapped_102 rfl ?_
  refine r_cV (as := [ax_r 108, ax_r 105, ax_r a3]) (how_S jX11_times jSX11_times rfl wX11_194 dX11_isSwapped_103) rfl (Nat.le_refl _) (Nat.le_of_ble_eq_true rfl) (fun _ => Nat.le_of_ble_eq_true rfl) H (fun I9 H => ?_)
  refine r_aload_n dX11_isSwapped_106 rfl ?_
  refine r_getR clX11 20 (by decide) s0_85 rfl rfl wX11_72 dX11_isSwapped_107 ?_
  refine r_iconst dX11_isSwapped_110 ?_
  refine r_aload_n dX11_isSwapped_111 rfl ?_
  refine r_getR clX11 16 (by decide) s0_85 rfl rfl wX11_60 dX11_isSwapped_112 ?_
  refine r_iconst dX11_isSwapped_115 ?_
  refine r_aload_n dX11_isSwapped_116 rfl ?_
  refine r_getR clX11 17 (by decide) s0_85 rfl rfl wX11_63 dX11_isSwapped_117 ?_
  refine r_cV (as := [ax_r 111, ax_i 1, ax_r 107, ax_i 1, ax_r 108]) (how_S jX11_sums jSX11_sums rfl wX11_197 dX11_isSwapped_120) rfl (Nat.le_refl _) (Nat.le_of_ble_eq_true rfl) (fun _ => Nat.le_of_ble_eq_true rfl) H (fun I10 H => ?_)
  refine r_aload_n dX11_isSwapped_123 rfl ?_
  refine r_getR clX11 19 (by decide) s0_85 rfl rfl wX11_69 dX11_isSwapped_124 ?_
  refine r_iconst dX11_isSwapped_127 ?_
  refine r_iald s0_110 (by decide) dX11_isSwapped_128 (by decide) ?_
  refine r_heapR (fun hI11 => ?_)
  refine r_if_ge (tgt := 143) dX11_isSwapped_129 (by decide) (hI11 _ _) (fun c12 => ?_) (fun c12 => ?_)
  · have H := H.1 c12
    refine r_aload_n dX11_isSwapped_143 rfl ?_
    refine r_aload_n dX11_isSwapped_144 rfl ?_
    refine r_getR clX11 19 (by decide) s0_85 rfl rfl wX11_69 dX11_isSwapped_145 ?_
    refine r_cV (as := [ax_r a2, ax_r 110]) (how_S jX11_becomes jSX11_becomes rfl wX11_183 dX11_isSwapped_148) rfl (Nat.le_refl _) (Nat.le_of_ble_eq_true rfl) (fun _ => Nat.le_of_ble_eq_true rfl) H (fun I13 H => ?_)
    refine r_aload_n dX11_isSwapped_151 rfl ?_
    refine r_aload_n dX11_isSwapped_152 rfl ?_
    refine r_getR clX11 20 (by decide) s0_85 rfl rfl wX11_72 dX11_isSwapped_153 ?_
    refine r_cV (as := [ax_r a3, ax_r 111]) (how_S jX11_becomes jSX11_becomes rfl wX11_183 dX11_isSwapped_156) rfl (Nat.le_refl _) (Nat.le_of_ble_eq_true rfl) (fun _ => Nat.le_of_ble_eq_true rfl) H (fun I14 H => ?_)
    refine r_aload_n dX11_isSwapped_159 rfl ?_
    refine r_aload_n dX11_isSwapped_160 rfl ?_
    refine r_aload_n dX11_isSwapped_161 rfl ?_
    refine r_cV (as := [ax_r 85, ax_r a2, ax_r a3]) (how_V (ci := 11) jX11_lowers jIX11_lowers jVX11_lowers rfl s0_85 (by decide) rfl rfl wX11_209 dX11_isSwapped_162) rfl (Nat.le_refl _) (Nat.le_of_ble_eq_true rfl) (fun _ => Nat.le_of_ble_eq_true rfl) H (fun I15 H => ?_)
    refine r_iconst dX11_isSwapped_165 ?_
    exact r_zret dX11_isSwapped_166 rfl (by decide) ⟨rfl, _, rfl, H⟩
  · have H := H.2 c12
    refine r_aload_n dX11_isSwapped_132 rfl ?_
    refine r_getR clX11 20 (by decide) s0_85 rfl rfl wX11_72 dX11_isSwapped_133 ?_
    refine r_iconst dX11_isSwapped_136 ?_
    refine r_iald s0_111 (by decide) dX11_isSwapped_137 (by decide) ?_
    refine r_if_ge (tgt := 143) dX11_isSwapped_138 (by decide) (hI11 _ _) (fun c16 => ?_) (fun c16 => ?_)
    · have H := H.1 c16
      refine r_aload_n dX11_isSwapped_143 rfl ?_
      refine r_aload_n dX11_isSwapped_144 rfl ?_
      refine r_getR clX11 19 (by decide) s0_85 rfl rfl wX11_69 dX11_isSwapped_145 ?_
      refine r_cV (as := [ax_r a2, ax_r 110]) (how_S jX11_becomes jSX11_becomes rfl wX11_183 dX11_isSwapped_148) rfl (Nat.le_refl _) (Nat.le_of_ble_eq_true rfl) (fun _ => Nat.le_of_ble_eq_true rfl) H (fun I17 H => ?_)
      refine r_aload_n dX11_isSwapped_151 rfl ?_
      refine r_aload_n dX11_isSwapped_152 rfl ?_
      refine r_getR clX11 20 (by decide) s0_85 rfl rfl wX11_72 dX11_isSwapped_153 ?_
      refine r_cV (as := [ax_r a3, ax_r 111]) (how_S jX11_becomes jSX11_becomes rfl wX11_183 dX11_isSwapped_156) rfl (Nat.le_refl _) (Nat.le_of_ble_eq_true rfl) (fun _ => Nat.le_of_ble_eq_true rfl) H (fun I18 H => ?_)
      refine r_aload_n dX11_isSwapped_159 rfl ?_
      refine r_aload_n dX11_isSwapped_160 rfl ?_
      refine r_aload_n dX11_isSwapped_161 rfl ?_
      refine r_cV (as := [ax_r 85, ax_r a2, ax_r a3]) (how_V (ci := 11) jX11_lowers jIX11_lowers jVX11_lowers rfl s0_85 (by decide) rfl rfl wX11_209 dX11_isSwapped_162) rfl (Nat.le_refl _) (Nat.le_of_ble_eq_true rfl) (fun _ => Nat.le_of_ble_eq_true rfl) H (fun I19 H => ?_)
      refine r_iconst dX11_isSwapped_165 ?_
      exact r_zret dX11_isSwapped_166 rfl (by decide) ⟨rfl, _, rfl, H⟩
    · have H := H.2 c16
      refine r_iconst dX11_isSwapped_141 ?_
      exact r_zret dX11_isSwapped_142 rfl (by decide) ⟨rfl, _, rfl, H⟩

theorem vX11_degree_0 {d : Nat} {Q : Int → ax_H → Prop} {x1 : Int} {x2 : Int} {x3 : Int} {I : ax_H} (r1 : ax_R x1) (r2 : ax_R x2) (r3 : ax_R x3) (H :
  cI (d + 3) kX11_in [ax_l x3, ax_l 0, ax_l 1] I (fun w2 I1 =>
  ax_R w2 ∧
  ((w2 = 0 →
    Q (-1) I1) ∧
  (¬ w2 = 0 →
    cI (d + 3) kX11_in [ax_l x2, ax_l 0, ax_l 30] I1 (fun w6 I5 =>
    ax_R w6 ∧
    ((w6 ≠ 0 →
      cI (d + 3) kX11_in [ax_l x1, ax_l 0, ax_l 3] I5 (fun w10 I9 =>
      ax_R w10 ∧
      ((w10 ≠ 0 →
        cV (d + 3) kX11_constant [ax_r 94, ax_i 1] (ax_st (ax_st (ax_st I9 93 0 1) 93 1 0) 93 2 1) (fun I13 =>
        cV (d + 3) kX11_constant [ax_r 95, ax_i x2] I13 (fun I14 =>
        cV (d + 3) kX11_constant [ax_r 96, ax_i 1] I14 (fun I15 =>
        RI (d + 4) kX11_degree 87 [some (ax_r 85), some (ax_i x1), none, some (ax_i x3), some (ax_i 0), none] I15 Q)))) ∧
      (w10 = 0 →
        Q (-2) I9)))) ∧
    (w6 = 0 →
      Q (-1) I5))))))) :
  RI (d + 4) kX11_degree 0 [some (ax_r 85), some (ax_i x1), some (ax_i x2), some (ax_i x3), none, none] I Q := by
  show Rn _ _ _ _ _ _ _ _
  refine r_iload_n dX11_degree_0 rfl ?_
  refine r_i2l dX11_degree_1 r3 ?_
  refine r_lconst (v := 0) dX11_degree_2 rfl ?_
  refine r_lconst (v := 1) dX11_degree_3 rfl ?_
  refine r_cI (as := [ax_l x3, ax_l 0, ax_l 1]) (how_S jX11_in jSX11_in rfl wX11_99 dX11_degree_4) rfl (Nat.le_refl _) (Nat.le_of_ble_eq_true rfl) (fun _ => Nat.le_of_ble_eq_true rfl) H (fun w2 I1 H => ?_)
  have ob3 := H.1
  have H := H.2
  refine r_if_eq (tgt := 22) dX11_degree_7 (by decide) ob3 (fun c4 => ?_) (fun c4 => ?_)
  · have H := H.1 c4
    refine r_iconst dX11_degree_22 ?_
    exact r_iret dX11_degree_23 rfl ⟨rfl, _, rfl, H⟩
  · have H := H.2 c4
    refine r_iload_n dX11_degree_10 rfl ?_
    refine r_i2l dX11_degree_11 r2 ?_
    refine r_lconst (v := 0) dX11_degree_12 rfl ?_
    refine r_ldc2 (v := 30) dX11_degree_13 wX11_113 ?_
    refine r_cI (as := [ax_l x2, ax_l 0, ax_l 30]) (how_S jX11_in jSX11_in rfl wX11_99 dX11_degree_16) rfl (Nat.le_refl _) (Nat.le_of_ble_eq_true rfl) (fun _ => Nat.le_of_ble_eq_true rfl) H (fun w6 I5 H => ?_)
    have ob7 := H.1
    have H := H.2
    refine r_if_ne (tgt := 24) dX11_degree_19 (by decide) ob7 (fun c8 => ?_) (fun c8 => ?_)
    · have H := H.1 c8
      refine r_iload_n dX11_degree_24 rfl ?_
      refine r_i2l dX11_degree_25 r1 ?_
      refine r_lconst (v := 0) dX11_degree_26 rfl ?_
      refine r_ldc2 (v := 3) dX11_degree_27 wX11_212 ?_
      refine r_cI (as := [ax_l x1, ax_l 0, ax_l 3]) (how_S jX11_in jSX11_in rfl wX11_99 dX11_degree_30) rfl (Nat.le_refl _) (Nat.le_of_ble_eq_true rfl) (fun _ => Nat.le_of_ble_eq_true rfl) H (fun w10 I9 H => ?_)
      have ob11 := H.1
      have H := H.2
      refine r_if_ne (tgt := 39) dX11_degree_33 (by decide) ob11 (fun c12 => ?_) (fun c12 => ?_)
      · have H := H.1 c12
        refine r_aload_n dX11_degree_39 rfl ?_
        refine r_getR clX11 8 (by decide) s0_85 rfl rfl wX11_34 dX11_degree_40 ?_
        refine r_iconst dX11_degree_43 ?_
        refine r_iconst dX11_degree_44 ?_
        refine r_iast s0_93 (by decide) dX11_degree_45 (by decide) (by decide) ?_
        refine r_aload_n dX11_degree_46 rfl ?_
        refine r_getR clX11 8 (by decide) s0_85 rfl rfl wX11_34 dX11_degree_47 ?_
        refine r_iconst dX11_degree_50 ?_
        refine r_iconst dX11_degree_51 ?_
        refine r_iast s0_93 (by decide) dX11_degree_52 (by decide) (by decide) ?_
        refine r_aload_n dX11_degree_53 rfl ?_
        refine r_getR clX11 8 (by decide) s0_85 rfl rfl wX11_34 dX11_degree_54 ?_
        refine r_iconst dX11_degree_57 ?_
        refine r_iconst dX11_degree_58 ?_
        refine r_iast s0_93 (by decide) dX11_degree_59 (by decide) (by decide) ?_
        refine r_aload_n dX11_degree_60 rfl ?_
        refine r_getR clX11 9 (by decide) s0_85 rfl rfl wX11_37 dX11_degree_61 ?_
        refine r_iconst dX11_degree_64 ?_
        refine r_cV (as := [ax_r 94, ax_i 1]) (how_S jX11_constant jSX11_constant rfl wX11_191 dX11_degree_65) rfl (Nat.le_refl _) (Nat.le_of_ble_eq_true rfl) (fun _ => Nat.le_of_ble_eq_true rfl) H (fun I13 H => ?_)
        refine r_aload_n dX11_degree_68 rfl ?_
        refine r_getR clX11 10 (by decide) s0_85 rfl rfl wX11_40 dX11_degree_69 ?_
        refine r_iload_n dX11_degree_72 rfl ?_
        refine r_cV (as := [ax_r 95, ax_i x2]) (how_S jX11_constant jSX11_constant rfl wX11_191 dX11_degree_73) rfl (Nat.le_refl _) (Nat.le_of_ble_eq_true rfl) (fun _ => Nat.le_of_ble_eq_true rfl) H (fun I14 H => ?_)
        refine r_aload_n dX11_degree_76 rfl ?_
        refine r_getR clX11 11 (by decide) s0_85 rfl rfl wX11_43 dX11_degree_77 ?_
        refine r_iconst dX11_degree_80 ?_
        refine r_cV (as := [ax_r 96, ax_i 1]) (how_S jX11_constant jSX11_constant rfl wX11_191 dX11_degree_81) rfl (Nat.le_refl _) (Nat.le_of_ble_eq_true rfl) (fun _ => Nat.le_of_ble_eq_true rfl) H (fun I15 H => ?_)
        refine r_iconst dX11_degree_84 ?_
        refine r_istore dX11_degree_85 (by decide) rfl ?_
        refine r_drop (ls2 := [some (ax_r 85), some (ax_i x1), none, some (ax_i x3), some (ax_i 0), none]) ?_ (ax_leS (ax_leS (ax_leN (ax_leS (ax_leS (ax_leN ax_leE))))))
        exact H
      · have H := H.2 c12
        refine r_bipush (v := (-2)) dX11_degree_36 (by decide) ?_
        exact r_iret dX11_degree_38 rfl ⟨rfl, _, rfl, H⟩
    · have H := H.2 c8
      refine r_iconst dX11_degree_22 ?_
      exact r_iret dX11_degree_23 rfl ⟨rfl, _, rfl, H⟩

theorem vX11_degree_87 {d : Nat} {Q : Int → ax_H → Prop} {x1 : Int} {x3 : Int} {x4 : Int} {I : ax_H} (r1 : ax_R x1) (r3 : ax_R x3) (r4 : ax_R x4) (H :
  (x1 ≤ x4 →
    (x3 ≠ 0 →
      ((I 95 0) < 0 →
        Q 0 I) ∧
      (¬ (I 95 0) < 0 →
        (0 ≤ (I 96 0) →
          ((I 95 0) ≤ (I 96 0) →
            Q (I 96 0) I) ∧
          (¬ (I 95 0) ≤ (I 96 0) →
            Q (I 95 0) I)) ∧
        (¬ 0 ≤ (I 96 0) →
          Q 0 I))) ∧
    (x3 = 0 →
      ((I 93 0) < 0 →
        Q 0 I) ∧
      (¬ (I 93 0) < 0 →
        (0 ≤ (I 94 0) →
          ((I 93 0) ≤ (I 94 0) →
            Q (I 94 0) I) ∧
          (¬ (I 93 0) ≤ (I 94 0) →
            Q (I 93 0) I)) ∧
        (¬ 0 ≤ (I 94 0) →
          Q 0 I)))) ∧
  (¬ x1 ≤ x4 →
    cI (d + 3) kX11_isSwapped [ax_r 85, ax_i 0, ax_r 93, ax_r 94, ax_r 95, ax_r 96] I (fun w14 I13 =>
    ax_R w14 ∧
    ((w14 = 0 →
      Q (-7) I13) ∧
    (¬ w14 = 0 →
      cI (d + 3) kX11_isSwapped [ax_r 85, ax_i 1, ax_r 95, ax_r 96, ax_r 93, ax_r 94] I13 (fun w18 I17 =>
      ax_R w18 ∧
      ((w18 ≠ 0 →
        RI (d + 4) kX11_degree 87 [some (ax_r 85), some (ax_i x1), none, some (ax_i x3), some (ax_i (x4 + 1)), none] I17 Q) ∧
      (w18 = 0 →
        Q (-7) I17)))))))) :
  RI (d + 4) kX11_degree 87 [some (ax_r 85), some (ax_i x1), none, some (ax_i x3), some (ax_i x4), none] I Q := by
  show Rn _ _ _ _ _ _ _ _
  refine r_iload dX11_degree_87 rfl ?_
  refine r_iload_n dX11_degree_89 rfl ?_
  refine r_icmp_ge (tgt := 150) dX11_degree_90 (by decide) r4 r1 (fun c1 => ?_) (fun c1 => ?_)
  · have H := H.1 c1
    refine r_iload_n dX11_degree_150 rfl ?_
    refine r_if_ne (tgt := 163) dX11_degree_151 (by decide) r3 (fun c2 => ?_) (fun c2 => ?_)
    · have H := H.1 c2
      refine r_aload_n dX11_degree_163 rfl ?_
      refine r_getR clX11 10 (by decide) s0_85 rfl rfl wX11_40 dX11_degree_164 ?_
      refine r_iconst dX11_degree_167 ?_
      refine r_iald s0_95 (by decide) dX11_degree_168 (by decide) ?_
      refine r_istore dX11_degree_169 (by decide) rfl ?_
      refine r_iload_n dX11_degree_171 rfl ?_
      refine r_if_ne (tgt := 184) dX11_degree_172 (by decide) r3 (fun c3 => ?_) (fun c3 => absurd c3 c2)
      refine r_aload_n dX11_degree_184 rfl ?_
      refine r_getR clX11 11 (by decide) s0_85 rfl rfl wX11_43 dX11_degree_185 ?_
      refine r_iconst dX11_degree_188 ?_
      refine r_iald s0_96 (by decide) dX11_degree_189 (by decide) ?_
      refine r_istore dX11_degree_190 (by decide) rfl ?_
      refine r_iload dX11_degree_192 rfl ?_
      refine r_heapR (fun hI4 => ?_)
      refine r_if_lt (tgt := 202) dX11_degree_194 (by decide) (hI4 _ _) (fun c5 => ?_) (fun c5 => ?_)
      · have H := H.1 c5
        refine r_iconst dX11_degree_202 ?_
        refine r_goto (tgt := 220) dX11_degree_203 (by decide) ?_
        exact r_iret dX11_degree_220 rfl ⟨rfl, _, rfl, H⟩
      · have H := H.2 c5
        refine r_iload dX11_degree_197 rfl ?_
        refine r_if_ge (tgt := 206) dX11_degree_199 (by decide) (hI4 _ _) (fun c6 => ?_) (fun c6 => ?_)
        · have H := H.1 c6
          refine r_iload dX11_degree_206 rfl ?_
          refine r_iload dX11_degree_208 rfl ?_
          refine r_icmp_le (tgt := 218) dX11_degree_210 (by decide) (hI4 _ _) (hI4 _ _) (fun c7 => ?_) (fun c7 => ?_)
          · have H := H.1 c7
            refine r_iload dX11_degree_218 rfl ?_
            exact r_iret dX11_degree_220 rfl ⟨rfl, _, rfl, H⟩
          · have H := H.2 c7
            refine r_iload dX11_degree_213 rfl ?_
            refine r_goto (tgt := 220) dX11_degree_215 (by decide) ?_
            exact r_iret dX11_degree_220 rfl ⟨rfl, _, rfl, H⟩
        · have H := H.2 c6
          refine r_iconst dX11_degree_202 ?_
          refine r_goto (tgt := 220) dX11_degree_203 (by decide) ?_
          exact r_iret dX11_degree_220 rfl ⟨rfl, _, rfl, H⟩
    · have H := H.2 c2
      refine r_aload_n dX11_degree_154 rfl ?_
      refine r_getR clX11 8 (by decide) s0_85 rfl rfl wX11_34 dX11_degree_155 ?_
      refine r_iconst dX11_degree_158 ?_
      refine r_iald s0_93 (by decide) dX11_degree_159 (by decide) ?_
      refine r_goto (tgt := 169) dX11_degree_160 (by decide) ?_
      refine r_istore dX11_degree_169 (by decide) rfl ?_
      refine r_iload_n dX11_degree_171 rfl ?_
      refine r_if_ne (tgt := 184) dX11_degree_172 (by decide) r3 (fun c8 => absurd c2 c8) (fun c8 => ?_)
      refine r_aload_n dX11_degree_175 rfl ?_
      refine r_getR clX11 9 (by decide) s0_85 rfl rfl wX11_37 dX11_degree_176 ?_
      refine r_iconst dX11_degree_179 ?_
      refine r_iald s0_94 (by decide) dX11_degree_180 (by decide) ?_
      refine r_goto (tgt := 190) dX11_degree_181 (by decide) ?_
      refine r_istore dX11_degree_190 (by decide) rfl ?_
      refine r_iload dX11_degree_192 rfl ?_
      refine r_heapR (fun hI9 => ?_)
      refine r_if_lt (tgt := 202) dX11_degree_194 (by decide) (hI9 _ _) (fun c10 => ?_) (fun c10 => ?_)
      · have H := H.1 c10
        refine r_iconst dX11_degree_202 ?_
        refine r_goto (tgt := 220) dX11_degree_203 (by decide) ?_
        exact r_iret dX11_degree_220 rfl ⟨rfl, _, rfl, H⟩
      · have H := H.2 c10
        refine r_iload dX11_degree_197 rfl ?_
        refine r_if_ge (tgt := 206) dX11_degree_199 (by decide) (hI9 _ _) (fun c11 => ?_) (fun c11 => ?_)
        · have H := H.1 c11
          refine r_iload dX11_degree_206 rfl ?_
          refine r_iload dX11_degree_208 rfl ?_
          refine r_icmp_le (tgt := 218) dX11_degree_210 (by decide) (hI9 _ _) (hI9 _ _) (fun c12 => ?_) (fun c12 => ?_)
          · have H := H.1 c12
            refine r_iload dX11_degree_218 rfl ?_
            exact r_iret dX11_degree_220 rfl ⟨rfl, _, rfl, H⟩
          · have H := H.2 c12
            refine r_iload dX11_degree_213 rfl ?_
            refine r_goto (tgt := 220) dX11_degree_215 (by decide) ?_
            exact r_iret dX11_degree_220 rfl ⟨rfl, _, rfl, H⟩
        · have H := H.2 c11
          refine r_iconst dX11_degree_202 ?_
          refine r_goto (tgt := 220) dX11_degree_203 (by decide) ?_
          exact r_iret dX11_degree_220 rfl ⟨rfl, _, rfl, H⟩
  · have H := H.2 c1
    refine r_aload_n dX11_degree_93 rfl ?_
    refine r_iconst dX11_degree_94 ?_
    refine r_aload_n dX11_degree_95 rfl ?_
    refine r_getR clX11 8 (by decide) s0_85 rfl rfl wX11_34 dX11_degree_96 ?_
    refine r_aload_n dX11_degree_99 rfl ?_
    refine r_getR clX11 9 (by decide) s0_85 rfl rfl wX11_37 dX11_degree_100 ?_
    refine r_aload_n dX11_degree_103 rfl ?_
    refine r_getR clX11 10 (by decide) s0_85 rfl rfl wX11_40 dX11_degree_104 ?_
    refine r_aload_n dX11_degree_107 rfl ?_
    refine r_getR clX11 11 (by decide) s0_85 rfl rfl wX11_43 dX11_degree_108 ?_
    refine r_cI (as := [ax_r 85, ax_i 0, ax_r 93, ax_r 94, ax_r 95, ax_r 96]) (how_V (ci := 11) jX11_isSwapped jIX11_isSwapped jVX11_isSwapped rfl s0_85 (by decide) rfl rfl wX11_214 dX11_degree_111) rfl (Nat.le_refl _) (Nat.le_of_ble_eq_true rfl) (fun _ => Nat.le_of_ble_eq_true rfl) H (fun w14 I13 H => ?_)
    have ob15 := H.1
    have H := H.2
    refine r_if_eq (tgt := 141) dX11_degree_114 (by decide) ob15 (fun c16 => ?_) (fun c16 => ?_)
    · have H := H.1 c16
      refine r_bipush (v := (-7)) dX11_degree_141 (by decide) ?_
      exact r_iret dX11_degree_143 rfl ⟨rfl, _, rfl, H⟩
    · have H := H.2 c16
      refine r_aload_n dX11_degree_117 rfl ?_
      refine r_iconst dX11_degree_118 ?_
      refine r_aload_n dX11_degree_119 rfl ?_
      refine r_getR clX11 10 (by decide) s0_85 rfl rfl wX11_40 dX11_degree_120 ?_
      refine r_aload_n dX11_degree_123 rfl ?_
      refine r_getR clX11 11 (by decide) s0_85 rfl rfl wX11_43 dX11_degree_124 ?_
      refine r_aload_n dX11_degree_127 rfl ?_
      refine r_getR clX11 8 (by decide) s0_85 rfl rfl wX11_34 dX11_degree_128 ?_
      refine r_aload_n dX11_degree_131 rfl ?_
      refine r_getR clX11 9 (by decide) s0_85 rfl rfl wX11_37 dX11_degree_132 ?_
      refine r_cI (as := [ax_r 85, ax_i 1, ax_r 95, ax_r 96, ax_r 93, ax_r 94]) (how_V (ci := 11) jX11_isSwapped jIX11_isSwapped jVX11_isSwapped rfl s0_85 (by decide) rfl rfl wX11_214 dX11_degree_135) rfl (Nat.le_refl _) (Nat.le_of_ble_eq_true rfl) (fun _ => Nat.le_of_ble_eq_true rfl) H (fun w18 I17 H => ?_)
      have ob19 := H.1
      have H := H.2
      refine r_if_ne (tgt := 144) dX11_degree_138 (by decide) ob19 (fun c20 => ?_) (fun c20 => ?_)
      · have H := H.1 c20
        refine r_iinc dX11_degree_144 (by decide) rfl rfl ?_
        refine r_goto (tgt := 87) dX11_degree_147 (by decide) ?_
        exact H
      · have H := H.2 c20
        refine r_bipush (v := (-7)) dX11_degree_141 (by decide) ?_
        exact r_iret dX11_degree_143 rfl ⟨rfl, _, rfl, H⟩

theorem vX11_placeIn_0 {d : Nat} {Q : Int → ax_H → Prop} {x1 : Int} {I : ax_H} (H :
  RI d kX11_placeIn 2 [some (ax_r 85), some (ax_i x1), some (ax_i 0)] I Q) :
  RI d kX11_placeIn 0 [some (ax_r 85), some (ax_i x1), none] I Q := by
  show Rn _ _ _ _ _ _ _ _
  refine r_iconst dX11_placeIn_0 ?_
  refine r_istore_n dX11_placeIn_1 (by decide) rfl ?_
  exact H

theorem vX11_placeIn_2 {d : Nat} {Q : Int → ax_H → Prop} {x1 : Int} {x2 : Int} {I : ax_H} (r1 : ax_R x1) (r2 : ax_R x2) (H :
  ((I 86 18) ≤ x2 →
    Q x2 I) ∧
  (¬ (I 86 18) ≤ x2 →
    (0 ≤ (19 + x2) ∧ (19 + x2) < 48) ∧
    ((x1 ≤ (I 86 (19 + x2)) →
      Q x2 I) ∧
    (¬ x1 ≤ (I 86 (19 + x2)) →
      RI d kX11_placeIn 2 [some (ax_r 85), some (ax_i x1), some (ax_i (x2 + 1))] I Q)))) :
  RI d kX11_placeIn 2 [some (ax_r 85), some (ax_i x1), some (ax_i x2)] I Q := by
  show Rn _ _ _ _ _ _ _ _
  refine r_iload_n dX11_placeIn_2 rfl ?_
  refine r_aload_n dX11_placeIn_3 rfl ?_
  refine r_getR clX11 0 (by decide) s0_85 rfl rfl wX11_11 dX11_placeIn_4 ?_
  refine r_bipush (v := 18) dX11_placeIn_7 (by decide) ?_
  refine r_iald s0_86 (by decide) dX11_placeIn_9 (by decide) ?_
  refine r_heapR (fun hI1 => ?_)
  refine r_icmp_ge (tgt := 32) dX11_placeIn_10 (by decide) r2 (hI1 _ _) (fun c2 => ?_) (fun c2 => ?_)
  · have H := H.1 c2
    refine r_iload_n dX11_placeIn_32 rfl ?_
    exact r_iret dX11_placeIn_33 rfl ⟨rfl, _, rfl, H⟩
  · have H := H.2 c2
    refine r_aload_n dX11_placeIn_13 rfl ?_
    refine r_getR clX11 0 (by decide) s0_85 rfl rfl wX11_11 dX11_placeIn_14 ?_
    refine r_bipush (v := 19) dX11_placeIn_17 (by decide) ?_
    refine r_iload_n dX11_placeIn_19 rfl ?_
    refine r_iadd dX11_placeIn_20 ?_
    have ob3 := H.1
    have H := H.2
    refine r_iald s0_86 (by decide) dX11_placeIn_21 ob3 ?_
    refine r_iload_n dX11_placeIn_22 rfl ?_
    refine r_icmp_ge (tgt := 32) dX11_placeIn_23 (by decide) (hI1 _ _) r1 (fun c4 => ?_) (fun c4 => ?_)
    · have H := H.1 c4
      refine r_iload_n dX11_placeIn_32 rfl ?_
      exact r_iret dX11_placeIn_33 rfl ⟨rfl, _, rfl, H⟩
    · have H := H.2 c4
      refine r_iinc dX11_placeIn_26 (by decide) rfl rfl ?_
      refine r_goto (tgt := 2) dX11_placeIn_29 (by decide) ?_
      exact H

theorem vX11_isTold_0 {d : Nat} {Q : Int → ax_H → Prop} {x1 : Int} {I : ax_H} (r1 : ax_R x1) (H :
  cI d kX11_placeIn [ax_r 85, ax_i x1] I (fun w2 I1 =>
  ax_R w2 ∧
  (((I1 86 18) ≤ w2 →
    Q 0 I1) ∧
  (¬ (I1 86 18) ≤ w2 →
    (0 ≤ (19 + w2) ∧ (19 + w2) < 48) ∧
    (((I1 86 (19 + w2)) ≠ x1 →
      Q 0 I1) ∧
    ((I1 86 (19 + w2)) = x1 →
      Q 1 I1)))))) :
  RI (d + 1) kX11_isTold 0 [some (ax_r 85), some (ax_i x1), none] I Q := by
  show Rn _ _ _ _ _ _ _ _
  refine r_aload_n dX11_isTold_0 rfl ?_
  refine r_iload_n dX11_isTold_1 rfl ?_
  refine r_cI (as := [ax_r 85, ax_i x1]) (how_V (ci := 11) jX11_placeIn jIX11_placeIn jVX11_placeIn rfl s0_85 (by decide) rfl rfl wX11_218 dX11_isTold_2) rfl (Nat.le_refl _) (Nat.le_of_ble_eq_true rfl) (fun _ => Nat.le_of_ble_eq_true rfl) H (fun w2 I1 H => ?_)
  refine r_istore_n dX11_isTold_5 (by decide) rfl ?_
  refine r_iload_n dX11_isTold_6 rfl ?_
  refine r_aload_n dX11_isTold_7 rfl ?_
  refine r_getR clX11 0 (by decide) s0_85 rfl rfl wX11_11 dX11_isTold_8 ?_
  refine r_bipush (v := 18) dX11_isTold_11 (by decide) ?_
  refine r_iald s0_86 (by decide) dX11_isTold_13 (by decide) ?_
  have ob3 := H.1
  have H := H.2
  refine r_heapR (fun hI4 => ?_)
  refine r_icmp_ge (tgt := 34) dX11_isTold_14 (by decide) ob3 (hI4 _ _) (fun c5 => ?_) (fun c5 => ?_)
  · have H := H.1 c5
    refine r_iconst dX11_isTold_34 ?_
    exact r_zret dX11_isTold_35 rfl (by decide) ⟨rfl, _, rfl, H⟩
  · have H := H.2 c5
    refine r_aload_n dX11_isTold_17 rfl ?_
    refine r_getR clX11 0 (by decide) s0_85 rfl rfl wX11_11 dX11_isTold_18 ?_
    refine r_bipush (v := 19) dX11_isTold_21 (by decide) ?_
    refine r_iload_n dX11_isTold_23 rfl ?_
    refine r_iadd dX11_isTold_24 ?_
    have ob6 := H.1
    have H := H.2
    refine r_iald s0_86 (by decide) dX11_isTold_25 ob6 ?_
    refine r_iload_n dX11_isTold_26 rfl ?_
    refine r_icmp_ne (tgt := 34) dX11_isTold_27 (by decide) (hI4 _ _) r1 (fun c7 => ?_) (fun c7 => ?_)
    · have H := H.1 c7
      refine r_iconst dX11_isTold_34 ?_
      exact r_zret dX11_isTold_35 rfl (by decide) ⟨rfl, _, rfl, H⟩
    · have H := H.2 c7
      refine r_iconst dX11_isTold_30 ?_
      refine r_goto (tgt := 35) dX11_isTold_31 (by decide) ?_
      exact r_zret dX11_isTold_35 rfl (by decide) ⟨rfl, _, rfl, H⟩

theorem vX11_tell_0 {d : Nat} {Q : Int → ax_H → Prop} {x1 : Int} {x2 : Int} {I : ax_H} (H :
  cI (d + 2) kX11_isSpot [ax_i x1, ax_i x2] I (fun w2 I1 =>
  ax_R w2 ∧
  ((w2 ≠ 0 →
    ∀ y3_16, y3_16 = ((32 * x1) + x2) →
    (cI (d + 2) kX11_isTold [ax_r 85, ax_i y3_16] I1 (fun w7 I6 =>
    ax_R w7 ∧
    ((w7 = 0 →
      ((I6 86 18) ≠ 12 →
        cI (d + 2) kX11_placeIn [ax_r 85, ax_i y3_16] I6 (fun w13 I12 =>
        RI (d + 3) kX11_tell 59 [some (ax_r 85), none, none, some (ax_i y3_16), some (ax_i w13), some (ax_i (I12 86 18))] I12 Q)) ∧
      ((I6 86 18) = 12 →
        Q (-4) I6)) ∧
    (¬ w7 = 0 →
      Q (-3) I6))))) ∧
  (w2 = 0 →
    Q (-1) I1)))) :
  RI (d + 3) kX11_tell 0 [some (ax_r 85), some (ax_i x1), some (ax_i x2), none, none, none] I Q := by
  show Rn _ _ _ _ _ _ _ _
  refine r_iload_n dX11_tell_0 rfl ?_
  refine r_iload_n dX11_tell_1 rfl ?_
  refine r_cI (as := [ax_i x1, ax_i x2]) (how_S jX11_isSpot jSX11_isSpot rfl wX11_123 dX11_tell_2) rfl (Nat.le_refl _) (Nat.le_of_ble_eq_true rfl) (fun _ => Nat.le_of_ble_eq_true rfl) H (fun w2 I1 H => ?_)
  have ob3 := H.1
  have H := H.2
  refine r_if_ne (tgt := 10) dX11_tell_5 (by decide) ob3 (fun c4 => ?_) (fun c4 => ?_)
  · have H := H.1 c4
    refine r_bipush (v := 32) dX11_tell_10 (by decide) ?_
    refine r_iload_n dX11_tell_12 rfl ?_
    refine r_imul dX11_tell_13 ?_
    refine r_iload_n dX11_tell_14 rfl ?_
    refine r_iadd dX11_tell_15 ?_
    refine r_name (fun y3_16 e5 => ?_)
    have H := H y3_16 e5
    refine r_istore_n dX11_tell_16 (by decide) rfl ?_
    refine r_aload_n dX11_tell_17 rfl ?_
    refine r_iload_n dX11_tell_18 rfl ?_
    refine r_cI (as := [ax_r 85, ax_i y3_16]) (how_V (ci := 11) jX11_isTold jIX11_isTold jVX11_isTold rfl s0_85 (by decide) rfl rfl wX11_221 dX11_tell_19) rfl (Nat.le_refl _) (Nat.le_of_ble_eq_true rfl) (fun _ => Nat.le_of_ble_eq_true rfl) H (fun w7 I6 H => ?_)
    have ob8 := H.1
    have H := H.2
    refine r_if_eq (tgt := 28) dX11_tell_22 (by decide) ob8 (fun c9 => ?_) (fun c9 => ?_)
    · have H := H.1 c9
      refine r_aload_n dX11_tell_28 rfl ?_
      refine r_getR clX11 0 (by decide) s0_85 rfl rfl wX11_11 dX11_tell_29 ?_
      refine r_bipush (v := 18) dX11_tell_32 (by decide) ?_
      refine r_iald s0_86 (by decide) dX11_tell_34 (by decide) ?_
      refine r_bipush (v := 12) dX11_tell_35 (by decide) ?_
      refine r_heapR (fun hI10 => ?_)
      refine r_icmp_ne (tgt := 43) dX11_tell_37 (by decide) (hI10 _ _) (by decide) (fun c11 => ?_) (fun c11 => ?_)
      · have H := H.1 c11
        refine r_aload_n dX11_tell_43 rfl ?_
        refine r_iload_n dX11_tell_44 rfl ?_
        refine r_cI (as := [ax_r 85, ax_i y3_16]) (how_V (ci := 11) jX11_placeIn jIX11_placeIn jVX11_placeIn rfl s0_85 (by decide) rfl rfl wX11_218 dX11_tell_45) rfl (Nat.le_refl _) (Nat.le_of_ble_eq_true rfl) (fun _ => Nat.le_of_ble_eq_true rfl) H (fun w13 I12 H => ?_)
        refine r_istore dX11_tell_48 (by decide) rfl ?_
        refine r_aload_n dX11_tell_50 rfl ?_
        refine r_getR clX11 0 (by decide) s0_85 rfl rfl wX11_11 dX11_tell_51 ?_
        refine r_bipush (v := 18) dX11_tell_54 (by decide) ?_
        refine r_iald s0_86 (by decide) dX11_tell_56 (by decide) ?_
        refine r_istore dX11_tell_57 (by decide) rfl ?_
        refine r_drop (ls2 := [some (ax_r 85), none, none, some (ax_i y3_16), some (ax_i w13), some (ax_i (I12 86 18))]) ?_ (ax_leS (ax_leN (ax_leN (ax_leS (ax_leS (ax_leS ax_leE))))))
        exact H
      · have H := H.2 c11
        refine r_bipush (v := (-4)) dX11_tell_40 (by decide) ?_
        exact r_iret dX11_tell_42 rfl ⟨rfl, _, rfl, H⟩
    · have H := H.2 c9
      refine r_bipush (v := (-3)) dX11_tell_25 (by decide) ?_
      exact r_iret dX11_tell_27 rfl ⟨rfl, _, rfl, H⟩
  · have H := H.2 c4
    refine r_iconst dX11_tell_8 ?_
    exact r_iret dX11_tell_9 rfl ⟨rfl, _, rfl, H⟩

theorem vX11_tell_59 {d : Nat} {Q : Int → ax_H → Prop} {x3 : Int} {x4 : Int} {x5 : Int} {I : ax_H} (r3 : ax_R x3) (r4 : ax_R x4) (r5 : ax_R x5) (H :
  (x5 ≤ x4 →
    (0 ≤ (19 + x4) ∧ (19 + x4) < 48) ∧
    (ax_R (((ax_st I 86 (19 + x4) x3) 86 18) + 1) ∧
    (Q ((ax_st (ax_st I 86 (19 + x4) x3) 86 18 (((ax_st I 86 (19 + x4) x3) 86 18) + 1)) 86 18) (ax_st (ax_st I 86 (19 + x4) x3) 86 18 (((ax_st I 86 (19 + x4) x3) 86 18) + 1))))) ∧
  (¬ x5 ≤ x4 →
    (0 ≤ ((19 + x5) - 1) ∧ ((19 + x5) - 1) < 48) ∧
    ((0 ≤ (19 + x5) ∧ (19 + x5) < 48) ∧
    (RI (d + 3) kX11_tell 59 [some (ax_r 85), none, none, some (ax_i x3), some (ax_i x4), some (ax_i (x5 + (-1)))] (ax_st I 86 (19 + x5) (I 86 ((19 + x5) - 1))) Q)))) :
  RI (d + 3) kX11_tell 59 [some (ax_r 85), none, none, some (ax_i x3), some (ax_i x4), some (ax_i x5)] I Q := by
  show Rn _ _ _ _ _ _ _ _
  refine r_iload dX11_tell_59 rfl ?_
  refine r_iload dX11_tell_61 rfl ?_
  refine r_icmp_le (tgt := 94) dX11_tell_63 (by decide) r5 r4 (fun c1 => ?_) (fun c1 => ?_)
  · have H := H.1 c1
    refine r_aload_n dX11_tell_94 rfl ?_
    refine r_getR clX11 0 (by decide) s0_85 rfl rfl wX11_11 dX11_tell_95 ?_
    refine r_bipush (v := 19) dX11_tell_98 (by decide) ?_
    refine r_iload dX11_tell_100 rfl ?_
    refine r_iadd dX11_tell_102 ?_
    refine r_iload_n dX11_tell_103 rfl ?_
    have ob2 := H.1
    have H := H.2
    refine r_iast s0_86 (by decide) dX11_tell_104 ob2 r3 ?_
    refine r_aload_n dX11_tell_105 rfl ?_
    refine r_getR clX11 0 (by decide) s0_85 rfl rfl wX11_11 dX11_tell_106 ?_
    refine r_bipush (v := 18) dX11_tell_109 (by decide) ?_
    refine r_dup2 dX11_tell_111 (fun _ => rfl) (fun _ => rfl) ?_
    refine r_iald s0_86 (by decide) dX11_tell_112 (by decide) ?_
    refine r_iconst dX11_tell_113 ?_
    refine r_iadd dX11_tell_114 ?_
    have ob3 := H.1
    have H := H.2
    refine r_iast s0_86 (by decide) dX11_tell_115 (by decide) ob3 ?_
    refine r_aload_n dX11_tell_116 rfl ?_
    refine r_getR clX11 0 (by decide) s0_85 rfl rfl wX11_11 dX11_tell_117 ?_
    refine r_bipush (v := 18) dX11_tell_120 (by decide) ?_
    refine r_iald s0_86 (by decide) dX11_tell_122 (by decide) ?_
    exact r_iret dX11_tell_123 rfl ⟨rfl, _, rfl, H⟩
  · have H := H.2 c1
    refine r_aload_n dX11_tell_66 rfl ?_
    refine r_getR clX11 0 (by decide) s0_85 rfl rfl wX11_11 dX11_tell_67 ?_
    refine r_bipush (v := 19) dX11_tell_70 (by decide) ?_
    refine r_iload dX11_tell_72 rfl ?_
    refine r_iadd dX11_tell_74 ?_
    refine r_aload_n dX11_tell_75 rfl ?_
    refine r_getR clX11 0 (by decide) s0_85 rfl rfl wX11_11 dX11_tell_76 ?_
    refine r_bipush (v := 19) dX11_tell_79 (by decide) ?_
    refine r_iload dX11_tell_81 rfl ?_
    refine r_iadd dX11_tell_83 ?_
    refine r_iconst dX11_tell_84 ?_
    refine r_isub dX11_tell_85 ?_
    have ob4 := H.1
    have H := H.2
    refine r_iald s0_86 (by decide) dX11_tell_86 ob4 ?_
    have ob5 := H.1
    have H := H.2
    refine r_heapR (fun hI6 => ?_)
    refine r_iast s0_86 (by decide) dX11_tell_87 ob5 (hI6 _ _) ?_
    refine r_iinc dX11_tell_88 (by decide) rfl rfl ?_
    refine r_goto (tgt := 59) dX11_tell_91 (by decide) ?_
    exact H

theorem vX11_forget_0 {d : Nat} {Q : Int → ax_H → Prop} {x1 : Int} {x2 : Int} {I : ax_H} (H :
  cI (d + 2) kX11_isSpot [ax_i x1, ax_i x2] I (fun w2 I1 =>
  ax_R w2 ∧
  ((w2 ≠ 0 →
    ∀ y3_16, y3_16 = ((32 * x1) + x2) →
    (cI (d + 2) kX11_isTold [ax_r 85, ax_i y3_16] I1 (fun w7 I6 =>
    ax_R w7 ∧
    ((w7 ≠ 0 →
      ax_R ((I6 86 18) - 1) ∧
      (cI (d + 2) kX11_placeIn [ax_r 85, ax_i y3_16] (ax_st I6 86 18 ((I6 86 18) - 1)) (fun w12 I11 =>
      RI (d + 3) kX11_forget 46 [some (ax_r 85), none, none, none, some (ax_i w12)] I11 Q))) ∧
    (w7 = 0 →
      Q (-3) I6))))) ∧
  (w2 = 0 →
    Q (-1) I1)))) :
  RI (d + 3) kX11_forget 0 [some (ax_r 85), some (ax_i x1), some (ax_i x2), none, none] I Q := by
  show Rn _ _ _ _ _ _ _ _
  refine r_iload_n dX11_forget_0 rfl ?_
  refine r_iload_n dX11_forget_1 rfl ?_
  refine r_cI (as := [ax_i x1, ax_i x2]) (how_S jX11_isSpot jSX11_isSpot rfl wX11_123 dX11_forget_2) rfl (Nat.le_refl _) (Nat.le_of_ble_eq_true rfl) (fun _ => Nat.le_of_ble_eq_true rfl) H (fun w2 I1 H => ?_)
  have ob3 := H.1
  have H := H.2
  refine r_if_ne (tgt := 10) dX11_forget_5 (by decide) ob3 (fun c4 => ?_) (fun c4 => ?_)
  · have H := H.1 c4
    refine r_bipush (v := 32) dX11_forget_10 (by decide) ?_
    refine r_iload_n dX11_forget_12 rfl ?_
    refine r_imul dX11_forget_13 ?_
    refine r_iload_n dX11_forget_14 rfl ?_
    refine r_iadd dX11_forget_15 ?_
    refine r_name (fun y3_16 e5 => ?_)
    have H := H y3_16 e5
    refine r_istore_n dX11_forget_16 (by decide) rfl ?_
    refine r_aload_n dX11_forget_17 rfl ?_
    refine r_iload_n dX11_forget_18 rfl ?_
    refine r_cI (as := [ax_r 85, ax_i y3_16]) (how_V (ci := 11) jX11_isTold jIX11_isTold jVX11_isTold rfl s0_85 (by decide) rfl rfl wX11_221 dX11_forget_19) rfl (Nat.le_refl _) (Nat.le_of_ble_eq_true rfl) (fun _ => Nat.le_of_ble_eq_true rfl) H (fun w7 I6 H => ?_)
    have ob8 := H.1
    have H := H.2
    refine r_if_ne (tgt := 28) dX11_forget_22 (by decide) ob8 (fun c9 => ?_) (fun c9 => ?_)
    · have H := H.1 c9
      refine r_aload_n dX11_forget_28 rfl ?_
      refine r_getR clX11 0 (by decide) s0_85 rfl rfl wX11_11 dX11_forget_29 ?_
      refine r_bipush (v := 18) dX11_forget_32 (by decide) ?_
      refine r_dup2 dX11_forget_34 (fun _ => rfl) (fun _ => rfl) ?_
      refine r_iald s0_86 (by decide) dX11_forget_35 (by decide) ?_
      refine r_iconst dX11_forget_36 ?_
      refine r_isub dX11_forget_37 ?_
      have ob10 := H.1
      have H := H.2
      refine r_iast s0_86 (by decide) dX11_forget_38 (by decide) ob10 ?_
      refine r_aload_n dX11_forget_39 rfl ?_
      refine r_iload_n dX11_forget_40 rfl ?_
      refine r_cI (as := [ax_r 85, ax_i y3_16]) (how_V (ci := 11) jX11_placeIn jIX11_placeIn jVX11_placeIn rfl s0_85 (by decide) rfl rfl wX11_218 dX11_forget_41) rfl (Nat.le_refl _) (Nat.le_of_ble_eq_true rfl) (fun _ => Nat.le_of_ble_eq_true rfl) H (fun w12 I11 H => ?_)
      refine r_istore dX11_forget_44 (by decide) rfl ?_
      refine r_drop (ls2 := [some (ax_r 85), none, none, none, some (ax_i w12)]) ?_ (ax_leS (ax_leN (ax_leN (ax_leN (ax_leS ax_leE)))))
      exact H
    · have H := H.2 c9
      refine r_bipush (v := (-3)) dX11_forget_25 (by decide) ?_
      exact r_iret dX11_forget_27 rfl ⟨rfl, _, rfl, H⟩
  · have H := H.2 c4
    refine r_iconst dX11_forget_8 ?_
    exact r_iret dX11_forget_9 rfl ⟨rfl, _, rfl, H⟩

theorem vX11_forget_46 {d : Nat} {Q : Int → ax_H → Prop} {x4 : Int} {I : ax_H} (r4 : ax_R x4) (H :
  ((I 86 18) ≤ x4 →
    (0 ≤ (19 + (I 86 18)) ∧ (19 + (I 86 18)) < 48) ∧
    (Q ((ax_st I 86 (19 + (I 86 18)) 0) 86 18) (ax_st I 86 (19 + (I 86 18)) 0))) ∧
  (¬ (I 86 18) ≤ x4 →
    (0 ≤ ((19 + x4) + 1) ∧ ((19 + x4) + 1) < 48) ∧
    ((0 ≤ (19 + x4) ∧ (19 + x4) < 48) ∧
    (RI (d + 3) kX11_forget 46 [some (ax_r 85), none, none, none, some (ax_i (x4 + 1))] (ax_st I 86 (19 + x4) (I 86 ((19 + x4) + 1))) Q)))) :
  RI (d + 3) kX11_forget 46 [some (ax_r 85), none, none, none, some (ax_i x4)] I Q := by
  show Rn _ _ _ _ _ _ _ _
  refine r_iload dX11_forget_46 rfl ?_
  refine r_aload_n dX11_forget_48 rfl ?_
  refine r_getR clX11 0 (by decide) s0_85 rfl rfl wX11_11 dX11_forget_49 ?_
  refine r_bipush (v := 18) dX11_forget_52 (by decide) ?_
  refine r_iald s0_86 (by decide) dX11_forget_54 (by decide) ?_
  refine r_heapR (fun hI1 => ?_)
  refine r_icmp_ge (tgt := 86) dX11_forget_55 (by decide) r4 (hI1 _ _) (fun c2 => ?_) (fun c2 => ?_)
  · have H := H.1 c2
    refine r_aload_n dX11_forget_86 rfl ?_
    refine r_getR clX11 0 (by decide) s0_85 rfl rfl wX11_11 dX11_forget_87 ?_
    refine r_bipush (v := 19) dX11_forget_90 (by decide) ?_
    refine r_aload_n dX11_forget_92 rfl ?_
    refine r_getR clX11 0 (by decide) s0_85 rfl rfl wX11_11 dX11_forget_93 ?_
    refine r_bipush (v := 18) dX11_forget_96 (by decide) ?_
    refine r_iald s0_86 (by decide) dX11_forget_98 (by decide) ?_
    refine r_iadd dX11_forget_99 ?_
    refine r_iconst dX11_forget_100 ?_
    have ob3 := H.1
    have H := H.2
    refine r_iast s0_86 (by decide) dX11_forget_101 ob3 (by decide) ?_
    refine r_aload_n dX11_forget_102 rfl ?_
    refine r_getR clX11 0 (by decide) s0_85 rfl rfl wX11_11 dX11_forget_103 ?_
    refine r_bipush (v := 18) dX11_forget_106 (by decide) ?_
    refine r_iald s0_86 (by decide) dX11_forget_108 (by decide) ?_
    exact r_iret dX11_forget_109 rfl ⟨rfl, _, rfl, H⟩
  · have H := H.2 c2
    refine r_aload_n dX11_forget_58 rfl ?_
    refine r_getR clX11 0 (by decide) s0_85 rfl rfl wX11_11 dX11_forget_59 ?_
    refine r_bipush (v := 19) dX11_forget_62 (by decide) ?_
    refine r_iload dX11_forget_64 rfl ?_
    refine r_iadd dX11_forget_66 ?_
    refine r_aload_n dX11_forget_67 rfl ?_
    refine r_getR clX11 0 (by decide) s0_85 rfl rfl wX11_11 dX11_forget_68 ?_
    refine r_bipush (v := 19) dX11_forget_71 (by decide) ?_
    refine r_iload dX11_forget_73 rfl ?_
    refine r_iadd dX11_forget_75 ?_
    refine r_iconst dX11_forget_76 ?_
    refine r_iadd dX11_forget_77 ?_
    have ob4 := H.1
    have H := H.2
    refine r_iald s0_86 (by decide) dX11_forget_78 ob4 ?_
    have ob5 := H.1
    have H := H.2
    refine r_iast s0_86 (by decide) dX11_forget_79 ob5 (hI1 _ _) ?_
    refine r_iinc dX11_forget_80 (by decide) rfl rfl ?_
    refine r_goto (tgt := 46) dX11_forget_83 (by decide) ?_
    exact H

theorem vX11_told_0 {d : Nat} {Q : Int → ax_H → Prop} {x1 : Int} {I : ax_H} (r1 : ax_R x1) (H :
  ax_R ((I 86 18) - 1) ∧
  (cI d kX11_in [ax_l x1, ax_l 0, ax_l ((I 86 18) - 1)] I (fun w3 I2 =>
  ax_R w3 ∧
  ((w3 = 0 →
    Q (-5) I2) ∧
  (¬ w3 = 0 →
    (0 ≤ (19 + x1) ∧ (19 + x1) < 48) ∧
    (Q (I2 86 (19 + x1)) I2)))))) :
  RI (d + 1) kX11_told 0 [some (ax_r 85), some (ax_i x1)] I Q := by
  show Rn _ _ _ _ _ _ _ _
  refine r_iload_n dX11_told_0 rfl ?_
  refine r_i2l dX11_told_1 r1 ?_
  refine r_lconst (v := 0) dX11_told_2 rfl ?_
  refine r_aload_n dX11_told_3 rfl ?_
  refine r_getR clX11 0 (by decide) s0_85 rfl rfl wX11_11 dX11_told_4 ?_
  refine r_bipush (v := 18) dX11_told_7 (by decide) ?_
  refine r_iald s0_86 (by decide) dX11_told_9 (by decide) ?_
  refine r_iconst dX11_told_10 ?_
  refine r_isub dX11_told_11 ?_
  have ob1 := H.1
  have H := H.2
  refine r_i2l dX11_told_12 ob1 ?_
  refine r_cI (as := [ax_l x1, ax_l 0, ax_l ((I 86 18) - 1)]) (how_S jX11_in jSX11_in rfl wX11_99 dX11_told_13) rfl (Nat.le_refl _) (Nat.le_of_ble_eq_true rfl) (fun _ => Nat.le_of_ble_eq_true rfl) H (fun w3 I2 H => ?_)
  have ob4 := H.1
  have H := H.2
  refine r_if_eq (tgt := 31) dX11_told_16 (by decide) ob4 (fun c5 => ?_) (fun c5 => ?_)
  · have H := H.1 c5
    refine r_bipush (v := (-5)) dX11_told_31 (by decide) ?_
    exact r_iret dX11_told_33 rfl ⟨rfl, _, rfl, H⟩
  · have H := H.2 c5
    refine r_aload_n dX11_told_19 rfl ?_
    refine r_getR clX11 0 (by decide) s0_85 rfl rfl wX11_11 dX11_told_20 ?_
    refine r_bipush (v := 19) dX11_told_23 (by decide) ?_
    refine r_iload_n dX11_told_25 rfl ?_
    refine r_iadd dX11_told_26 ?_
    have ob6 := H.1
    have H := H.2
    refine r_iald s0_86 (by decide) dX11_told_27 ob6 ?_
    refine r_goto (tgt := 33) dX11_told_28 (by decide) ?_
    exact r_iret dX11_told_33 rfl ⟨rfl, _, rfl, H⟩

theorem vX11_moves_0 {d : Nat} {Q : ax_H → Prop} {I : ax_H} (H :
  RV (d + 6) kX11_moves 2 [some (ax_r 85), some (ax_i 0), none] I Q) :
  RV (d + 6) kX11_moves 0 [some (ax_r 85), none, none] I Q := by
  show Rn _ _ _ _ _ _ _ _
  refine r_iconst dX11_moves_0 ?_
  refine r_istore_n dX11_moves_1 (by decide) rfl ?_
  exact H

theorem vX11_moves_2 {d : Nat} {Q : ax_H → Prop} {x1 : Int} {I : ax_H} (r1 : ax_R x1) (H :
  (1024 ≤ x1 →
    RV (d + 6) kX11_moves 24 [some (ax_r 85), some (ax_i 0), none] I Q) ∧
  (¬ 1024 ≤ x1 →
    (0 ≤ x1 ∧ x1 < 1024) ∧
    (RV (d + 6) kX11_moves 2 [some (ax_r 85), some (ax_i (x1 + 1)), none] (ax_st I 112 x1 0) Q))) :
  RV (d + 6) kX11_moves 2 [some (ax_r 85), some (ax_i x1), none] I Q := by
  show Rn _ _ _ _ _ _ _ _
  refine r_iload_n dX11_moves_2 rfl ?_
  refine r_sipush (v := 1024) dX11_moves_3 (by decide) ?_
  refine r_icmp_ge (tgt := 22) dX11_moves_6 (by decide) r1 (by decide) (fun c1 => ?_) (fun c1 => ?_)
  · have H := H.1 c1
    refine r_iconst dX11_moves_22 ?_
    refine r_istore_n dX11_moves_23 (by decide) rfl ?_
    exact H
  · have H := H.2 c1
    refine r_aload_n dX11_moves_9 rfl ?_
    refine r_getR clX11 21 (by decide) s0_85 rfl rfl wX11_75 dX11_moves_10 ?_
    refine r_iload_n dX11_moves_13 rfl ?_
    refine r_iconst dX11_moves_14 ?_
    have ob2 := H.1
    have H := H.2
    refine r_zast s0_112 (by decide) dX11_moves_15 ob2 (by decide) ?_
    refine r_iinc dX11_moves_16 (by decide) rfl rfl ?_
    refine r_goto (tgt := 2) dX11_moves_19 (by decide) ?_
    exact H

theorem vX11_moves_24 {d : Nat} {Q : ax_H → Prop} {x1 : Int} {I : ax_H} (r1 : ax_R x1) (H :
  ((I 86 18) ≤ x1 →
    Q I) ∧
  (¬ (I 86 18) ≤ x1 →
    (0 ≤ (19 + x1) ∧ (19 + x1) < 48) ∧
    (cI (d + 5) kX11_step [ax_r 85, ax_i (I 86 (19 + x1)), ax_i 0] I (fun w5 I4 =>
    ax_R w5 ∧
    ((w5 = (-7) →
      RV (d + 6) kX11_moves 24 [some (ax_r 85), some (ax_i (x1 + 1)), none] I4 Q) ∧
    (¬ w5 = (-7) →
      (0 ≤ w5 ∧ w5 < 1024) ∧
      (RV (d + 6) kX11_moves 24 [some (ax_r 85), some (ax_i (x1 + 1)), none] (ax_st I4 112 w5 1) Q))))))) :
  RV (d + 6) kX11_moves 24 [some (ax_r 85), some (ax_i x1), none] I Q := by
  show Rn _ _ _ _ _ _ _ _
  refine r_iload_n dX11_moves_24 rfl ?_
  refine r_aload_n dX11_moves_25 rfl ?_
  refine r_getR clX11 0 (by decide) s0_85 rfl rfl wX11_11 dX11_moves_26 ?_
  refine r_bipush (v := 18) dX11_moves_29 (by decide) ?_
  refine r_iald s0_86 (by decide) dX11_moves_31 (by decide) ?_
  refine r_heapR (fun hI1 => ?_)
  refine r_icmp_ge (tgt := 69) dX11_moves_32 (by decide) r1 (hI1 _ _) (fun c2 => ?_) (fun c2 => ?_)
  · have H := H.1 c2
    exact r_vret dX11_moves_69 rfl ⟨rfl, rfl, H⟩
  · have H := H.2 c2
    refine r_aload_n dX11_moves_35 rfl ?_
    refine r_aload_n dX11_moves_36 rfl ?_
    refine r_getR clX11 0 (by decide) s0_85 rfl rfl wX11_11 dX11_moves_37 ?_
    refine r_bipush (v := 19) dX11_moves_40 (by decide) ?_
    refine r_iload_n dX11_moves_42 rfl ?_
    refine r_iadd dX11_moves_43 ?_
    have ob3 := H.1
    have H := H.2
    refine r_iald s0_86 (by decide) dX11_moves_44 ob3 ?_
    refine r_iconst dX11_moves_45 ?_
    refine r_cI (as := [ax_r 85, ax_i (I 86 (19 + x1)), ax_i 0]) (how_V (ci := 11) jX11_step jIX11_step jVX11_step rfl s0_85 (by decide) rfl rfl wX11_158 dX11_moves_46) rfl (Nat.le_refl _) (Nat.le_of_ble_eq_true rfl) (fun _ => Nat.le_of_ble_eq_true rfl) H (fun w5 I4 H => ?_)
    refine r_istore_n dX11_moves_49 (by decide) rfl ?_
    refine r_iload_n dX11_moves_50 rfl ?_
    refine r_bipush (v := (-7)) dX11_moves_51 (by decide) ?_
    have ob6 := H.1
    have H := H.2
    refine r_icmp_eq (tgt := 63) dX11_moves_53 (by decide) ob6 (by decide) (fun c7 => ?_) (fun c7 => ?_)
    · have H := H.1 c7
      refine r_iinc dX11_moves_63 (by decide) rfl rfl ?_
      refine r_goto (tgt := 24) dX11_moves_66 (by decide) ?_
      refine r_drop (ls2 := [some (ax_r 85), some (ax_i (x1 + 1)), none]) ?_ (ax_leS (ax_leS (ax_leN ax_leE)))
      exact H
    · have H := H.2 c7
      refine r_aload_n dX11_moves_56 rfl ?_
      refine r_getR clX11 21 (by decide) s0_85 rfl rfl wX11_75 dX11_moves_57 ?_
      refine r_iload_n dX11_moves_60 rfl ?_
      refine r_iconst dX11_moves_61 ?_
      have ob8 := H.1
      have H := H.2
      refine r_zast s0_112 (by decide) dX11_moves_62 ob8 (by decide) ?_
      refine r_iinc dX11_moves_63 (by decide) rfl rfl ?_
      refine r_goto (tgt := 24) dX11_moves_66 (by decide) ?_
      refine r_drop (ls2 := [some (ax_r 85), some (ax_i (x1 + 1)), none]) ?_ (ax_leS (ax_leS (ax_leN ax_leE)))
      exact H

theorem vX11_moved_0 {d : Nat} {Q : Int → ax_H → Prop} {x1 : Int} {I : ax_H} (H :
  cV (d + 6) kX11_moves [ax_r 85] I (fun I1 =>
  RI (d + 7) kX11_moved 8 [some (ax_r 85), some (ax_i x1), some (ax_i 0), some (ax_i 0)] I1 Q)) :
  RI (d + 7) kX11_moved 0 [some (ax_r 85), some (ax_i x1), none, none] I Q := by
  show Rn _ _ _ _ _ _ _ _
  refine r_aload_n dX11_moved_0 rfl ?_
  refine r_cV (as := [ax_r 85]) (how_V (ci := 11) jX11_moves jIX11_moves jVX11_moves rfl s0_85 (by decide) rfl rfl wX11_224 dX11_moved_1) rfl (Nat.le_refl _) (Nat.le_of_ble_eq_true rfl) (fun _ => Nat.le_of_ble_eq_true rfl) H (fun I1 H => ?_)
  refine r_iconst dX11_moved_4 ?_
  refine r_istore_n dX11_moved_5 (by decide) rfl ?_
  refine r_iconst dX11_moved_6 ?_
  refine r_istore_n dX11_moved_7 (by decide) rfl ?_
  exact H

theorem vX11_moved_8 {d : Nat} {Q : Int → ax_H → Prop} {x1 : Int} {x2 : Int} {x3 : Int} {I : ax_H} (r1 : ax_R x1) (r2 : ax_R x2) (r3 : ax_R x3) (H :
  (1024 ≤ x3 →
    (x1 ≠ (-1) →
      Q (-5) I) ∧
    (x1 = (-1) →
      Q x2 I)) ∧
  (¬ 1024 ≤ x3 →
    (0 ≤ x3 ∧ x3 < 1024) ∧
    (((I 112 x3) = 0 →
      RI (d + 7) kX11_moved 8 [some (ax_r 85), some (ax_i x1), some (ax_i x2), some (ax_i (x3 + 1))] I Q) ∧
    (¬ (I 112 x3) = 0 →
      (x2 ≠ x1 →
        RI (d + 7) kX11_moved 8 [some (ax_r 85), some (ax_i x1), some (ax_i (x2 + 1)), some (ax_i (x3 + 1))] I Q) ∧
      (x2 = x1 →
        Q x3 I))))) :
  RI (d + 7) kX11_moved 8 [some (ax_r 85), some (ax_i x1), some (ax_i x2), some (ax_i x3)] I Q := by
  show Rn _ _ _ _ _ _ _ _
  refine r_iload_n dX11_moved_8 rfl ?_
  refine r_sipush (v := 1024) dX11_moved_9 (by decide) ?_
  refine r_icmp_ge (tgt := 40) dX11_moved_12 (by decide) r3 (by decide) (fun c1 => ?_) (fun c1 => ?_)
  · have H := H.1 c1
    refine r_iload_n dX11_moved_40 rfl ?_
    refine r_iconst dX11_moved_41 ?_
    refine r_icmp_ne (tgt := 49) dX11_moved_42 (by decide) r1 (by decide) (fun c2 => ?_) (fun c2 => ?_)
    · have H := H.1 c2
      refine r_bipush (v := (-5)) dX11_moved_49 (by decide) ?_
      exact r_iret dX11_moved_51 rfl ⟨rfl, _, rfl, H⟩
    · have H := H.2 c2
      refine r_iload_n dX11_moved_45 rfl ?_
      refine r_goto (tgt := 51) dX11_moved_46 (by decide) ?_
      exact r_iret dX11_moved_51 rfl ⟨rfl, _, rfl, H⟩
  · have H := H.2 c1
    refine r_aload_n dX11_moved_15 rfl ?_
    refine r_getR clX11 21 (by decide) s0_85 rfl rfl wX11_75 dX11_moved_16 ?_
    refine r_iload_n dX11_moved_19 rfl ?_
    have ob3 := H.1
    have H := H.2
    refine r_zald s0_112 (by decide) dX11_moved_20 ob3 ?_
    refine r_heapR (fun hI4 => ?_)
    refine r_if_eq (tgt := 34) dX11_moved_21 (by decide) (hI4 _ _) (fun c5 => ?_) (fun c5 => ?_)
    · have H := H.1 c5
      refine r_iinc dX11_moved_34 (by decide) rfl rfl ?_
      refine r_goto (tgt := 8) dX11_moved_37 (by decide) ?_
      exact H
    · have H := H.2 c5
      refine r_iload_n dX11_moved_24 rfl ?_
      refine r_iload_n dX11_moved_25 rfl ?_
      refine r_icmp_ne (tgt := 31) dX11_moved_26 (by decide) r2 r1 (fun c6 => ?_) (fun c6 => ?_)
      · have H := H.1 c6
        refine r_iinc dX11_moved_31 (by decide) rfl rfl ?_
        refine r_iinc dX11_moved_34 (by decide) rfl rfl ?_
        refine r_goto (tgt := 8) dX11_moved_37 (by decide) ?_
        exact H
      · have H := H.2 c6
        refine r_iload_n dX11_moved_29 rfl ?_
        exact r_iret dX11_moved_30 rfl ⟨rfl, _, rfl, H⟩

theorem vX11_move_0 {d : Nat} {Q : Int → ax_H → Prop} {I : ax_H} (H :
  cV (d + 6) kX11_moves [ax_r 85] I (fun I1 =>
  RI (d + 7) kX11_move 6 [some (ax_r 85), some (ax_i 0)] I1 Q)) :
  RI (d + 7) kX11_move 0 [some (ax_r 85), none] I Q := by
  show Rn _ _ _ _ _ _ _ _
  refine r_aload_n dX11_move_0 rfl ?_
  refine r_cV (as := [ax_r 85]) (how_V (ci := 11) jX11_moves jIX11_moves jVX11_moves rfl s0_85 (by decide) rfl rfl wX11_224 dX11_move_1) rfl (Nat.le_refl _) (Nat.le_of_ble_eq_true rfl) (fun _ => Nat.le_of_ble_eq_true rfl) H (fun I1 H => ?_)
  refine r_iconst dX11_move_4 ?_
  refine r_istore_n dX11_move_5 (by decide) rfl ?_
  exact H

theorem vX11_move_6 {d : Nat} {Q : Int → ax_H → Prop} {x1 : Int} {I : ax_H} (r1 : ax_R x1) (H :
  (12 ≤ x1 →
    RI (d + 7) kX11_move 38 [some (ax_r 85), some (ax_i 0)] (ax_st I 86 18 0) Q) ∧
  (¬ 12 ≤ x1 →
    (0 ≤ (19 + x1) ∧ (19 + x1) < 48) ∧
    (RI (d + 7) kX11_move 6 [some (ax_r 85), some (ax_i (x1 + 1))] (ax_st I 86 (19 + x1) 0) Q))) :
  RI (d + 7) kX11_move 6 [some (ax_r 85), some (ax_i x1)] I Q := by
  show Rn _ _ _ _ _ _ _ _
  refine r_iload_n dX11_move_6 rfl ?_
  refine r_bipush (v := 12) dX11_move_7 (by decide) ?_
  refine r_icmp_ge (tgt := 28) dX11_move_9 (by decide) r1 (by decide) (fun c1 => ?_) (fun c1 => ?_)
  · have H := H.1 c1
    refine r_aload_n dX11_move_28 rfl ?_
    refine r_getR clX11 0 (by decide) s0_85 rfl rfl wX11_11 dX11_move_29 ?_
    refine r_bipush (v := 18) dX11_move_32 (by decide) ?_
    refine r_iconst dX11_move_34 ?_
    refine r_iast s0_86 (by decide) dX11_move_35 (by decide) (by decide) ?_
    refine r_iconst dX11_move_36 ?_
    refine r_istore_n dX11_move_37 (by decide) rfl ?_
    exact H
  · have H := H.2 c1
    refine r_aload_n dX11_move_12 rfl ?_
    refine r_getR clX11 0 (by decide) s0_85 rfl rfl wX11_11 dX11_move_13 ?_
    refine r_bipush (v := 19) dX11_move_16 (by decide) ?_
    refine r_iload_n dX11_move_18 rfl ?_
    refine r_iadd dX11_move_19 ?_
    refine r_iconst dX11_move_20 ?_
    have ob2 := H.1
    have H := H.2
    refine r_iast s0_86 (by decide) dX11_move_21 ob2 (by decide) ?_
    refine r_iinc dX11_move_22 (by decide) rfl rfl ?_
    refine r_goto (tgt := 6) dX11_move_25 (by decide) ?_
    exact H

theorem vX11_move_38 {d : Nat} {Q : Int → ax_H → Prop} {x1 : Int} {I : ax_H} (r1 : ax_R x1) (H :
  (1024 ≤ x1 →
    Q (I 86 18) I) ∧
  (¬ 1024 ≤ x1 →
    (0 ≤ x1 ∧ x1 < 1024) ∧
    (((I 112 x1) = 0 →
      RI (d + 7) kX11_move 38 [some (ax_r 85), some (ax_i (x1 + 1))] I Q) ∧
    (¬ (I 112 x1) = 0 →
      (0 ≤ (19 + (I 86 18)) ∧ (19 + (I 86 18)) < 48) ∧
      (ax_R (((ax_st I 86 (19 + (I 86 18)) x1) 86 18) + 1) ∧
      (RI (d + 7) kX11_move 38 [some (ax_r 85), some (ax_i (x1 + 1))] (ax_st (ax_st I 86 (19 + (I 86 18)) x1) 86 18 (((ax_st I 86 (19 + (I 86 18)) x1) 86 18) + 1)) Q)))))) :
  RI (d + 7) kX11_move 38 [some (ax_r 85), some (ax_i x1)] I Q := by
  show Rn _ _ _ _ _ _ _ _
  refine r_iload_n dX11_move_38 rfl ?_
  refine r_sipush (v := 1024) dX11_move_39 (by decide) ?_
  refine r_icmp_ge (tgt := 87) dX11_move_42 (by decide) r1 (by decide) (fun c1 => ?_) (fun c1 => ?_)
  · have H := H.1 c1
    refine r_aload_n dX11_move_87 rfl ?_
    refine r_getR clX11 0 (by decide) s0_85 rfl rfl wX11_11 dX11_move_88 ?_
    refine r_bipush (v := 18) dX11_move_91 (by decide) ?_
    refine r_iald s0_86 (by decide) dX11_move_93 (by decide) ?_
    exact r_iret dX11_move_94 rfl ⟨rfl, _, rfl, H⟩
  · have H := H.2 c1
    refine r_aload_n dX11_move_45 rfl ?_
    refine r_getR clX11 21 (by decide) s0_85 rfl rfl wX11_75 dX11_move_46 ?_
    refine r_iload_n dX11_move_49 rfl ?_
    have ob2 := H.1
    have H := H.2
    refine r_zald s0_112 (by decide) dX11_move_50 ob2 ?_
    refine r_heapR (fun hI3 => ?_)
    refine r_if_eq (tgt := 81) dX11_move_51 (by decide) (hI3 _ _) (fun c4 => ?_) (fun c4 => ?_)
    · have H := H.1 c4
      refine r_iinc dX11_move_81 (by decide) rfl rfl ?_
      refine r_goto (tgt := 38) dX11_move_84 (by decide) ?_
      exact H
    · have H := H.2 c4
      refine r_aload_n dX11_move_54 rfl ?_
      refine r_getR clX11 0 (by decide) s0_85 rfl rfl wX11_11 dX11_move_55 ?_
      refine r_bipush (v := 19) dX11_move_58 (by decide) ?_
      refine r_aload_n dX11_move_60 rfl ?_
      refine r_getR clX11 0 (by decide) s0_85 rfl rfl wX11_11 dX11_move_61 ?_
      refine r_bipush (v := 18) dX11_move_64 (by decide) ?_
      refine r_iald s0_86 (by decide) dX11_move_66 (by decide) ?_
      refine r_iadd dX11_move_67 ?_
      refine r_iload_n dX11_move_68 rfl ?_
      have ob5 := H.1
      have H := H.2
      refine r_iast s0_86 (by decide) dX11_move_69 ob5 r1 ?_
      refine r_aload_n dX11_move_70 rfl ?_
      refine r_getR clX11 0 (by decide) s0_85 rfl rfl wX11_11 dX11_move_71 ?_
      refine r_bipush (v := 18) dX11_move_74 (by decide) ?_
      refine r_dup2 dX11_move_76 (fun _ => rfl) (fun _ => rfl) ?_
      refine r_iald s0_86 (by decide) dX11_move_77 (by decide) ?_
      refine r_iconst dX11_move_78 ?_
      refine r_iadd dX11_move_79 ?_
      have ob6 := H.1
      have H := H.2
      refine r_iast s0_86 (by decide) dX11_move_80 (by decide) ob6 ?_
      refine r_iinc dX11_move_81 (by decide) rfl rfl ?_
      refine r_goto (tgt := 38) dX11_move_84 (by decide) ?_
      exact H

theorem vX11_grows_0 {d : Nat} {Q : Int → ax_H → Prop} {x1 : Int} {I : ax_H} (r1 : ax_R x1) (H :
  cI (d + 5) kX11_in [ax_l x1, ax_l 0, ax_l 40] I (fun w2 I1 =>
  ax_R w2 ∧
  ((w2 ≠ 0 →
    RI (d + 6) kX11_grows 17 [some (ax_r 85), some (ax_i x1), some (ax_i 0), none, none, none, none, none] I1 Q) ∧
  (w2 = 0 →
    Q (-2) I1)))) :
  RI (d + 6) kX11_grows 0 [some (ax_r 85), some (ax_i x1), none, none, none, none, none, none] I Q := by
  show Rn _ _ _ _ _ _ _ _
  refine r_iload_n dX11_grows_0 rfl ?_
  refine r_i2l dX11_grows_1 r1 ?_
  refine r_lconst (v := 0) dX11_grows_2 rfl ?_
  refine r_ldc2 (v := 40) dX11_grows_3 wX11_227 ?_
  refine r_cI (as := [ax_l x1, ax_l 0, ax_l 40]) (how_S jX11_in jSX11_in rfl wX11_99 dX11_grows_6) rfl (Nat.le_refl _) (Nat.le_of_ble_eq_true rfl) (fun _ => Nat.le_of_ble_eq_true rfl) H (fun w2 I1 H => ?_)
  have ob3 := H.1
  have H := H.2
  refine r_if_ne (tgt := 15) dX11_grows_9 (by decide) ob3 (fun c4 => ?_) (fun c4 => ?_)
  · have H := H.1 c4
    refine r_iconst dX11_grows_15 ?_
    refine r_istore_n dX11_grows_16 (by decide) rfl ?_
    exact H
  · have H := H.2 c4
    refine r_bipush (v := (-2)) dX11_grows_12 (by decide) ?_
    exact r_iret dX11_grows_14 rfl ⟨rfl, _, rfl, H⟩

theorem vX11_grows_17 {d : Nat} {Q : Int → ax_H → Prop} {x1 : Int} {x2 : Int} {I : ax_H} (r2 : ax_R x2) (H :
  (1024 ≤ x2 →
    RI (d + 6) kX11_grows 41 [some (ax_r 85), some (ax_i x1), some (ax_i 0), some (ax_i 0), none, none, none, none] I Q) ∧
  (¬ 1024 ≤ x2 →
    (0 ≤ x2 ∧ x2 < 1024) ∧
    (RI (d + 6) kX11_grows 17 [some (ax_r 85), some (ax_i x1), some (ax_i (x2 + 1)), none, none, none, none, none] (ax_st I 112 x2 0) Q))) :
  RI (d + 6) kX11_grows 17 [some (ax_r 85), some (ax_i x1), some (ax_i x2), none, none, none, none, none] I Q := by
  show Rn _ _ _ _ _ _ _ _
  refine r_iload_n dX11_grows_17 rfl ?_
  refine r_sipush (v := 1024) dX11_grows_18 (by decide) ?_
  refine r_icmp_ge (tgt := 37) dX11_grows_21 (by decide) r2 (by decide) (fun c1 => ?_) (fun c1 => ?_)
  · have H := H.1 c1
    refine r_iconst dX11_grows_37 ?_
    refine r_istore_n dX11_grows_38 (by decide) rfl ?_
    refine r_iconst dX11_grows_39 ?_
    refine r_istore_n dX11_grows_40 (by decide) rfl ?_
    exact H
  · have H := H.2 c1
    refine r_aload_n dX11_grows_24 rfl ?_
    refine r_getR clX11 21 (by decide) s0_85 rfl rfl wX11_75 dX11_grows_25 ?_
    refine r_iload_n dX11_grows_28 rfl ?_
    refine r_iconst dX11_grows_29 ?_
    have ob2 := H.1
    have H := H.2
    refine r_zast s0_112 (by decide) dX11_grows_30 ob2 (by decide) ?_
    refine r_iinc dX11_grows_31 (by decide) rfl rfl ?_
    refine r_goto (tgt := 17) dX11_grows_34 (by decide) ?_
    exact H

theorem vX11_grows_41 {d : Nat} {Q : Int → ax_H → Prop} {x1 : Int} {x2 : Int} {x3 : Int} {I : ax_H} (r3 : ax_R x3) (H :
  ((I 86 18) ≤ x3 →
    RI (d + 6) kX11_grows 96 [some (ax_r 85), some (ax_i x1), some (ax_i x2), some (ax_i 0), some (ax_i 0), none, none, none] I Q) ∧
  (¬ (I 86 18) ≤ x3 →
    (0 ≤ (19 + x3) ∧ (19 + x3) < 48) ∧
    ((0 ≤ (I 86 (19 + x3)) ∧ (I 86 (19 + x3)) < 1024) ∧
    ((0 ≤ x2 ∧ x2 < 1024) ∧
    (RI (d + 6) kX11_grows 41 [some (ax_r 85), some (ax_i x1), some (ax_i (x2 + 1)), some (ax_i (x3 + 1)), none, none, none, none] (ax_st (ax_st I 112 (I 86 (19 + x3)) 1) 90 x2 ((ax_st I 112 (I 86 (19 + x3)) 1) 86 (19 + x3))) Q))))) :
  RI (d + 6) kX11_grows 41 [some (ax_r 85), some (ax_i x1), some (ax_i x2), some (ax_i x3), none, none, none, none] I Q := by
  show Rn _ _ _ _ _ _ _ _
  refine r_iload_n dX11_grows_41 rfl ?_
  refine r_aload_n dX11_grows_42 rfl ?_
  refine r_getR clX11 0 (by decide) s0_85 rfl rfl wX11_11 dX11_grows_43 ?_
  refine r_bipush (v := 18) dX11_grows_46 (by decide) ?_
  refine r_iald s0_86 (by decide) dX11_grows_48 (by decide) ?_
  refine r_heapR (fun hI1 => ?_)
  refine r_icmp_ge (tgt := 91) dX11_grows_49 (by decide) r3 (hI1 _ _) (fun c2 => ?_) (fun c2 => ?_)
  · have H := H.1 c2
    refine r_iconst dX11_grows_91 ?_
    refine r_istore_n dX11_grows_92 (by decide) rfl ?_
    refine r_iconst dX11_grows_93 ?_
    refine r_istore dX11_grows_94 (by decide) rfl ?_
    exact H
  · have H := H.2 c2
    refine r_aload_n dX11_grows_52 rfl ?_
    refine r_getR clX11 21 (by decide) s0_85 rfl rfl wX11_75 dX11_grows_53 ?_
    refine r_aload_n dX11_grows_56 rfl ?_
    refine r_getR clX11 0 (by decide) s0_85 rfl rfl wX11_11 dX11_grows_57 ?_
    refine r_bipush (v := 19) dX11_grows_60 (by decide) ?_
    refine r_iload_n dX11_grows_62 rfl ?_
    refine r_iadd dX11_grows_63 ?_
    have ob3 := H.1
    have H := H.2
    refine r_iald s0_86 (by decide) dX11_grows_64 ob3 ?_
    refine r_iconst dX11_grows_65 ?_
    have ob4 := H.1
    have H := H.2
    refine r_zast s0_112 (by decide) dX11_grows_66 ob4 (by decide) ?_
    refine r_aload_n dX11_grows_67 rfl ?_
    refine r_getR clX11 5 (by decide) s0_85 rfl rfl wX11_24 dX11_grows_68 ?_
    refine r_iload_n dX11_grows_71 rfl ?_
    refine r_aload_n dX11_grows_72 rfl ?_
    refine r_getR clX11 0 (by decide) s0_85 rfl rfl wX11_11 dX11_grows_73 ?_
    refine r_bipush (v := 19) dX11_grows_76 (by decide) ?_
    refine r_iload_n dX11_grows_78 rfl ?_
    refine r_iadd dX11_grows_79 ?_
    refine r_iald s0_86 (by decide) dX11_grows_80 ob3 ?_
    have ob5 := H.1
    have H := H.2
    refine r_heapR (fun hI6 => ?_)
    refine r_iast s0_90 (by decide) dX11_grows_81 ob5 (hI6 _ _) ?_
    refine r_iinc dX11_grows_82 (by decide) rfl rfl ?_
    refine r_iinc dX11_grows_85 (by decide) rfl rfl ?_
    refine r_goto (tgt := 41) dX11_grows_88 (by decide) ?_
    exact H

theorem vX11_grows_96 {d : Nat} {Q : Int → ax_H → Prop} {x1 : Int} {x2 : Int} {x3 : Int} {x4 : Int} {I : ax_H} (r1 : ax_R x1) (r4 : ax_R x4) (H :
  (x1 ≤ x4 →
    Q x2 I) ∧
  (¬ x1 ≤ x4 →
    RI (d + 6) kX11_grows 108 [some (ax_r 85), some (ax_i x1), some (ax_i x2), none, some (ax_i x4), some (ax_i x2), some (ax_i x3), none] I Q)) :
  RI (d + 6) kX11_grows 96 [some (ax_r 85), some (ax_i x1), some (ax_i x2), some (ax_i x3), some (ax_i x4), none, none, none] I Q := by
  show Rn _ _ _ _ _ _ _ _
  refine r_iload dX11_grows_96 rfl ?_
  refine r_iload_n dX11_grows_98 rfl ?_
  refine r_icmp_ge (tgt := 180) dX11_grows_99 (by decide) r4 r1 (fun c1 => ?_) (fun c1 => ?_)
  · have H := H.1 c1
    refine r_iload_n dX11_grows_180 rfl ?_
    exact r_iret dX11_grows_181 rfl ⟨rfl, _, rfl, H⟩
  · have H := H.2 c1
    refine r_iload_n dX11_grows_102 rfl ?_
    refine r_istore dX11_grows_103 (by decide) rfl ?_
    refine r_iload_n dX11_grows_105 rfl ?_
    refine r_istore dX11_grows_106 (by decide) rfl ?_
    refine r_drop (ls2 := [some (ax_r 85), some (ax_i x1), some (ax_i x2), none, some (ax_i x4), some (ax_i x2), some (ax_i x3), none]) ?_ (ax_leS (ax_leS (ax_leS (ax_leN (ax_leS (ax_leS (ax_leS (ax_leN ax_leE))))))))
    exact H

theorem vX11_grows_108 {d : Nat} {Q : Int → ax_H → Prop} {x1 : Int} {x2 : Int} {x4 : Int} {x5 : Int} {x6 : Int} {I : ax_H} (r5 : ax_R x5) (r6 : ax_R x6) (H :
  (x5 ≤ x6 →
    RI (d + 6) kX11_grows 96 [some (ax_r 85), some (ax_i x1), some (ax_i x2), some (ax_i x5), some (ax_i (x4 + 1)), none, none, none] I Q) ∧
  (¬ x5 ≤ x6 →
    (0 ≤ x6 ∧ x6 < 1024) ∧
    (cI (d + 5) kX11_step [ax_r 85, ax_i (I 90 x6), ax_i 0] I (fun w4 I3 =>
    ax_R w4 ∧
    ((w4 = (-7) →
      RI (d + 6) kX11_grows 108 [some (ax_r 85), some (ax_i x1), some (ax_i x2), none, some (ax_i x4), some (ax_i x5), some (ax_i (x6 + 1)), none] I3 Q) ∧
    (¬ w4 = (-7) →
      (0 ≤ w4 ∧ w4 < 1024) ∧
      (((I3 112 w4) ≠ 0 →
        RI (d + 6) kX11_grows 108 [some (ax_r 85), some (ax_i x1), some (ax_i x2), none, some (ax_i x4), some (ax_i x5), some (ax_i (x6 + 1)), none] I3 Q) ∧
      ((I3 112 w4) = 0 →
        (0 ≤ x2 ∧ x2 < 1024) ∧
        (RI (d + 6) kX11_grows 108 [some (ax_r 85), some (ax_i x1), some (ax_i (x2 + 1)), none, some (ax_i x4), some (ax_i x5), some (ax_i (x6 + 1)), none] (ax_st (ax_st I3 112 w4 1) 90 x2 w4) Q))))))))) :
  RI (d + 6) kX11_grows 108 [some (ax_r 85), some (ax_i x1), some (ax_i x2), none, some (ax_i x4), some (ax_i x5), some (ax_i x6), none] I Q := by
  show Rn _ _ _ _ _ _ _ _
  refine r_iload dX11_grows_108 rfl ?_
  refine r_iload dX11_grows_110 rfl ?_
  refine r_icmp_ge (tgt := 171) dX11_grows_112 (by decide) r6 r5 (fun c1 => ?_) (fun c1 => ?_)
  · have H := H.1 c1
    refine r_iload dX11_grows_171 rfl ?_
    refine r_istore_n dX11_grows_173 (by decide) rfl ?_
    refine r_iinc dX11_grows_174 (by decide) rfl rfl ?_
    refine r_goto (tgt := 96) dX11_grows_177 (by decide) ?_
    refine r_drop (ls2 := [some (ax_r 85), some (ax_i x1), some (ax_i x2), some (ax_i x5), some (ax_i (x4 + 1)), none, none, none]) ?_ (ax_leS (ax_leS (ax_leS (ax_leS (ax_leS (ax_leN (ax_leN (ax_leN ax_leE))))))))
    exact H
  · have H := H.2 c1
    refine r_aload_n dX11_grows_115 rfl ?_
    refine r_aload_n dX11_grows_116 rfl ?_
    refine r_getR clX11 5 (by decide) s0_85 rfl rfl wX11_24 dX11_grows_117 ?_
    refine r_iload dX11_grows_120 rfl ?_
    have ob2 := H.1
    have H := H.2
    refine r_iald s0_90 (by decide) dX11_grows_122 ob2 ?_
    refine r_iconst dX11_grows_123 ?_
    refine r_cI (as := [ax_r 85, ax_i (I 90 x6), ax_i 0]) (how_V (ci := 11) jX11_step jIX11_step jVX11_step rfl s0_85 (by decide) rfl rfl wX11_158 dX11_grows_124) rfl (Nat.le_refl _) (Nat.le_of_ble_eq_true rfl) (fun _ => Nat.le_of_ble_eq_true rfl) H (fun w4 I3 H => ?_)
    refine r_istore dX11_grows_127 (by decide) rfl ?_
    refine r_iload dX11_grows_129 rfl ?_
    refine r_bipush (v := (-7)) dX11_grows_131 (by decide) ?_
    have ob5 := H.1
    have H := H.2
    refine r_icmp_eq (tgt := 165) dX11_grows_133 (by decide) ob5 (by decide) (fun c6 => ?_) (fun c6 => ?_)
    · have H := H.1 c6
      refine r_iinc dX11_grows_165 (by decide) rfl rfl ?_
      refine r_goto (tgt := 108) dX11_grows_168 (by decide) ?_
      refine r_drop (ls2 := [some (ax_r 85), some (ax_i x1), some (ax_i x2), none, some (ax_i x4), some (ax_i x5), some (ax_i (x6 + 1)), none]) ?_ (ax_leS (ax_leS (ax_leS (ax_leN (ax_leS (ax_leS (ax_leS (ax_leN ax_leE))))))))
      exact H
    · have H := H.2 c6
      refine r_aload_n dX11_grows_136 rfl ?_
      refine r_getR clX11 21 (by decide) s0_85 rfl rfl wX11_75 dX11_grows_137 ?_
      refine r_iload dX11_grows_140 rfl ?_
      have ob7 := H.1
      have H := H.2
      refine r_zald s0_112 (by decide) dX11_grows_142 ob7 ?_
      refine r_heapR (fun hI8 => ?_)
      refine r_if_ne (tgt := 165) dX11_grows_143 (by decide) (hI8 _ _) (fun c9 => ?_) (fun c9 => ?_)
      · have H := H.1 c9
        refine r_iinc dX11_grows_165 (by decide) rfl rfl ?_
        refine r_goto (tgt := 108) dX11_grows_168 (by decide) ?_
        refine r_drop (ls2 := [some (ax_r 85), some (ax_i x1), some (ax_i x2), none, some (ax_i x4), some (ax_i x5), some (ax_i (x6 + 1)), none]) ?_ (ax_leS (ax_leS (ax_leS (ax_leN (ax_leS (ax_leS (ax_leS (ax_leN ax_leE))))))))
        exact H
      · have H := H.2 c9
        refine r_aload_n dX11_grows_146 rfl ?_
        refine r_getR clX11 21 (by decide) s0_85 rfl rfl wX11_75 dX11_grows_147 ?_
        refine r_iload dX11_grows_150 rfl ?_
        refine r_iconst dX11_grows_152 ?_
        refine r_zast s0_112 (by decide) dX11_grows_153 ob7 (by decide) ?_
        refine r_aload_n dX11_grows_154 rfl ?_
        refine r_getR clX11 5 (by decide) s0_85 rfl rfl wX11_24 dX11_grows_155 ?_
        refine r_iload_n dX11_grows_158 rfl ?_
        refine r_iload dX11_grows_159 rfl ?_
        have ob10 := H.1
        have H := H.2
        refine r_iast s0_90 (by decide) dX11_grows_161 ob10 ob5 ?_
        refine r_iinc dX11_grows_162 (by decide) rfl rfl ?_
        refine r_iinc dX11_grows_165 (by decide) rfl rfl ?_
        refine r_goto (tgt := 108) dX11_grows_168 (by decide) ?_
        refine r_drop (ls2 := [some (ax_r 85), some (ax_i x1), some (ax_i (x2 + 1)), none, some (ax_i x4), some (ax_i x5), some (ax_i (x6 + 1)), none]) ?_ (ax_leS (ax_leS (ax_leS (ax_leN (ax_leS (ax_leS (ax_leS (ax_leN ax_leE))))))))
        exact H

theorem vX11_were_0 {d : Nat} {Q : Int → ax_H → Prop} {x1 : Int} {x2 : Int} {x3 : Int} {x4 : Int} {x5 : Int} {x6 : Int} {I : ax_H} (H :
  cI (d + 2) kX11_isPlace [ax_i x1, ax_i x2, ax_i x3] I (fun w2 I1 =>
  ax_R w2 ∧
  ((w2 = 0 →
    Q (-9223372036854775808) I1) ∧
  (¬ w2 = 0 →
    cI (d + 2) kX11_isSpot [ax_i x4, ax_i x5] I1 (fun w6 I5 =>
    ax_R w6 ∧
    ((w6 = 0 →
      Q (-9223372036854775808) I5) ∧
    (¬ w6 = 0 →
      cI (d + 2) kX11_isCoordinate [ax_i x6] I5 (fun w10 I9 =>
      ax_R w10 ∧
      ((w10 ≠ 0 →
        cI (d + 2) kX11_placeOf [ax_i x1, ax_i x2, ax_i x3] I9 (fun w14 I13 =>
        (0 ≤ w14 ∧ w14 < 48) ∧
        (RJ (d + 3) kX11_were 54 [some (ax_r 85), none, none, none, some (ax_i x4), some (ax_i x5), some (ax_i x6), some (ax_i w14), some (ax_i (I13 86 w14)), some (ax_l 0), none, some (ax_i 0)] I13 Q))) ∧
      (w10 = 0 →
        Q (-9223372036854775808) I9)))))))))) :
  RJ (d + 3) kX11_were 0 [some (ax_r 85), some (ax_i x1), some (ax_i x2), some (ax_i x3), some (ax_i x4), some (ax_i x5), some (ax_i x6), none, none, none, none, none] I Q := by
  show Rn _ _ _ _ _ _ _ _
  refine r_iload_n dX11_were_0 rfl ?_
  refine r_iload_n dX11_were_1 rfl ?_
  refine r_iload_n dX11_were_2 rfl ?_
  refine r_cI (as := [ax_i x1, ax_i x2, ax_i x3]) (how_S jX11_isPlace jSX11_isPlace rfl wX11_109 dX11_were_3) rfl (Nat.le_refl _) (Nat.le_of_ble_eq_true rfl) (fun _ => Nat.le_of_ble_eq_true rfl) H (fun w2 I1 H => ?_)
  have ob3 := H.1
  have H := H.2
  refine r_if_eq (tgt := 27) dX11_were_6 (by decide) ob3 (fun c4 => ?_) (fun c4 => ?_)
  · have H := H.1 c4
    refine r_ldc2 (v := (-9223372036854775808)) dX11_were_27 wX11_149 ?_
    exact r_lret dX11_were_30 rfl ⟨rfl, _, rfl, H⟩
  · have H := H.2 c4
    refine r_iload dX11_were_9 rfl ?_
    refine r_iload dX11_were_11 rfl ?_
    refine r_cI (as := [ax_i x4, ax_i x5]) (how_S jX11_isSpot jSX11_isSpot rfl wX11_123 dX11_were_13) rfl (Nat.le_refl _) (Nat.le_of_ble_eq_true rfl) (fun _ => Nat.le_of_ble_eq_true rfl) H (fun w6 I5 H => ?_)
    have ob7 := H.1
    have H := H.2
    refine r_if_eq (tgt := 27) dX11_were_16 (by decide) ob7 (fun c8 => ?_) (fun c8 => ?_)
    · have H := H.1 c8
      refine r_ldc2 (v := (-9223372036854775808)) dX11_were_27 wX11_149 ?_
      exact r_lret dX11_were_30 rfl ⟨rfl, _, rfl, H⟩
    · have H := H.2 c8
      refine r_iload dX11_were_19 rfl ?_
      refine r_cI (as := [ax_i x6]) (how_S jX11_isCoordinate jSX11_isCoordinate rfl wX11_103 dX11_were_21) rfl (Nat.le_refl _) (Nat.le_of_ble_eq_true rfl) (fun _ => Nat.le_of_ble_eq_true rfl) H (fun w10 I9 H => ?_)
      have ob11 := H.1
      have H := H.2
      refine r_if_ne (tgt := 31) dX11_were_24 (by decide) ob11 (fun c12 => ?_) (fun c12 => ?_)
      · have H := H.1 c12
        refine r_iload_n dX11_were_31 rfl ?_
        refine r_iload_n dX11_were_32 rfl ?_
        refine r_iload_n dX11_were_33 rfl ?_
        refine r_cI (as := [ax_i x1, ax_i x2, ax_i x3]) (how_S jX11_placeOf jSX11_placeOf rfl wX11_115 dX11_were_34) rfl (Nat.le_refl _) (Nat.le_of_ble_eq_true rfl) (fun _ => Nat.le_of_ble_eq_true rfl) H (fun w14 I13 H => ?_)
        refine r_istore dX11_were_37 (by decide) rfl ?_
        refine r_aload_n dX11_were_39 rfl ?_
        refine r_getR clX11 0 (by decide) s0_85 rfl rfl wX11_11 dX11_were_40 ?_
        refine r_iload dX11_were_43 rfl ?_
        have ob15 := H.1
        have H := H.2
        refine r_iald s0_86 (by decide) dX11_were_45 ob15 ?_
        refine r_istore dX11_were_46 (by decide) rfl ?_
        refine r_lconst (v := 0) dX11_were_48 rfl ?_
        refine r_lstore dX11_were_49 (by decide) rfl ?_
        refine r_iconst dX11_were_51 ?_
        refine r_istore dX11_were_52 (by decide) rfl ?_
        refine r_drop (ls2 := [some (ax_r 85), none, none, none, some (ax_i x4), some (ax_i x5), some (ax_i x6), some (ax_i w14), some (ax_i (I13 86 w14)), some (ax_l 0), none, some (ax_i 0)]) ?_ (ax_leS (ax_leN (ax_leN (ax_leN (ax_leS (ax_leS (ax_leS (ax_leS (ax_leS (ax_leS (ax_leN (ax_leS ax_leE))))))))))))
        exact H
      · have H := H.2 c12
        refine r_ldc2 (v := (-9223372036854775808)) dX11_were_27 wX11_149 ?_
        exact r_lret dX11_were_30 rfl ⟨rfl, _, rfl, H⟩

theorem vX11_were_54 {d : Nat} {Q : Int → ax_H → Prop} {x4 : Int} {x5 : Int} {x6 : Int} {x7 : Int} {x8 : Int} {x9 : Int} {x11 : Int} {I : ax_H} (r11 : ax_R x11) (r6 : ax_R x6) (r8 : ax_R x8) (H :
  (31 ≤ x11 →
    (0 ≤ x7 ∧ x7 < 48) ∧
    (Q x9 (ax_st I 86 x7 x8))) ∧
  (¬ 31 ≤ x11 →
    (0 ≤ x7 ∧ x7 < 48) ∧
    (cI (d + 2) kX11_keptAt [ax_r 85, ax_i x4, ax_i x5] (ax_st I 86 x7 x11) (fun w5 I4 =>
    ax_R w5 ∧
    ((w5 ≠ x6 →
      RJ (d + 3) kX11_were 54 [some (ax_r 85), none, none, none, some (ax_i x4), some (ax_i x5), some (ax_i x6), some (ax_i x7), some (ax_i x8), some (ax_l (ax_lor x9 0)), none, some (ax_i (x11 + 1))] I4 Q) ∧
    (w5 = x6 →
      (0 ≤ x11 ∧ x11 < 63) ∧
      (RJ (d + 3) kX11_were 54 [some (ax_r 85), none, none, none, some (ax_i x4), some (ax_i x5), some (ax_i x6), some (ax_i x7), some (ax_i x8), some (ax_l (ax_lor x9 (2 ^ (x11).toNat))), none, some (ax_i (x11 + 1))] I4 Q))))))) :
  RJ (d + 3) kX11_were 54 [some (ax_r 85), none, none, none, some (ax_i x4), some (ax_i x5), some (ax_i x6), some (ax_i x7), some (ax_i x8), some (ax_l x9), none, some (ax_i x11)] I Q := by
  show Rn _ _ _ _ _ _ _ _
  refine r_iload dX11_were_54 rfl ?_
  refine r_bipush (v := 31) dX11_were_56 (by decide) ?_
  refine r_icmp_ge (tgt := 102) dX11_were_58 (by decide) r11 (by decide) (fun c1 => ?_) (fun c1 => ?_)
  · have H := H.1 c1
    refine r_aload_n dX11_were_102 rfl ?_
    refine r_getR clX11 0 (by decide) s0_85 rfl rfl wX11_11 dX11_were_103 ?_
    refine r_iload dX11_were_106 rfl ?_
    refine r_iload dX11_were_108 rfl ?_
    have ob2 := H.1
    have H := H.2
    refine r_iast s0_86 (by decide) dX11_were_110 ob2 r8 ?_
    refine r_lload dX11_were_111 rfl ?_
    exact r_lret dX11_were_113 rfl ⟨rfl, _, rfl, H⟩
  · have H := H.2 c1
    refine r_aload_n dX11_were_61 rfl ?_
    refine r_getR clX11 0 (by decide) s0_85 rfl rfl wX11_11 dX11_were_62 ?_
    refine r_iload dX11_were_65 rfl ?_
    refine r_iload dX11_were_67 rfl ?_
    have ob3 := H.1
    have H := H.2
    refine r_iast s0_86 (by decide) dX11_were_69 ob3 r11 ?_
    refine r_lload dX11_were_70 rfl ?_
    refine r_aload_n dX11_were_72 rfl ?_
    refine r_iload dX11_were_73 rfl ?_
    refine r_iload dX11_were_75 rfl ?_
    refine r_cI (as := [ax_r 85, ax_i x4, ax_i x5]) (how_V (ci := 11) jX11_keptAt jIX11_keptAt jVX11_keptAt rfl s0_85 (by decide) rfl rfl wX11_133 dX11_were_77) rfl (Nat.le_refl _) (Nat.le_of_ble_eq_true rfl) (fun _ => Nat.le_of_ble_eq_true rfl) H (fun w5 I4 H => ?_)
    refine r_iload dX11_were_80 rfl ?_
    have ob6 := H.1
    have H := H.2
    refine r_icmp_ne (tgt := 92) dX11_were_82 (by decide) ob6 r6 (fun c7 => ?_) (fun c7 => ?_)
    · have H := H.1 c7
      refine r_lconst (v := 0) dX11_were_92 rfl ?_
      refine r_lor dX11_were_93 ?_
      refine r_lstore dX11_were_94 (by decide) rfl ?_
      refine r_iinc dX11_were_96 (by decide) rfl rfl ?_
      refine r_goto (tgt := 54) dX11_were_99 (by decide) ?_
      exact H
    · have H := H.2 c7
      refine r_lconst (v := 1) dX11_were_85 rfl ?_
      refine r_iload dX11_were_86 rfl ?_
      have ob8 := H.1
      have H := H.2
      refine r_lshl dX11_were_88 ob8 ?_
      refine r_goto (tgt := 93) dX11_were_89 (by decide) ?_
      refine r_lor dX11_were_93 ?_
      refine r_lstore dX11_were_94 (by decide) rfl ?_
      refine r_iinc dX11_were_96 (by decide) rfl rfl ?_
      refine r_goto (tgt := 54) dX11_were_99 (by decide) ?_
      exact H

theorem vX11_common_0 {d : Nat} {Q : Int → ax_H → Prop} {x0 : Int} {x1 : Int} {I : ax_H} (r1 : ax_R x1) (H :
  (x1 ≠ 0 →
    (0 ≤ x0 ∧ x0 < 2147483648) ∧
    ((0 < x1 ∧ x1 < 2147483648) ∧
    (cI d kX11_common [ax_i x1, ax_i (x0 % x1)] I (fun w5 I4 =>
    Q w5 I4)))) ∧
  (x1 = 0 →
    Q x0 I)) :
  RI (d + 1) kX11_common 0 [some (ax_i x0), some (ax_i x1)] I Q := by
  show Rn _ _ _ _ _ _ _ _
  refine r_iload_n dX11_common_0 rfl ?_
  refine r_if_ne (tgt := 8) dX11_common_1 (by decide) r1 (fun c1 => ?_) (fun c1 => ?_)
  · have H := H.1 c1
    refine r_iload_n dX11_common_8 rfl ?_
    refine r_iload_n dX11_common_9 rfl ?_
    refine r_iload_n dX11_common_10 rfl ?_
    have ob2 := H.1
    have H := H.2
    have ob3 := H.1
    have H := H.2
    refine r_iremp dX11_common_11 ob2 ob3 ?_
    refine r_cI (as := [ax_i x1, ax_i (x0 % x1)]) (how_S jX11_common jSX11_common rfl wX11_229 dX11_common_12) rfl (Nat.le_refl _) (Nat.le_of_ble_eq_true rfl) (fun _ => Nat.le_of_ble_eq_true rfl) H (fun w5 I4 H => ?_)
    exact r_iret dX11_common_15 rfl ⟨rfl, _, rfl, H⟩
  · have H := H.2 c1
    refine r_iload_n dX11_common_4 rfl ?_
    refine r_goto (tgt := 15) dX11_common_5 (by decide) ?_
    exact r_iret dX11_common_15 rfl ⟨rfl, _, rfl, H⟩

theorem vX11_odds_0 {d : Nat} {Q : Int → ax_H → Prop} {x1 : Int} {x2 : Int} {x3 : Int} {x4 : Int} {I : ax_H} (r3 : ax_R x3) (r4 : ax_R x4) (H :
  cI (d + 12) kX11_isCoordinate [ax_i x1] I (fun w2 I1 =>
  ax_R w2 ∧
  ((w2 = 0 →
    Q (-9223372036854775808) I1) ∧
  (¬ w2 = 0 →
    cI (d + 12) kX11_in [ax_l x3, ax_l 1, ax_l 30] I1 (fun w6 I5 =>
    ax_R w6 ∧
    ((w6 = 0 →
      Q (-9223372036854775808) I5) ∧
    (¬ w6 = 0 →
      cI (d + 12) kX11_in [ax_l x4, ax_l 0, ax_l 1] I5 (fun w10 I9 =>
      ax_R w10 ∧
      ((w10 ≠ 0 →
        RJ (d + 13) kX11_odds 40 [some (ax_r 85), some (ax_i x1), some (ax_i x2), some (ax_i x3), some (ax_i x4), some (ax_i 0), some (ax_i 0), none, none] I9 Q) ∧
      (w10 = 0 →
        Q (-9223372036854775808) I9)))))))))) :
  RJ (d + 13) kX11_odds 0 [some (ax_r 85), some (ax_i x1), some (ax_i x2), some (ax_i x3), some (ax_i x4), none, none, none, none] I Q := by
  show Rn _ _ _ _ _ _ _ _
  refine r_iload_n dX11_odds_0 rfl ?_
  refine r_cI (as := [ax_i x1]) (how_S jX11_isCoordinate jSX11_isCoordinate rfl wX11_103 dX11_odds_1) rfl (Nat.le_refl _) (Nat.le_of_ble_eq_true rfl) (fun _ => Nat.le_of_ble_eq_true rfl) H (fun w2 I1 H => ?_)
  have ob3 := H.1
  have H := H.2
  refine r_if_eq (tgt := 30) dX11_odds_4 (by decide) ob3 (fun c4 => ?_) (fun c4 => ?_)
  · have H := H.1 c4
    refine r_ldc2 (v := (-9223372036854775808)) dX11_odds_30 wX11_149 ?_
    exact r_lret dX11_odds_33 rfl ⟨rfl, _, rfl, H⟩
  · have H := H.2 c4
    refine r_iload_n dX11_odds_7 rfl ?_
    refine r_i2l dX11_odds_8 r3 ?_
    refine r_lconst (v := 1) dX11_odds_9 rfl ?_
    refine r_ldc2 (v := 30) dX11_odds_10 wX11_113 ?_
    refine r_cI (as := [ax_l x3, ax_l 1, ax_l 30]) (how_S jX11_in jSX11_in rfl wX11_99 dX11_odds_13) rfl (Nat.le_refl _) (Nat.le_of_ble_eq_true rfl) (fun _ => Nat.le_of_ble_eq_true rfl) H (fun w6 I5 H => ?_)
    have ob7 := H.1
    have H := H.2
    refine r_if_eq (tgt := 30) dX11_odds_16 (by decide) ob7 (fun c8 => ?_) (fun c8 => ?_)
    · have H := H.1 c8
      refine r_ldc2 (v := (-9223372036854775808)) dX11_odds_30 wX11_149 ?_
      exact r_lret dX11_odds_33 rfl ⟨rfl, _, rfl, H⟩
    · have H := H.2 c8
      refine r_iload dX11_odds_19 rfl ?_
      refine r_i2l dX11_odds_21 r4 ?_
      refine r_lconst (v := 0) dX11_odds_22 rfl ?_
      refine r_lconst (v := 1) dX11_odds_23 rfl ?_
      refine r_cI (as := [ax_l x4, ax_l 0, ax_l 1]) (how_S jX11_in jSX11_in rfl wX11_99 dX11_odds_24) rfl (Nat.le_refl _) (Nat.le_of_ble_eq_true rfl) (fun _ => Nat.le_of_ble_eq_true rfl) H (fun w10 I9 H => ?_)
      have ob11 := H.1
      have H := H.2
      refine r_if_ne (tgt := 34) dX11_odds_27 (by decide) ob11 (fun c12 => ?_) (fun c12 => ?_)
      · have H := H.1 c12
        refine r_iconst dX11_odds_34 ?_
        refine r_istore dX11_odds_35 (by decide) rfl ?_
        refine r_iconst dX11_odds_37 ?_
        refine r_istore dX11_odds_38 (by decide) rfl ?_
        exact H
      · have H := H.2 c12
        refine r_ldc2 (v := (-9223372036854775808)) dX11_odds_30 wX11_149 ?_
        exact r_lret dX11_odds_33 rfl ⟨rfl, _, rfl, H⟩

theorem vX11_odds_40 {d : Nat} {Q : Int → ax_H → Prop} {x1 : Int} {x2 : Int} {x3 : Int} {x4 : Int} {x5 : Int} {x6 : Int} {I : ax_H} (r1 : ax_R x1) (r3 : ax_R x3) (r4 : ax_R x4) (r6 : ax_R x6) (H :
  (x3 ≤ x6 →
    (x4 ≠ 0 →
      cI (d + 12) kX11_common [ax_i x3, ax_i x5] I (fun w4 I3 =>
      (0 ≤ x3 ∧ x3 < 2147483648) ∧
      ((0 < w4 ∧ w4 < 2147483648) ∧
      (ax_R (x3 / w4) ∧
      (Q (x3 / w4) I3))))) ∧
    (x4 = 0 →
      cI (d + 12) kX11_common [ax_i x3, ax_i x5] I (fun w9 I8 =>
      (0 ≤ x5 ∧ x5 < 2147483648) ∧
      ((0 < w9 ∧ w9 < 2147483648) ∧
      (ax_R (x5 / w9) ∧
      (Q (x5 / w9) I8)))))) ∧
  (¬ x3 ≤ x6 →
    ∀ y7_57, y7_57 = (((x2 + x6) * 1103515245) + 12345) →
    ((0 ≤ (y7_57 % 4294967296 / 65536) ∧ (y7_57 % 4294967296 / 65536) < 2147483648) ∧
    (∀ y8_67, y8_67 = ((y7_57 % 4294967296 / 65536) % 32) →
    (∀ y7_78, y7_78 = ((y7_57 * 1103515245) + 12345) →
    ((0 ≤ (y7_78 % 4294967296 / 65536) ∧ (y7_78 % 4294967296 / 65536) < 2147483648) ∧
    (cI (d + 12) kX11_keptAt [ax_r 85, ax_i y8_67, ax_i ((y7_78 % 4294967296 / 65536) % 32)] I (fun w19 I18 =>
    ax_R w19 ∧
    ((w19 ≠ x1 →
      ∀ y5_106, y5_106 = (x5 + 0) →
      (RJ (d + 13) kX11_odds 40 [some (ax_r 85), some (ax_i x1), some (ax_i x2), some (ax_i x3), some (ax_i x4), some (ax_i y5_106), some (ax_i (x6 + 1)), none, none] I18 Q)) ∧
    (w19 = x1 →
      ∀ y5_106, y5_106 = (x5 + 1) →
      (RJ (d + 13) kX11_odds 40 [some (ax_r 85), some (ax_i x1), some (ax_i x2), some (ax_i x3), some (ax_i x4), some (ax_i y5_106), some (ax_i (x6 + 1)), none, none] I18 Q))))))))))) :
  RJ (d + 13) kX11_odds 40 [some (ax_r 85), some (ax_i x1), some (ax_i x2), some (ax_i x3), some (ax_i x4), some (ax_i x5), some (ax_i x6), none, none] I Q := by
  show Rn _ _ _ _ _ _ _ _
  refine r_iload dX11_odds_40 rfl ?_
  refine r_iload_n dX11_odds_42 rfl ?_
  refine r_icmp_ge (tgt := 114) dX11_odds_43 (by decide) r6 r3 (fun c1 => ?_) (fun c1 => ?_)
  · have H := H.1 c1
    refine r_iload dX11_odds_114 rfl ?_
    refine r_if_ne (tgt := 124) dX11_odds_116 (by decide) r4 (fun c2 => ?_) (fun c2 => ?_)
    · have H := H.1 c2
      refine r_iload_n dX11_odds_124 rfl ?_
      refine r_iload_n dX11_odds_125 rfl ?_
      refine r_iload dX11_odds_126 rfl ?_
      refine r_cI (as := [ax_i x3, ax_i x5]) (how_S jX11_common jSX11_common rfl wX11_229 dX11_odds_128) rfl (Nat.le_refl _) (Nat.le_of_ble_eq_true rfl) (fun _ => Nat.le_of_ble_eq_true rfl) H (fun w4 I3 H => ?_)
      have ob5 := H.1
      have H := H.2
      have ob6 := H.1
      have H := H.2
      refine r_idivp dX11_odds_131 ob5 ob6 ?_
      have ob7 := H.1
      have H := H.2
      refine r_i2l dX11_odds_132 ob7 ?_
      exact r_lret dX11_odds_133 rfl ⟨rfl, _, rfl, H⟩
    · have H := H.2 c2
      refine r_iload dX11_odds_119 rfl ?_
      refine r_goto (tgt := 125) dX11_odds_121 (by decide) ?_
      refine r_iload_n dX11_odds_125 rfl ?_
      refine r_iload dX11_odds_126 rfl ?_
      refine r_cI (as := [ax_i x3, ax_i x5]) (how_S jX11_common jSX11_common rfl wX11_229 dX11_odds_128) rfl (Nat.le_refl _) (Nat.le_of_ble_eq_true rfl) (fun _ => Nat.le_of_ble_eq_true rfl) H (fun w9 I8 H => ?_)
      have ob10 := H.1
      have H := H.2
      have ob11 := H.1
      have H := H.2
      refine r_idivp dX11_odds_131 ob10 ob11 ?_
      have ob12 := H.1
      have H := H.2
      refine r_i2l dX11_odds_132 ob12 ?_
      exact r_lret dX11_odds_133 rfl ⟨rfl, _, rfl, H⟩
  · have H := H.2 c1
    refine r_iload_n dX11_odds_46 rfl ?_
    refine r_iload dX11_odds_47 rfl ?_
    refine r_iadd dX11_odds_49 ?_
    refine r_ldc (v := 1103515245) dX11_odds_50 wX11_232 ?_
    refine r_imul dX11_odds_52 ?_
    refine r_sipush (v := 12345) dX11_odds_53 (by decide) ?_
    refine r_iadd dX11_odds_56 ?_
    refine r_name (fun y7_57 e13 => ?_)
    have H := H y7_57 e13
    refine r_istore dX11_odds_57 (by decide) rfl ?_
    refine r_iload dX11_odds_59 rfl ?_
    refine r_bipush (v := 16) dX11_odds_61 (by decide) ?_
    refine r_iushr dX11_odds_63 ?_
    refine r_bipush (v := 32) dX11_odds_64 (by decide) ?_
    have ob14 := H.1
    have H := H.2
    refine r_iremp dX11_odds_66 ob14 (by decide) ?_
    refine r_name (fun y8_67 e15 => ?_)
    have H := H y8_67 e15
    refine r_istore dX11_odds_67 (by decide) rfl ?_
    refine r_iload dX11_odds_69 rfl ?_
    refine r_ldc (v := 1103515245) dX11_odds_71 wX11_232 ?_
    refine r_imul dX11_odds_73 ?_
    refine r_sipush (v := 12345) dX11_odds_74 (by decide) ?_
    refine r_iadd dX11_odds_77 ?_
    refine r_name (fun y7_78 e16 => ?_)
    have H := H y7_78 e16
    refine r_istore dX11_odds_78 (by decide) rfl ?_
    refine r_iload dX11_odds_80 rfl ?_
    refine r_aload_n dX11_odds_82 rfl ?_
    refine r_iload dX11_odds_83 rfl ?_
    refine r_iload dX11_odds_85 rfl ?_
    refine r_bipush (v := 16) dX11_odds_87 (by decide) ?_
    refine r_iushr dX11_odds_89 ?_
    refine r_bipush (v := 32) dX11_odds_90 (by decide) ?_
    have ob17 := H.1
    have H := H.2
    refine r_iremp dX11_odds_92 ob17 (by decide) ?_
    refine r_cI (as := [ax_r 85, ax_i y8_67, ax_i ((y7_78 % 4294967296 / 65536) % 32)]) (how_V (ci := 11) jX11_keptAt jIX11_keptAt jVX11_keptAt rfl s0_85 (by decide) rfl rfl wX11_133 dX11_odds_93) rfl (Nat.le_refl _) (Nat.le_of_ble_eq_true rfl) (fun _ => Nat.le_of_ble_eq_true rfl) H (fun w19 I18 H => ?_)
    refine r_iload_n dX11_odds_96 rfl ?_
    have ob20 := H.1
    have H := H.2
    refine r_icmp_ne (tgt := 104) dX11_odds_97 (by decide) ob20 r1 (fun c21 => ?_) (fun c21 => ?_)
    · have H := H.1 c21
      refine r_iconst dX11_odds_104 ?_
      refine r_iadd dX11_odds_105 ?_
      refine r_name (fun y5_106 e22 => ?_)
      have H := H y5_106 e22
      refine r_istore dX11_odds_106 (by decide) rfl ?_
      refine r_iinc dX11_odds_108 (by decide) rfl rfl ?_
      refine r_goto (tgt := 40) dX11_odds_111 (by decide) ?_
      refine r_drop (ls2 := [some (ax_r 85), some (ax_i x1), some (ax_i x2), some (ax_i x3), some (ax_i x4), some (ax_i y5_106), some (ax_i (x6 + 1)), none, none]) ?_ (ax_leS (ax_leS (ax_leS (ax_leS (ax_leS (ax_leS (ax_leS (ax_leN (ax_leN ax_leE)))))))))
      exact H
    · have H := H.2 c21
      refine r_iconst dX11_odds_100 ?_
      refine r_goto (tgt := 105) dX11_odds_101 (by decide) ?_
      refine r_iadd dX11_odds_105 ?_
      refine r_name (fun y5_106 e23 => ?_)
      have H := H y5_106 e23
      refine r_istore dX11_odds_106 (by decide) rfl ?_
      refine r_iinc dX11_odds_108 (by decide) rfl rfl ?_
      refine r_goto (tgt := 40) dX11_odds_111 (by decide) ?_
      refine r_drop (ls2 := [some (ax_r 85), some (ax_i x1), some (ax_i x2), some (ax_i x3), some (ax_i x4), some (ax_i y5_106), some (ax_i (x6 + 1)), none, none]) ?_ (ax_leS (ax_leS (ax_leS (ax_leS (ax_leS (ax_leS (ax_leS (ax_leN (ax_leN ax_leE)))))))))
      exact H

theorem vX11_plan_0 {d : Nat} {Q : Int → ax_H → Prop} {x1 : Int} {x2 : Int} {I : ax_H} (r1 : ax_R x1) (r2 : ax_R x2) (H :
  (x1 ≠ (-1) →
    cI d kX11_in [ax_l x1, ax_l 0, ax_l 3] I (fun w3 I2 =>
    ax_R w3 ∧
    ((w3 ≠ 0 →
      (2 ≤ x1 →
        (x1 ≠ 2 →
          ((I2 86 31) ≠ 8 →
            (0 ≤ (32 + (I2 86 31)) ∧ (32 + (I2 86 31)) < 48) ∧
            ((0 ≤ (40 + ((ax_st I2 86 (32 + (I2 86 31)) x1) 86 31)) ∧ (40 + ((ax_st I2 86 (32 + (I2 86 31)) x1) 86 31)) < 48) ∧
            (ax_R (((ax_st (ax_st I2 86 (32 + (I2 86 31)) x1) 86 (40 + ((ax_st I2 86 (32 + (I2 86 31)) x1) 86 31)) x2) 86 31) + 1) ∧
            (Q ((ax_st (ax_st (ax_st I2 86 (32 + (I2 86 31)) x1) 86 (40 + ((ax_st I2 86 (32 + (I2 86 31)) x1) 86 31)) x2) 86 31 (((ax_st (ax_st I2 86 (32 + (I2 86 31)) x1) 86 (40 + ((ax_st I2 86 (32 + (I2 86 31)) x1) 86 31)) x2) 86 31) + 1)) 86 31) (ax_st (ax_st (ax_st I2 86 (32 + (I2 86 31)) x1) 86 (40 + ((ax_st I2 86 (32 + (I2 86 31)) x1) 86 31)) x2) 86 31 (((ax_st (ax_st I2 86 (32 + (I2 86 31)) x1) 86 (40 + ((ax_st I2 86 (32 + (I2 86 31)) x1) 86 31)) x2) 86 31) + 1)))))) ∧
          ((I2 86 31) = 8 →
            Q (-4) I2)) ∧
        (x1 = 2 →
          cI d kX11_in [ax_l x2, ax_l 0, ax_l 1] I2 (fun w14 I13 =>
          ax_R w14 ∧
          ((w14 ≠ 0 →
            ((I13 86 31) ≠ 8 →
              (0 ≤ (32 + (I13 86 31)) ∧ (32 + (I13 86 31)) < 48) ∧
              ((0 ≤ (40 + ((ax_st I13 86 (32 + (I13 86 31)) x1) 86 31)) ∧ (40 + ((ax_st I13 86 (32 + (I13 86 31)) x1) 86 31)) < 48) ∧
              (ax_R (((ax_st (ax_st I13 86 (32 + (I13 86 31)) x1) 86 (40 + ((ax_st I13 86 (32 + (I13 86 31)) x1) 86 31)) x2) 86 31) + 1) ∧
              (Q ((ax_st (ax_st (ax_st I13 86 (32 + (I13 86 31)) x1) 86 (40 + ((ax_st I13 86 (32 + (I13 86 31)) x1) 86 31)) x2) 86 31 (((ax_st (ax_st I13 86 (32 + (I13 86 31)) x1) 86 (40 + ((ax_st I13 86 (32 + (I13 86 31)) x1) 86 31)) x2) 86 31) + 1)) 86 31) (ax_st (ax_st (ax_st I13 86 (32 + (I13 86 31)) x1) 86 (40 + ((ax_st I13 86 (32 + (I13 86 31)) x1) 86 31)) x2) 86 31 (((ax_st (ax_st I13 86 (32 + (I13 86 31)) x1) 86 (40 + ((ax_st I13 86 (32 + (I13 86 31)) x1) 86 31)) x2) 86 31) + 1)))))) ∧
            ((I13 86 31) = 8 →
              Q (-4) I13)) ∧
          (w14 = 0 →
            Q (-2) I13))))) ∧
      (¬ 2 ≤ x1 →
        cI d kX11_in [ax_l x2, ax_l 1, ax_l 9] I2 (fun w23 I22 =>
        ax_R w23 ∧
        ((w23 = 0 →
          Q (-2) I22) ∧
        (¬ w23 = 0 →
          (x1 ≠ 2 →
            ((I22 86 31) ≠ 8 →
              (0 ≤ (32 + (I22 86 31)) ∧ (32 + (I22 86 31)) < 48) ∧
              ((0 ≤ (40 + ((ax_st I22 86 (32 + (I22 86 31)) x1) 86 31)) ∧ (40 + ((ax_st I22 86 (32 + (I22 86 31)) x1) 86 31)) < 48) ∧
              (ax_R (((ax_st (ax_st I22 86 (32 + (I22 86 31)) x1) 86 (40 + ((ax_st I22 86 (32 + (I22 86 31)) x1) 86 31)) x2) 86 31) + 1) ∧
              (Q ((ax_st (ax_st (ax_st I22 86 (32 + (I22 86 31)) x1) 86 (40 + ((ax_st I22 86 (32 + (I22 86 31)) x1) 86 31)) x2) 86 31 (((ax_st (ax_st I22 86 (32 + (I22 86 31)) x1) 86 (40 + ((ax_st I22 86 (32 + (I22 86 31)) x1) 86 31)) x2) 86 31) + 1)) 86 31) (ax_st (ax_st (ax_st I22 86 (32 + (I22 86 31)) x1) 86 (40 + ((ax_st I22 86 (32 + (I22 86 31)) x1) 86 31)) x2) 86 31 (((ax_st (ax_st I22 86 (32 + (I22 86 31)) x1) 86 (40 + ((ax_st I22 86 (32 + (I22 86 31)) x1) 86 31)) x2) 86 31) + 1)))))) ∧
            ((I22 86 31) = 8 →
              Q (-4) I22)) ∧
          (x1 = 2 →
            cI d kX11_in [ax_l x2, ax_l 0, ax_l 1] I22 (fun w33 I32 =>
            ax_R w33 ∧
            ((w33 ≠ 0 →
              ((I32 86 31) ≠ 8 →
                (0 ≤ (32 + (I32 86 31)) ∧ (32 + (I32 86 31)) < 48) ∧
                ((0 ≤ (40 + ((ax_st I32 86 (32 + (I32 86 31)) x1) 86 31)) ∧ (40 + ((ax_st I32 86 (32 + (I32 86 31)) x1) 86 31)) < 48) ∧
                (ax_R (((ax_st (ax_st I32 86 (32 + (I32 86 31)) x1) 86 (40 + ((ax_st I32 86 (32 + (I32 86 31)) x1) 86 31)) x2) 86 31) + 1) ∧
                (Q ((ax_st (ax_st (ax_st I32 86 (32 + (I32 86 31)) x1) 86 (40 + ((ax_st I32 86 (32 + (I32 86 31)) x1) 86 31)) x2) 86 31 (((ax_st (ax_st I32 86 (32 + (I32 86 31)) x1) 86 (40 + ((ax_st I32 86 (32 + (I32 86 31)) x1) 86 31)) x2) 86 31) + 1)) 86 31) (ax_st (ax_st (ax_st I32 86 (32 + (I32 86 31)) x1) 86 (40 + ((ax_st I32 86 (32 + (I32 86 31)) x1) 86 31)) x2) 86 31 (((ax_st (ax_st I32 86 (32 + (I32 86 31)) x1) 86 (40 + ((ax_st I32 86 (32 + (I32 86 31)) x1) 86 31)) x2) 86 31) + 1)))))) ∧
              ((I32 86 31) = 8 →
                Q (-4) I32)) ∧
            (w33 = 0 →
              Q (-2) I32))))))))) ∧
    (w3 = 0 →
      Q (-1) I2)))) ∧
  (x1 = (-1) →
    RI (d + 1) kX11_plan 8 [some (ax_r 85), none, none, some (ax_i 31)] I Q)) :
  RI (d + 1) kX11_plan 0 [some (ax_r 85), some (ax_i x1), some (ax_i x2), none] I Q := by
  show Rn _ _ _ _ _ _ _ _
  refine r_iload_n dX11_plan_0 rfl ?_
  refine r_iconst dX11_plan_1 ?_
  refine r_icmp_ne (tgt := 29) dX11_plan_2 (by decide) r1 (by decide) (fun c1 => ?_) (fun c1 => ?_)
  · have H := H.1 c1
    refine r_iload_n dX11_plan_29 rfl ?_
    refine r_i2l dX11_plan_30 r1 ?_
    refine r_lconst (v := 0) dX11_plan_31 rfl ?_
    refine r_ldc2 (v := 3) dX11_plan_32 wX11_212 ?_
    refine r_cI (as := [ax_l x1, ax_l 0, ax_l 3]) (how_S jX11_in jSX11_in rfl wX11_99 dX11_plan_35) rfl (Nat.le_refl _) (Nat.le_of_ble_eq_true rfl) (fun _ => Nat.le_of_ble_eq_true rfl) H (fun w3 I2 H => ?_)
    have ob4 := H.1
    have H := H.2
    refine r_if_ne (tgt := 43) dX11_plan_38 (by decide) ob4 (fun c5 => ?_) (fun c5 => ?_)
    · have H := H.1 c5
      refine r_iload_n dX11_plan_43 rfl ?_
      refine r_iconst dX11_plan_44 ?_
      refine r_icmp_ge (tgt := 60) dX11_plan_45 (by decide) r1 (by decide) (fun c6 => ?_) (fun c6 => ?_)
      · have H := H.1 c6
        refine r_iload_n dX11_plan_60 rfl ?_
        refine r_iconst dX11_plan_61 ?_
        refine r_icmp_ne (tgt := 78) dX11_plan_62 (by decide) r1 (by decide) (fun c7 => ?_) (fun c7 => ?_)
        · have H := H.1 c7
          refine r_aload_n dX11_plan_78 rfl ?_
          refine r_getR clX11 0 (by decide) s0_85 rfl rfl wX11_11 dX11_plan_79 ?_
          refine r_bipush (v := 31) dX11_plan_82 (by decide) ?_
          refine r_iald s0_86 (by decide) dX11_plan_84 (by decide) ?_
          refine r_bipush (v := 8) dX11_plan_85 (by decide) ?_
          refine r_heapR (fun hI8 => ?_)
          refine r_icmp_ne (tgt := 93) dX11_plan_87 (by decide) (hI8 _ _) (by decide) (fun c9 => ?_) (fun c9 => ?_)
          · have H := H.1 c9
            refine r_aload_n dX11_plan_93 rfl ?_
            refine r_getR clX11 0 (by decide) s0_85 rfl rfl wX11_11 dX11_plan_94 ?_
            refine r_bipush (v := 32) dX11_plan_97 (by decide) ?_
            refine r_aload_n dX11_plan_99 rfl ?_
            refine r_getR clX11 0 (by decide) s0_85 rfl rfl wX11_11 dX11_plan_100 ?_
            refine r_bipush (v := 31) dX11_plan_103 (by decide) ?_
            refine r_iald s0_86 (by decide) dX11_plan_105 (by decide) ?_
            refine r_iadd dX11_plan_106 ?_
            refine r_iload_n dX11_plan_107 rfl ?_
            have ob10 := H.1
            have H := H.2
            refine r_iast s0_86 (by decide) dX11_plan_108 ob10 r1 ?_
            refine r_aload_n dX11_plan_109 rfl ?_
            refine r_getR clX11 0 (by decide) s0_85 rfl rfl wX11_11 dX11_plan_110 ?_
            refine r_bipush (v := 40) dX11_plan_113 (by decide) ?_
            refine r_aload_n dX11_plan_115 rfl ?_
            refine r_getR clX11 0 (by decide) s0_85 rfl rfl wX11_11 dX11_plan_116 ?_
            refine r_bipush (v := 31) dX11_plan_119 (by decide) ?_
            refine r_iald s0_86 (by decide) dX11_plan_121 (by decide) ?_
            refine r_iadd dX11_plan_122 ?_
            refine r_iload_n dX11_plan_123 rfl ?_
            have ob11 := H.1
            have H := H.2
            refine r_iast s0_86 (by decide) dX11_plan_124 ob11 r2 ?_
            refine r_aload_n dX11_plan_125 rfl ?_
            refine r_getR clX11 0 (by decide) s0_85 rfl rfl wX11_11 dX11_plan_126 ?_
            refine r_bipush (v := 31) dX11_plan_129 (by decide) ?_
            refine r_dup2 dX11_plan_131 (fun _ => rfl) (fun _ => rfl) ?_
            refine r_iald s0_86 (by decide) dX11_plan_132 (by decide) ?_
            refine r_iconst dX11_plan_133 ?_
            refine r_iadd dX11_plan_134 ?_
            have ob12 := H.1
            have H := H.2
            refine r_iast s0_86 (by decide) dX11_plan_135 (by decide) ob12 ?_
            refine r_aload_n dX11_plan_136 rfl ?_
            refine r_getR clX11 0 (by decide) s0_85 rfl rfl wX11_11 dX11_plan_137 ?_
            refine r_bipush (v := 31) dX11_plan_140 (by decide) ?_
            refine r_iald s0_86 (by decide) dX11_plan_142 (by decide) ?_
            exact r_iret dX11_plan_143 rfl ⟨rfl, _, rfl, H⟩
          · have H := H.2 c9
            refine r_bipush (v := (-4)) dX11_plan_90 (by decide) ?_
            exact r_iret dX11_plan_92 rfl ⟨rfl, _, rfl, H⟩
        · have H := H.2 c7
          refine r_iload_n dX11_plan_65 rfl ?_
          refine r_i2l dX11_plan_66 r2 ?_
          refine r_lconst (v := 0) dX11_plan_67 rfl ?_
          refine r_lconst (v := 1) dX11_plan_68 rfl ?_
          refine r_cI (as := [ax_l x2, ax_l 0, ax_l 1]) (how_S jX11_in jSX11_in rfl wX11_99 dX11_plan_69) rfl (Nat.le_refl _) (Nat.le_of_ble_eq_true rfl) (fun _ => Nat.le_of_ble_eq_true rfl) H (fun w14 I13 H => ?_)
          have ob15 := H.1
          have H := H.2
          refine r_if_ne (tgt := 78) dX11_plan_72 (by decide) ob15 (fun c16 => ?_) (fun c16 => ?_)
          · have H := H.1 c16
            refine r_aload_n dX11_plan_78 rfl ?_
            refine r_getR clX11 0 (by decide) s0_85 rfl rfl wX11_11 dX11_plan_79 ?_
            refine r_bipush (v := 31) dX11_plan_82 (by decide) ?_
            refine r_iald s0_86 (by decide) dX11_plan_84 (by decide) ?_
            refine r_bipush (v := 8) dX11_plan_85 (by decide) ?_
            refine r_heapR (fun hI17 => ?_)
            refine r_icmp_ne (tgt := 93) dX11_plan_87 (by decide) (hI17 _ _) (by decide) (fun c18 => ?_) (fun c18 => ?_)
            · have H := H.1 c18
              refine r_aload_n dX11_plan_93 rfl ?_
              refine r_getR clX11 0 (by decide) s0_85 rfl rfl wX11_11 dX11_plan_94 ?_
              refine r_bipush (v := 32) dX11_plan_97 (by decide) ?_
              refine r_aload_n dX11_plan_99 rfl ?_
              refine r_getR clX11 0 (by decide) s0_85 rfl rfl wX11_11 dX11_plan_100 ?_
              refine r_bipush (v := 31) dX11_plan_103 (by decide) ?_
              refine r_iald s0_86 (by decide) dX11_plan_105 (by decide) ?_
              refine r_iadd dX11_plan_106 ?_
              refine r_iload_n dX11_plan_107 rfl ?_
              have ob19 := H.1
              have H := H.2
              refine r_iast s0_86 (by decide) dX11_plan_108 ob19 r1 ?_
              refine r_aload_n dX11_plan_109 rfl ?_
              refine r_getR clX11 0 (by decide) s0_85 rfl rfl wX11_11 dX11_plan_110 ?_
              refine r_bipush (v := 40) dX11_plan_113 (by decide) ?_
              refine r_aload_n dX11_plan_115 rfl ?_
              refine r_getR clX11 0 (by decide) s0_85 rfl rfl wX11_11 dX11_plan_116 ?_
              refine r_bipush (v := 31) dX11_plan_119 (by decide) ?_
              refine r_iald s0_86 (by decide) dX11_plan_121 (by decide) ?_
              refine r_iadd dX11_plan_122 ?_
              refine r_iload_n dX11_plan_123 rfl ?_
              have ob20 := H.1
              have H := H.2
              refine r_iast s0_86 (by decide) dX11_plan_124 ob20 r2 ?_
              refine r_aload_n dX11_plan_125 rfl ?_
              refine r_getR clX11 0 (by decide) s0_85 rfl rfl wX11_11 dX11_plan_126 ?_
              refine r_bipush (v := 31) dX11_plan_129 (by decide) ?_
              refine r_dup2 dX11_plan_131 (fun _ => rfl) (fun _ => rfl) ?_
              refine r_iald s0_86 (by decide) dX11_plan_132 (by decide) ?_
              refine r_iconst dX11_plan_133 ?_
              refine r_iadd dX11_plan_134 ?_
              have ob21 := H.1
              have H := H.2
              refine r_iast s0_86 (by decide) dX11_plan_135 (by decide) ob21 ?_
              refine r_aload_n dX11_plan_136 rfl ?_
              refine r_getR clX11 0 (by decide) s0_85 rfl rfl wX11_11 dX11_plan_137 ?_
              refine r_bipush (v := 31) dX11_plan_140 (by decide) ?_
              refine r_iald s0_86 (by decide) dX11_plan_142 (by decide) ?_
              exact r_iret dX11_plan_143 rfl ⟨rfl, _, rfl, H⟩
            · have H := H.2 c18
              refine r_bipush (v := (-4)) dX11_plan_90 (by decide) ?_
              exact r_iret dX11_plan_92 rfl ⟨rfl, _, rfl, H⟩
          · have H := H.2 c16
            refine r_bipush (v := (-2)) dX11_plan_75 (by decide) ?_
            exact r_iret dX11_plan_77 rfl ⟨rfl, _, rfl, H⟩
      · have H := H.2 c6
        refine r_iload_n dX11_plan_48 rfl ?_
        refine r_i2l dX11_plan_49 r2 ?_
        refine r_lconst (v := 1) dX11_plan_50 rfl ?_
        refine r_ldc2 (v := 9) dX11_plan_51 wX11_233 ?_
        refine r_cI (as := [ax_l x2, ax_l 1, ax_l 9]) (how_S jX11_in jSX11_in rfl wX11_99 dX11_plan_54) rfl (Nat.le_refl _) (Nat.le_of_ble_eq_true rfl) (fun _ => Nat.le_of_ble_eq_true rfl) H (fun w23 I22 H => ?_)
        have ob24 := H.1
        have H := H.2
        refine r_if_eq (tgt := 75) dX11_plan_57 (by decide) ob24 (fun c25 => ?_) (fun c25 => ?_)
        · have H := H.1 c25
          refine r_bipush (v := (-2)) dX11_plan_75 (by decide) ?_
          exact r_iret dX11_plan_77 rfl ⟨rfl, _, rfl, H⟩
        · have H := H.2 c25
          refine r_iload_n dX11_plan_60 rfl ?_
          refine r_iconst dX11_plan_61 ?_
          refine r_icmp_ne (tgt := 78) dX11_plan_62 (by decide) r1 (by decide) (fun c26 => ?_) (fun c26 => ?_)
          · have H := H.1 c26
            refine r_aload_n dX11_plan_78 rfl ?_
            refine r_getR clX11 0 (by decide) s0_85 rfl rfl wX11_11 dX11_plan_79 ?_
            refine r_bipush (v := 31) dX11_plan_82 (by decide) ?_
            refine r_iald s0_86 (by decide) dX11_plan_84 (by decide) ?_
            refine r_bipush (v := 8) dX11_plan_85 (by decide) ?_
            refine r_heapR (fun hI27 => ?_)
            refine r_icmp_ne (tgt := 93) dX11_plan_87 (by decide) (hI27 _ _) (by decide) (fun c28 => ?_) (fun c28 => ?_)
            · have H := H.1 c28
              refine r_aload_n dX11_plan_93 rfl ?_
              refine r_getR clX11 0 (by decide) s0_85 rfl rfl wX11_11 dX11_plan_94 ?_
              refine r_bipush (v := 32) dX11_plan_97 (by decide) ?_
              refine r_aload_n dX11_plan_99 rfl ?_
              refine r_getR clX11 0 (by decide) s0_85 rfl rfl wX11_11 dX11_plan_100 ?_
              refine r_bipush (v := 31) dX11_plan_103 (by decide) ?_
              refine r_iald s0_86 (by decide) dX11_plan_105 (by decide) ?_
              refine r_iadd dX11_plan_106 ?_
              refine r_iload_n dX11_plan_107 rfl ?_
              have ob29 := H.1
              have H := H.2
              refine r_iast s0_86 (by decide) dX11_plan_108 ob29 r1 ?_
              refine r_aload_n dX11_plan_109 rfl ?_
              refine r_getR clX11 0 (by decide) s0_85 rfl rfl wX11_11 dX11_plan_110 ?_
              refine r_bipush (v := 40) dX11_plan_113 (by decide) ?_
              refine r_aload_n dX11_plan_115 rfl ?_
              refine r_getR clX11 0 (by decide) s0_85 rfl rfl wX11_11 dX11_plan_116 ?_
              refine r_bipush (v := 31) dX11_plan_119 (by decide) ?_
              refine r_iald s0_86 (by decide) dX11_plan_121 (by decide) ?_
              refine r_iadd dX11_plan_122 ?_
              refine r_iload_n dX11_plan_123 rfl ?_
              have ob30 := H.1
              have H := H.2
              refine r_iast s0_86 (by decide) dX11_plan_124 ob30 r2 ?_
              refine r_aload_n dX11_plan_125 rfl ?_
              refine r_getR clX11 0 (by decide) s0_85 rfl rfl wX11_11 dX11_plan_126 ?_
              refine r_bipush (v := 31) dX11_plan_129 (by decide) ?_
              refine r_dup2 dX11_plan_131 (fun _ => rfl) (fun _ => rfl) ?_
              refine r_iald s0_86 (by decide) dX11_plan_132 (by decide) ?_
              refine r_iconst dX11_plan_133 ?_
              refine r_iadd dX11_plan_134 ?_
              have ob31 := H.1
              have H := H.2
              refine r_iast s0_86 (by decide) dX11_plan_135 (by decide) ob31 ?_
              refine r_aload_n dX11_plan_136 rfl ?_
              refine r_getR clX11 0 (by decide) s0_85 rfl rfl wX11_11 dX11_plan_137 ?_
              refine r_bipush (v := 31) dX11_plan_140 (by decide) ?_
              refine r_iald s0_86 (by decide) dX11_plan_142 (by decide) ?_
              exact r_iret dX11_plan_143 rfl ⟨rfl, _, rfl, H⟩
            · have H := H.2 c28
              refine r_bipush (v := (-4)) dX11_plan_90 (by decide) ?_
              exact r_iret dX11_plan_92 rfl ⟨rfl, _, rfl, H⟩
          · have H := H.2 c26
            refine r_iload_n dX11_plan_65 rfl ?_
            refine r_i2l dX11_plan_66 r2 ?_
            refine r_lconst (v := 0) dX11_plan_67 rfl ?_
            refine r_lconst (v := 1) dX11_plan_68 rfl ?_
            refine r_cI (as := [ax_l x2, ax_l 0, ax_l 1]) (how_S jX11_in jSX11_in rfl wX11_99 dX11_plan_69) rfl (Nat.le_refl _) (Nat.le_of_ble_eq_true rfl) (fun _ => Nat.le_of_ble_eq_true rfl) H (fun w33 I32 H => ?_)
            have ob34 := H.1
            have H := H.2
            refine r_if_ne (tgt := 78) dX11_plan_72 (by decide) ob34 (fun c35 => ?_) (fun c35 => ?_)
            · have H := H.1 c35
              refine r_aload_n dX11_plan_78 rfl ?_
              refine r_getR clX11 0 (by decide) s0_85 rfl rfl wX11_11 dX11_plan_79 ?_
              refine r_bipush (v := 31) dX11_plan_82 (by decide) ?_
              refine r_iald s0_86 (by decide) dX11_plan_84 (by decide) ?_
              refine r_bipush (v := 8) dX11_plan_85 (by decide) ?_
              refine r_heapR (fun hI36 => ?_)
              refine r_icmp_ne (tgt := 93) dX11_plan_87 (by decide) (hI36 _ _) (by decide) (fun c37 => ?_) (fun c37 => ?_)
              · have H := H.1 c37
                refine r_aload_n dX11_plan_93 rfl ?_
                refine r_getR clX11 0 (by decide) s0_85 rfl rfl wX11_11 dX11_plan_94 ?_
                refine r_bipush (v := 32) dX11_plan_97 (by decide) ?_
                refine r_aload_n dX11_plan_99 rfl ?_
                refine r_getR clX11 0 (by decide) s0_85 rfl rfl wX11_11 dX11_plan_100 ?_
                refine r_bipush (v := 31) dX11_plan_103 (by decide) ?_
                refine r_iald s0_86 (by decide) dX11_plan_105 (by decide) ?_
                refine r_iadd dX11_plan_106 ?_
                refine r_iload_n dX11_plan_107 rfl ?_
                have ob38 := H.1
                have H := H.2
                refine r_iast s0_86 (by decide) dX11_plan_108 ob38 r1 ?_
                refine r_aload_n dX11_plan_109 rfl ?_
                refine r_getR clX11 0 (by decide) s0_85 rfl rfl wX11_11 dX11_plan_110 ?_
                refine r_bipush (v := 40) dX11_plan_113 (by decide) ?_
                refine r_aload_n dX11_plan_115 rfl ?_
                refine r_getR clX11 0 (by decide) s0_85 rfl rfl wX11_11 dX11_plan_116 ?_
                refine r_bipush (v := 31) dX11_plan_119 (by decide) ?_
                refine r_iald s0_86 (by decide) dX11_plan_121 (by decide) ?_
                refine r_iadd dX11_plan_122 ?_
                refine r_iload_n dX11_plan_123 rfl ?_
                have ob39 := H.1
                have H := H.2
                refine r_iast s0_86 (by decide) dX11_plan_124 ob39 r2 ?_
                refine r_aload_n dX11_plan_125 rfl ?_
                refine r_getR clX11 0 (by decide) s0_85 rfl rfl wX11_11 dX11_plan_126 ?_
                refine r_bipush (v := 31) dX11_plan_129 (by decide) ?_
                refine r_dup2 dX11_plan_131 (fun _ => rfl) (fun _ => rfl) ?_
                refine r_iald s0_86 (by decide) dX11_plan_132 (by decide) ?_
                refine r_iconst dX11_plan_133 ?_
                refine r_iadd dX11_plan_134 ?_
                have ob40 := H.1
                have H := H.2
                refine r_iast s0_86 (by decide) dX11_plan_135 (by decide) ob40 ?_
                refine r_aload_n dX11_plan_136 rfl ?_
                refine r_getR clX11 0 (by decide) s0_85 rfl rfl wX11_11 dX11_plan_137 ?_
                refine r_bipush (v := 31) dX11_plan_140 (by decide) ?_
                refine r_iald s0_86 (by decide) dX11_plan_142 (by decide) ?_
                exact r_iret dX11_plan_143 rfl ⟨rfl, _, rfl, H⟩
              · have H := H.2 c37
                refine r_bipush (v := (-4)) dX11_plan_90 (by decide) ?_
                exact r_iret dX11_plan_92 rfl ⟨rfl, _, rfl, H⟩
            · have H := H.2 c35
              refine r_bipush (v := (-2)) dX11_plan_75 (by decide) ?_
              exact r_iret dX11_plan_77 rfl ⟨rfl, _, rfl, H⟩
    · have H := H.2 c5
      refine r_iconst dX11_plan_41 ?_
      exact r_iret dX11_plan_42 rfl ⟨rfl, _, rfl, H⟩
  · have H := H.2 c1
    refine r_bipush (v := 31) dX11_plan_5 (by decide) ?_
    refine r_istore_n dX11_plan_7 (by decide) rfl ?_
    refine r_drop (ls2 := [some (ax_r 85), none, none, some (ax_i 31)]) ?_ (ax_leS (ax_leN (ax_leN (ax_leS ax_leE))))
    exact H

theorem vX11_plan_8 {d : Nat} {Q : Int → ax_H → Prop} {x3 : Int} {I : ax_H} (r3 : ax_R x3) (H :
  (48 ≤ x3 →
    Q 0 I) ∧
  (¬ 48 ≤ x3 →
    (0 ≤ x3 ∧ x3 < 48) ∧
    (RI (d + 1) kX11_plan 8 [some (ax_r 85), none, none, some (ax_i (x3 + 1))] (ax_st I 86 x3 0) Q))) :
  RI (d + 1) kX11_plan 8 [some (ax_r 85), none, none, some (ax_i x3)] I Q := by
  show Rn _ _ _ _ _ _ _ _
  refine r_iload_n dX11_plan_8 rfl ?_
  refine r_bipush (v := 48) dX11_plan_9 (by decide) ?_
  refine r_icmp_ge (tgt := 27) dX11_plan_11 (by decide) r3 (by decide) (fun c1 => ?_) (fun c1 => ?_)
  · have H := H.1 c1
    refine r_iconst dX11_plan_27 ?_
    exact r_iret dX11_plan_28 rfl ⟨rfl, _, rfl, H⟩
  · have H := H.2 c1
    refine r_aload_n dX11_plan_14 rfl ?_
    refine r_getR clX11 0 (by decide) s0_85 rfl rfl wX11_11 dX11_plan_15 ?_
    refine r_iload_n dX11_plan_18 rfl ?_
    refine r_iconst dX11_plan_19 ?_
    have ob2 := H.1
    have H := H.2
    refine r_iast s0_86 (by decide) dX11_plan_20 ob2 (by decide) ?_
    refine r_iinc dX11_plan_21 (by decide) rfl rfl ?_
    refine r_goto (tgt := 8) dX11_plan_24 (by decide) ?_
    exact H

theorem vX11_ends_0 {d : Nat} {Q : Int → ax_H → Prop} {x1 : Int} {x2 : Int} {I : ax_H} (H :
  cI (d + 5) kX11_isSpot [ax_i x1, ax_i x2] I (fun w2 I1 =>
  ax_R w2 ∧
  ((w2 ≠ 0 →
    ∀ y3_16, y3_16 = ((32 * x1) + x2) →
    (RI (d + 6) kX11_ends 20 [some (ax_r 85), none, none, some (ax_i y3_16), some (ax_i 0), none, none, none, none] I1 Q)) ∧
  (w2 = 0 →
    Q (-1) I1)))) :
  RI (d + 6) kX11_ends 0 [some (ax_r 85), some (ax_i x1), some (ax_i x2), none, none, none, none, none, none] I Q := by
  show Rn _ _ _ _ _ _ _ _
  refine r_iload_n dX11_ends_0 rfl ?_
  refine r_iload_n dX11_ends_1 rfl ?_
  refine r_cI (as := [ax_i x1, ax_i x2]) (how_S jX11_isSpot jSX11_isSpot rfl wX11_123 dX11_ends_2) rfl (Nat.le_refl _) (Nat.le_of_ble_eq_true rfl) (fun _ => Nat.le_of_ble_eq_true rfl) H (fun w2 I1 H => ?_)
  have ob3 := H.1
  have H := H.2
  refine r_if_ne (tgt := 10) dX11_ends_5 (by decide) ob3 (fun c4 => ?_) (fun c4 => ?_)
  · have H := H.1 c4
    refine r_bipush (v := 32) dX11_ends_10 (by decide) ?_
    refine r_iload_n dX11_ends_12 rfl ?_
    refine r_imul dX11_ends_13 ?_
    refine r_iload_n dX11_ends_14 rfl ?_
    refine r_iadd dX11_ends_15 ?_
    refine r_name (fun y3_16 e5 => ?_)
    have H := H y3_16 e5
    refine r_istore_n dX11_ends_16 (by decide) rfl ?_
    refine r_iconst dX11_ends_17 ?_
    refine r_istore dX11_ends_18 (by decide) rfl ?_
    refine r_drop (ls2 := [some (ax_r 85), none, none, some (ax_i y3_16), some (ax_i 0), none, none, none, none]) ?_ (ax_leS (ax_leN (ax_leN (ax_leS (ax_leS (ax_leN (ax_leN (ax_leN (ax_leN ax_leE)))))))))
    exact H
  · have H := H.2 c4
    refine r_iconst dX11_ends_8 ?_
    exact r_iret dX11_ends_9 rfl ⟨rfl, _, rfl, H⟩

theorem vX11_ends_20 {d : Nat} {Q : Int → ax_H → Prop} {x3 : Int} {x4 : Int} {I : ax_H} (r4 : ax_R x4) (H :
  ((I 86 31) ≤ x4 →
    Q x3 I) ∧
  (¬ (I 86 31) ≤ x4 →
    (0 ≤ (32 + x4) ∧ (32 + x4) < 48) ∧
    ((2 ≤ (I 86 (32 + x4)) →
      RI (d + 6) kX11_ends 69 [some (ax_r 85), none, none, some (ax_i x3), some (ax_i x4), some (ax_i (I 86 (32 + x4))), some (ax_i 1), some (ax_i 1), none] I Q) ∧
    (¬ 2 ≤ (I 86 (32 + x4)) →
      (0 ≤ (40 + x4) ∧ (40 + x4) < 48) ∧
      (RI (d + 6) kX11_ends 69 [some (ax_r 85), none, none, some (ax_i x3), some (ax_i x4), some (ax_i (I 86 (32 + x4))), some (ax_i 1), some (ax_i (I 86 (40 + x4))), none] I Q))))) :
  RI (d + 6) kX11_ends 20 [some (ax_r 85), none, none, some (ax_i x3), some (ax_i x4), none, none, none, none] I Q := by
  show Rn _ _ _ _ _ _ _ _
  refine r_iload dX11_ends_20 rfl ?_
  refine r_aload_n dX11_ends_22 rfl ?_
  refine r_getR clX11 0 (by decide) s0_85 rfl rfl wX11_11 dX11_ends_23 ?_
  refine r_bipush (v := 31) dX11_ends_26 (by decide) ?_
  refine r_iald s0_86 (by decide) dX11_ends_28 (by decide) ?_
  refine r_heapR (fun hI1 => ?_)
  refine r_icmp_ge (tgt := 180) dX11_ends_29 (by decide) r4 (hI1 _ _) (fun c2 => ?_) (fun c2 => ?_)
  · have H := H.1 c2
    refine r_iload_n dX11_ends_180 rfl ?_
    exact r_iret dX11_ends_181 rfl ⟨rfl, _, rfl, H⟩
  · have H := H.2 c2
    refine r_aload_n dX11_ends_32 rfl ?_
    refine r_getR clX11 0 (by decide) s0_85 rfl rfl wX11_11 dX11_ends_33 ?_
    refine r_bipush (v := 32) dX11_ends_36 (by decide) ?_
    refine r_iload dX11_ends_38 rfl ?_
    refine r_iadd dX11_ends_40 ?_
    have ob3 := H.1
    have H := H.2
    refine r_iald s0_86 (by decide) dX11_ends_41 ob3 ?_
    refine r_istore dX11_ends_42 (by decide) rfl ?_
    refine r_iconst dX11_ends_44 ?_
    refine r_istore dX11_ends_45 (by decide) rfl ?_
    refine r_iload dX11_ends_47 rfl ?_
    refine r_iconst dX11_ends_49 ?_
    refine r_icmp_ge (tgt := 66) dX11_ends_50 (by decide) (hI1 _ _) (by decide) (fun c4 => ?_) (fun c4 => ?_)
    · have H := H.1 c4
      refine r_iconst dX11_ends_66 ?_
      refine r_istore dX11_ends_67 (by decide) rfl ?_
      exact H
    · have H := H.2 c4
      refine r_aload_n dX11_ends_53 rfl ?_
      refine r_getR clX11 0 (by decide) s0_85 rfl rfl wX11_11 dX11_ends_54 ?_
      refine r_bipush (v := 40) dX11_ends_57 (by decide) ?_
      refine r_iload dX11_ends_59 rfl ?_
      refine r_iadd dX11_ends_61 ?_
      have ob5 := H.1
      have H := H.2
      refine r_iald s0_86 (by decide) dX11_ends_62 ob5 ?_
      refine r_goto (tgt := 67) dX11_ends_63 (by decide) ?_
      refine r_istore dX11_ends_67 (by decide) rfl ?_
      exact H

theorem vX11_ends_69 {d : Nat} {Q : Int → ax_H → Prop} {x3 : Int} {x4 : Int} {x5 : Int} {x6 : Int} {x7 : Int} {I : ax_H} (r5 : ax_R x5) (r6 : ax_R x6) (r7 : ax_R x7) (H :
  (x7 ≤ 0 →
    RI (d + 6) kX11_ends 20 [some (ax_r 85), none, none, some (ax_i x3), some (ax_i (x4 + 1)), none, none, none, none] I Q) ∧
  (¬ x7 ≤ 0 →
    (x6 = 0 →
      RI (d + 6) kX11_ends 20 [some (ax_r 85), none, none, some (ax_i x3), some (ax_i (x4 + 1)), none, none, none, none] I Q) ∧
    (¬ x6 = 0 →
      (2 ≤ x5 →
        (x5 ≠ 2 →
          (0 ≤ x3 ∧ x3 < 2147483648) ∧
          (∀ y8_140, y8_140 = ((32 * (x3 % 32)) + (x3 / 32)) →
          (ax_R y8_140 ∧
          ((y8_140 = (-7) →
            RI (d + 6) kX11_ends 69 [some (ax_r 85), none, none, some (ax_i x3), some (ax_i x4), some (ax_i x5), some (ax_i 0), some (ax_i (x7 + (-1))), none] I Q) ∧
          (¬ y8_140 = (-7) →
            RI (d + 6) kX11_ends 69 [some (ax_r 85), none, none, some (ax_i y8_140), some (ax_i x4), some (ax_i x5), some (ax_i 1), some (ax_i (x7 + (-1))), none] I Q))))) ∧
        (x5 = 2 →
          (0 ≤ (40 + x4) ∧ (40 + x4) < 48) ∧
          (cI (d + 5) kX11_swapped [ax_r 85, ax_i x3, ax_i (I 86 (40 + x4))] I (fun w13 I12 =>
          ax_R w13 ∧
          ((w13 = (-7) →
            RI (d + 6) kX11_ends 69 [some (ax_r 85), none, none, some (ax_i x3), some (ax_i x4), some (ax_i x5), some (ax_i 0), some (ax_i (x7 + (-1))), none] I12 Q) ∧
          (¬ w13 = (-7) →
            RI (d + 6) kX11_ends 69 [some (ax_r 85), none, none, some (ax_i w13), some (ax_i x4), some (ax_i x5), some (ax_i 1), some (ax_i (x7 + (-1))), none] I12 Q)))))) ∧
      (¬ 2 ≤ x5 →
        (x5 ≠ 1 →
          cI (d + 5) kX11_step [ax_r 85, ax_i x3, ax_i 0] I (fun w20 I19 =>
          ax_R w20 ∧
          ((w20 = (-7) →
            RI (d + 6) kX11_ends 69 [some (ax_r 85), none, none, some (ax_i x3), some (ax_i x4), some (ax_i x5), some (ax_i 0), some (ax_i (x7 + (-1))), none] I19 Q) ∧
          (¬ w20 = (-7) →
            RI (d + 6) kX11_ends 69 [some (ax_r 85), none, none, some (ax_i w20), some (ax_i x4), some (ax_i x5), some (ax_i 1), some (ax_i (x7 + (-1))), none] I19 Q)))) ∧
        (x5 = 1 →
          cI (d + 5) kX11_step [ax_r 85, ax_i x3, ax_i 1] I (fun w26 I25 =>
          ax_R w26 ∧
          ((w26 = (-7) →
            RI (d + 6) kX11_ends 69 [some (ax_r 85), none, none, some (ax_i x3), some (ax_i x4), some (ax_i x5), some (ax_i 0), some (ax_i (x7 + (-1))), none] I25 Q) ∧
          (¬ w26 = (-7) →
            RI (d + 6) kX11_ends 69 [some (ax_r 85), none, none, some (ax_i w26), some (ax_i x4), some (ax_i x5), some (ax_i 1), some (ax_i (x7 + (-1))), none] I25 Q)))))))) :
  RI (d + 6) kX11_ends 69 [some (ax_r 85), none, none, some (ax_i x3), some (ax_i x4), some (ax_i x5), some (ax_i x6), some (ax_i x7), none] I Q := by
  show Rn _ _ _ _ _ _ _ _
  refine r_iload dX11_ends_69 rfl ?_
  refine r_if_le (tgt := 174) dX11_ends_71 (by decide) r7 (fun c1 => ?_) (fun c1 => ?_)
  · have H := H.1 c1
    refine r_iinc dX11_ends_174 (by decide) rfl rfl ?_
    refine r_goto (tgt := 20) dX11_ends_177 (by decide) ?_
    refine r_drop (ls2 := [some (ax_r 85), none, none, some (ax_i x3), some (ax_i (x4 + 1)), none, none, none, none]) ?_ (ax_leS (ax_leN (ax_leN (ax_leS (ax_leS (ax_leN (ax_leN (ax_leN (ax_leN ax_leE)))))))))
    exact H
  · have H := H.2 c1
    refine r_iload dX11_ends_74 rfl ?_
    refine r_if_eq (tgt := 174) dX11_ends_76 (by decide) r6 (fun c2 => ?_) (fun c2 => ?_)
    · have H := H.1 c2
      refine r_iinc dX11_ends_174 (by decide) rfl rfl ?_
      refine r_goto (tgt := 20) dX11_ends_177 (by decide) ?_
      refine r_drop (ls2 := [some (ax_r 85), none, none, some (ax_i x3), some (ax_i (x4 + 1)), none, none, none, none]) ?_ (ax_leS (ax_leN (ax_leN (ax_leS (ax_leS (ax_leN (ax_leN (ax_leN (ax_leN ax_leE)))))))))
      exact H
    · have H := H.2 c2
      refine r_iload dX11_ends_79 rfl ?_
      refine r_iconst dX11_ends_81 ?_
      refine r_icmp_ge (tgt := 104) dX11_ends_82 (by decide) r5 (by decide) (fun c3 => ?_) (fun c3 => ?_)
      · have H := H.1 c3
        refine r_iload dX11_ends_104 rfl ?_
        refine r_iconst dX11_ends_106 ?_
        refine r_icmp_ne (tgt := 128) dX11_ends_107 (by decide) r5 (by decide) (fun c4 => ?_) (fun c4 => ?_)
        · have H := H.1 c4
          refine r_bipush (v := 32) dX11_ends_128 (by decide) ?_
          refine r_iload_n dX11_ends_130 rfl ?_
          refine r_bipush (v := 32) dX11_ends_131 (by decide) ?_
          have ob5 := H.1
          have H := H.2
          refine r_iremp dX11_ends_133 ob5 (by decide) ?_
          refine r_imul dX11_ends_134 ?_
          refine r_iload_n dX11_ends_135 rfl ?_
          refine r_bipush (v := 32) dX11_ends_136 (by decide) ?_
          refine r_idivp dX11_ends_138 ob5 (by decide) ?_
          refine r_iadd dX11_ends_139 ?_
          refine r_name (fun y8_140 e6 => ?_)
          have H := H y8_140 e6
          refine r_istore dX11_ends_140 (by decide) rfl ?_
          refine r_iload dX11_ends_142 rfl ?_
          refine r_bipush (v := (-7)) dX11_ends_144 (by decide) ?_
          have ob7 := H.1
          have H := H.2
          refine r_icmp_eq (tgt := 153) dX11_ends_146 (by decide) ob7 (by decide) (fun c8 => ?_) (fun c8 => ?_)
          · have H := H.1 c8
            refine r_iconst dX11_ends_153 ?_
            refine r_istore dX11_ends_154 (by decide) rfl ?_
            refine r_iload dX11_ends_156 rfl ?_
            refine r_if_eq (tgt := 166) dX11_ends_158 (by decide) (by decide) (fun c9 => ?_) (fun c9 => absurd c9 (by decide))
            refine r_iload_n dX11_ends_166 rfl ?_
            refine r_istore_n dX11_ends_167 (by decide) rfl ?_
            refine r_iinc dX11_ends_168 (by decide) rfl rfl ?_
            refine r_goto (tgt := 69) dX11_ends_171 (by decide) ?_
            refine r_drop (ls2 := [some (ax_r 85), none, none, some (ax_i x3), some (ax_i x4), some (ax_i x5), some (ax_i 0), some (ax_i (x7 + (-1))), none]) ?_ (ax_leS (ax_leN (ax_leN (ax_leS (ax_leS (ax_leS (ax_leS (ax_leS (ax_leN ax_leE)))))))))
            exact H
          · have H := H.2 c8
            refine r_iconst dX11_ends_149 ?_
            refine r_goto (tgt := 154) dX11_ends_150 (by decide) ?_
            refine r_istore dX11_ends_154 (by decide) rfl ?_
            refine r_iload dX11_ends_156 rfl ?_
            refine r_if_eq (tgt := 166) dX11_ends_158 (by decide) (by decide) (fun c10 => absurd c10 (by decide)) (fun c10 => ?_)
            refine r_iload dX11_ends_161 rfl ?_
            refine r_goto (tgt := 167) dX11_ends_163 (by decide) ?_
            refine r_istore_n dX11_ends_167 (by decide) rfl ?_
            refine r_iinc dX11_ends_168 (by decide) rfl rfl ?_
            refine r_goto (tgt := 69) dX11_ends_171 (by decide) ?_
            refine r_drop (ls2 := [some (ax_r 85), none, none, some (ax_i y8_140), some (ax_i x4), some (ax_i x5), some (ax_i 1), some (ax_i (x7 + (-1))), none]) ?_ (ax_leS (ax_leN (ax_leN (ax_leS (ax_leS (ax_leS (ax_leS (ax_leS (ax_leN ax_leE)))))))))
            exact H
        · have H := H.2 c4
          refine r_aload_n dX11_ends_110 rfl ?_
          refine r_iload_n dX11_ends_111 rfl ?_
          refine r_aload_n dX11_ends_112 rfl ?_
          refine r_getR clX11 0 (by decide) s0_85 rfl rfl wX11_11 dX11_ends_113 ?_
          refine r_bipush (v := 40) dX11_ends_116 (by decide) ?_
          refine r_iload dX11_ends_118 rfl ?_
          refine r_iadd dX11_ends_120 ?_
          have ob11 := H.1
          have H := H.2
          refine r_iald s0_86 (by decide) dX11_ends_121 ob11 ?_
          refine r_cI (as := [ax_r 85, ax_i x3, ax_i (I 86 (40 + x4))]) (how_V (ci := 11) jX11_swapped jIX11_swapped jVX11_swapped rfl s0_85 (by decide) rfl rfl wX11_151 dX11_ends_122) rfl (Nat.le_refl _) (Nat.le_of_ble_eq_true rfl) (fun _ => Nat.le_of_ble_eq_true rfl) H (fun w13 I12 H => ?_)
          refine r_goto (tgt := 140) dX11_ends_125 (by decide) ?_
          refine r_istore dX11_ends_140 (by decide) rfl ?_
          refine r_iload dX11_ends_142 rfl ?_
          refine r_bipush (v := (-7)) dX11_ends_144 (by decide) ?_
          have ob14 := H.1
          have H := H.2
          refine r_icmp_eq (tgt := 153) dX11_ends_146 (by decide) ob14 (by decide) (fun c15 => ?_) (fun c15 => ?_)
          · have H := H.1 c15
            refine r_iconst dX11_ends_153 ?_
            refine r_istore dX11_ends_154 (by decide) rfl ?_
            refine r_iload dX11_ends_156 rfl ?_
            refine r_if_eq (tgt := 166) dX11_ends_158 (by decide) (by decide) (fun c16 => ?_) (fun c16 => absurd c16 (by decide))
            refine r_iload_n dX11_ends_166 rfl ?_
            refine r_istore_n dX11_ends_167 (by decide) rfl ?_
            refine r_iinc dX11_ends_168 (by decide) rfl rfl ?_
            refine r_goto (tgt := 69) dX11_ends_171 (by decide) ?_
            refine r_drop (ls2 := [some (ax_r 85), none, none, some (ax_i x3), some (ax_i x4), some (ax_i x5), some (ax_i 0), some (ax_i (x7 + (-1))), none]) ?_ (ax_leS (ax_leN (ax_leN (ax_leS (ax_leS (ax_leS (ax_leS (ax_leS (ax_leN ax_leE)))))))))
            exact H
          · have H := H.2 c15
            refine r_iconst dX11_ends_149 ?_
            refine r_goto (tgt := 154) dX11_ends_150 (by decide) ?_
            refine r_istore dX11_ends_154 (by decide) rfl ?_
            refine r_iload dX11_ends_156 rfl ?_
            refine r_if_eq (tgt := 166) dX11_ends_158 (by decide) (by decide) (fun c17 => absurd c17 (by decide)) (fun c17 => ?_)
            refine r_iload dX11_ends_161 rfl ?_
            refine r_goto (tgt := 167) dX11_ends_163 (by decide) ?_
            refine r_istore_n dX11_ends_167 (by decide) rfl ?_
            refine r_iinc dX11_ends_168 (by decide) rfl rfl ?_
            refine r_goto (tgt := 69) dX11_ends_171 (by decide) ?_
            refine r_drop (ls2 := [some (ax_r 85), none, none, some (ax_i w13), some (ax_i x4), some (ax_i x5), some (ax_i 1), some (ax_i (x7 + (-1))), none]) ?_ (ax_leS (ax_leN (ax_leN (ax_leS (ax_leS (ax_leS (ax_leS (ax_leS (ax_leN ax_leE)))))))))
            exact H
      · have H := H.2 c3
        refine r_aload_n dX11_ends_85 rfl ?_
        refine r_iload_n dX11_ends_86 rfl ?_
        refine r_iload dX11_ends_87 rfl ?_
        refine r_iconst dX11_ends_89 ?_
        refine r_icmp_ne (tgt := 97) dX11_ends_90 (by decide) r5 (by decide) (fun c18 => ?_) (fun c18 => ?_)
        · have H := H.1 c18
          refine r_iconst dX11_ends_97 ?_
          refine r_cI (as := [ax_r 85, ax_i x3, ax_i 0]) (how_V (ci := 11) jX11_step jIX11_step jVX11_step rfl s0_85 (by decide) rfl rfl wX11_158 dX11_ends_98) rfl (Nat.le_refl _) (Nat.le_of_ble_eq_true rfl) (fun _ => Nat.le_of_ble_eq_true rfl) H (fun w20 I19 H => ?_)
          refine r_goto (tgt := 140) dX11_ends_101 (by decide) ?_
          refine r_istore dX11_ends_140 (by decide) rfl ?_
          refine r_iload dX11_ends_142 rfl ?_
          refine r_bipush (v := (-7)) dX11_ends_144 (by decide) ?_
          have ob21 := H.1
          have H := H.2
          refine r_icmp_eq (tgt := 153) dX11_ends_146 (by decide) ob21 (by decide) (fun c22 => ?_) (fun c22 => ?_)
          · have H := H.1 c22
            refine r_iconst dX11_ends_153 ?_
            refine r_istore dX11_ends_154 (by decide) rfl ?_
            refine r_iload dX11_ends_156 rfl ?_
            refine r_if_eq (tgt := 166) dX11_ends_158 (by decide) (by decide) (fun c23 => ?_) (fun c23 => absurd c23 (by decide))
            refine r_iload_n dX11_ends_166 rfl ?_
            refine r_istore_n dX11_ends_167 (by decide) rfl ?_
            refine r_iinc dX11_ends_168 (by decide) rfl rfl ?_
            refine r_goto (tgt := 69) dX11_ends_171 (by decide) ?_
            refine r_drop (ls2 := [some (ax_r 85), none, none, some (ax_i x3), some (ax_i x4), some (ax_i x5), some (ax_i 0), some (ax_i (x7 + (-1))), none]) ?_ (ax_leS (ax_leN (ax_leN (ax_leS (ax_leS (ax_leS (ax_leS (ax_leS (ax_leN ax_leE)))))))))
            exact H
          · have H := H.2 c22
            refine r_iconst dX11_ends_149 ?_
            refine r_goto (tgt := 154) dX11_ends_150 (by decide) ?_
            refine r_istore dX11_ends_154 (by decide) rfl ?_
            refine r_iload dX11_ends_156 rfl ?_
            refine r_if_eq (tgt := 166) dX11_ends_158 (by decide) (by decide) (fun c24 => absurd c24 (by decide)) (fun c24 => ?_)
            refine r_iload dX11_ends_161 rfl ?_
            refine r_goto (tgt := 167) dX11_ends_163 (by decide) ?_
            refine r_istore_n dX11_ends_167 (by decide) rfl ?_
            refine r_iinc dX11_ends_168 (by decide) rfl rfl ?_
            refine r_goto (tgt := 69) dX11_ends_171 (by decide) ?_
            refine r_drop (ls2 := [some (ax_r 85), none, none, some (ax_i w20), some (ax_i x4), some (ax_i x5), some (ax_i 1), some (ax_i (x7 + (-1))), none]) ?_ (ax_leS (ax_leN (ax_leN (ax_leS (ax_leS (ax_leS (ax_leS (ax_leS (ax_leN ax_leE)))))))))
            exact H
        · have H := H.2 c18
          refine r_iconst dX11_ends_93 ?_
          refine r_goto (tgt := 98) dX11_ends_94 (by decide) ?_
          refine r_cI (as := [ax_r 85, ax_i x3, ax_i 1]) (how_V (ci := 11) jX11_step jIX11_step jVX11_step rfl s0_85 (by decide) rfl rfl wX11_158 dX11_ends_98) rfl (Nat.le_refl _) (Nat.le_of_ble_eq_true rfl) (fun _ => Nat.le_of_ble_eq_true rfl) H (fun w26 I25 H => ?_)
          refine r_goto (tgt := 140) dX11_ends_101 (by decide) ?_
          refine r_istore dX11_ends_140 (by decide) rfl ?_
          refine r_iload dX11_ends_142 rfl ?_
          refine r_bipush (v := (-7)) dX11_ends_144 (by decide) ?_
          have ob27 := H.1
          have H := H.2
          refine r_icmp_eq (tgt := 153) dX11_ends_146 (by decide) ob27 (by decide) (fun c28 => ?_) (fun c28 => ?_)
          · have H := H.1 c28
            refine r_iconst dX11_ends_153 ?_
            refine r_istore dX11_ends_154 (by decide) rfl ?_
            refine r_iload dX11_ends_156 rfl ?_
            refine r_if_eq (tgt := 166) dX11_ends_158 (by decide) (by decide) (fun c29 => ?_) (fun c29 => absurd c29 (by decide))
            refine r_iload_n dX11_ends_166 rfl ?_
            refine r_istore_n dX11_ends_167 (by decide) rfl ?_
            refine r_iinc dX11_ends_168 (by decide) rfl rfl ?_
            refine r_goto (tgt := 69) dX11_ends_171 (by decide) ?_
            refine r_drop (ls2 := [some (ax_r 85), none, none, some (ax_i x3), some (ax_i x4), some (ax_i x5), some (ax_i 0), some (ax_i (x7 + (-1))), none]) ?_ (ax_leS (ax_leN (ax_leN (ax_leS (ax_leS (ax_leS (ax_leS (ax_leS (ax_leN ax_leE)))))))))
            exact H
          · have H := H.2 c28
            refine r_iconst dX11_ends_149 ?_
            refine r_goto (tgt := 154) dX11_ends_150 (by decide) ?_
            refine r_istore dX11_ends_154 (by decide) rfl ?_
            refine r_iload dX11_ends_156 rfl ?_
            refine r_if_eq (tgt := 166) dX11_ends_158 (by decide) (by decide) (fun c30 => absurd c30 (by decide)) (fun c30 => ?_)
            refine r_iload dX11_ends_161 rfl ?_
            refine r_goto (tgt := 167) dX11_ends_163 (by decide) ?_
            refine r_istore_n dX11_ends_167 (by decide) rfl ?_
            refine r_iinc dX11_ends_168 (by decide) rfl rfl ?_
            refine r_goto (tgt := 69) dX11_ends_171 (by decide) ?_
            refine r_drop (ls2 := [some (ax_r 85), none, none, some (ax_i w26), some (ax_i x4), some (ax_i x5), some (ax_i 1), some (ax_i (x7 + (-1))), none]) ?_ (ax_leS (ax_leN (ax_leN (ax_leS (ax_leS (ax_leS (ax_leS (ax_leS (ax_leN ax_leE)))))))))
            exact H

theorem vX11_feed_0 {d : Nat} {Q : Int → ax_H → Prop} {x1 : Int} {I : ax_H} (r1 : ax_R x1) (H :
  cI d kX11_in [ax_l x1, ax_l 1, ax_l 127] I (fun w2 I1 =>
  ax_R w2 ∧
  ((w2 ≠ 0 →
    ((I1 85 23) ≠ 60 →
      (0 ≤ (I1 85 23) ∧ (I1 85 23) < 60) ∧
      (ax_R (((ax_st I1 113 (I1 85 23) x1) 85 23) + 1) ∧
      (Q ((ax_st (ax_st I1 113 (I1 85 23) x1) 85 23 (((ax_st I1 113 (I1 85 23) x1) 85 23) + 1)) 85 23) (ax_st (ax_st I1 113 (I1 85 23) x1) 85 23 (((ax_st I1 113 (I1 85 23) x1) 85 23) + 1))))) ∧
    ((I1 85 23) = 60 →
      Q (-4) I1)) ∧
  (w2 = 0 →
    Q (-2) I1)))) :
  RI (d + 1) kX11_feed 0 [some (ax_r 85), some (ax_i x1)] I Q := by
  show Rn _ _ _ _ _ _ _ _
  refine r_iload_n dX11_feed_0 rfl ?_
  refine r_i2l dX11_feed_1 r1 ?_
  refine r_lconst (v := 1) dX11_feed_2 rfl ?_
  refine r_ldc2 (v := 127) dX11_feed_3 wX11_235 ?_
  refine r_cI (as := [ax_l x1, ax_l 1, ax_l 127]) (how_S jX11_in jSX11_in rfl wX11_99 dX11_feed_6) rfl (Nat.le_refl _) (Nat.le_of_ble_eq_true rfl) (fun _ => Nat.le_of_ble_eq_true rfl) H (fun w2 I1 H => ?_)
  have ob3 := H.1
  have H := H.2
  refine r_if_ne (tgt := 15) dX11_feed_9 (by decide) ob3 (fun c4 => ?_) (fun c4 => ?_)
  · have H := H.1 c4
    refine r_aload_n dX11_feed_15 rfl ?_
    refine r_getI clX11 23 23 (by decide) s0_85 rfl rfl wX11_237 dX11_feed_16 ?_
    refine r_bipush (v := 60) dX11_feed_19 (by decide) ?_
    refine r_heapR (fun hI5 => ?_)
    refine r_icmp_ne (tgt := 27) dX11_feed_21 (by decide) (hI5 _ _) (by decide) (fun c6 => ?_) (fun c6 => ?_)
    · have H := H.1 c6
      refine r_aload_n dX11_feed_27 rfl ?_
      refine r_getR clX11 22 (by decide) s0_85 rfl rfl wX11_78 dX11_feed_28 ?_
      refine r_aload_n dX11_feed_31 rfl ?_
      refine r_getI clX11 23 23 (by decide) s0_85 rfl rfl wX11_237 dX11_feed_32 ?_
      refine r_iload_n dX11_feed_35 rfl ?_
      have ob7 := H.1
      have H := H.2
      refine r_iast s0_113 (by decide) dX11_feed_36 ob7 r1 ?_
      refine r_aload_n dX11_feed_37 rfl ?_
      refine r_dup dX11_feed_38 (fun _ => rfl) ?_
      refine r_getI clX11 23 23 (by decide) s0_85 rfl rfl wX11_237 dX11_feed_39 ?_
      refine r_iconst dX11_feed_42 ?_
      refine r_iadd dX11_feed_43 ?_
      have ob8 := H.1
      have H := H.2
      refine r_putI clX11 23 23 (by decide) s0_85 rfl rfl rfl ob8 rfl rfl wX11_237 dX11_feed_44 ?_
      refine r_aload_n dX11_feed_47 rfl ?_
      refine r_getI clX11 23 23 (by decide) s0_85 rfl rfl wX11_237 dX11_feed_48 ?_
      exact r_iret dX11_feed_51 rfl ⟨rfl, _, rfl, H⟩
    · have H := H.2 c6
      refine r_bipush (v := (-4)) dX11_feed_24 (by decide) ?_
      exact r_iret dX11_feed_26 rfl ⟨rfl, _, rfl, H⟩
  · have H := H.2 c4
    refine r_bipush (v := (-2)) dX11_feed_12 (by decide) ?_
    exact r_iret dX11_feed_14 rfl ⟨rfl, _, rfl, H⟩

theorem vX11_here_0 {d : Nat} {Q : Int → ax_H → Prop} {I : ax_H} (H :
  ((I 85 23) ≤ (I 85 24) →
    Q 0 I) ∧
  (¬ (I 85 23) ≤ (I 85 24) →
    (0 ≤ (I 85 24) ∧ (I 85 24) < 60) ∧
    (Q (I 113 (I 85 24)) I))) :
  RI d kX11_here 0 [some (ax_r 85)] I Q := by
  show Rn _ _ _ _ _ _ _ _
  refine r_aload_n dX11_here_0 rfl ?_
  refine r_getI clX11 24 24 (by decide) s0_85 rfl rfl wX11_241 dX11_here_1 ?_
  refine r_aload_n dX11_here_4 rfl ?_
  refine r_getI clX11 23 23 (by decide) s0_85 rfl rfl wX11_237 dX11_here_5 ?_
  refine r_heapR (fun hI1 => ?_)
  refine r_icmp_ge (tgt := 23) dX11_here_8 (by decide) (hI1 _ _) (hI1 _ _) (fun c2 => ?_) (fun c2 => ?_)
  · have H := H.1 c2
    refine r_iconst dX11_here_23 ?_
    exact r_iret dX11_here_24 rfl ⟨rfl, _, rfl, H⟩
  · have H := H.2 c2
    refine r_aload_n dX11_here_11 rfl ?_
    refine r_getR clX11 22 (by decide) s0_85 rfl rfl wX11_78 dX11_here_12 ?_
    refine r_aload_n dX11_here_15 rfl ?_
    refine r_getI clX11 24 24 (by decide) s0_85 rfl rfl wX11_241 dX11_here_16 ?_
    have ob3 := H.1
    have H := H.2
    refine r_iald s0_113 (by decide) dX11_here_19 ob3 ?_
    refine r_goto (tgt := 24) dX11_here_20 (by decide) ?_
    exact r_iret dX11_here_24 rfl ⟨rfl, _, rfl, H⟩

theorem vX11_often_0 {d : Nat} {Q : Int → ax_H → Prop} {x1 : Int} {I : ax_H} (H :
  RI (d + 1) kX11_often 2 [some (ax_r 85), some (ax_i x1), some (ax_i 0)] I Q) :
  RI (d + 1) kX11_often 0 [some (ax_r 85), some (ax_i x1), none] I Q := by
  show Rn _ _ _ _ _ _ _ _
  refine r_iconst dX11_often_0 ?_
  refine r_istore_n dX11_often_1 (by decide) rfl ?_
  exact H

theorem vX11_often_2 {d : Nat} {Q : Int → ax_H → Prop} {x1 : Int} {x2 : Int} {I : ax_H} (r1 : ax_R x1) (r2 : ax_R x2) (H :
  (2 ≤ x2 →
    Q x2 I) ∧
  (¬ 2 ≤ x2 →
    cI d kX11_here [ax_r 85] I (fun w3 I2 =>
    ax_R w3 ∧
    ((w3 ≠ x1 →
      Q x2 I2) ∧
    (w3 = x1 →
      ax_R ((I2 85 24) + 1) ∧
      (RI (d + 1) kX11_often 2 [some (ax_r 85), some (ax_i x1), some (ax_i (x2 + 1))] (ax_st I2 85 24 ((I2 85 24) + 1)) Q)))))) :
  RI (d + 1) kX11_often 2 [some (ax_r 85), some (ax_i x1), some (ax_i x2)] I Q := by
  show Rn _ _ _ _ _ _ _ _
  refine r_iload_n dX11_often_2 rfl ?_
  refine r_iconst dX11_often_3 ?_
  refine r_icmp_ge (tgt := 31) dX11_often_4 (by decide) r2 (by decide) (fun c1 => ?_) (fun c1 => ?_)
  · have H := H.1 c1
    refine r_iload_n dX11_often_31 rfl ?_
    exact r_iret dX11_often_32 rfl ⟨rfl, _, rfl, H⟩
  · have H := H.2 c1
    refine r_aload_n dX11_often_7 rfl ?_
    refine r_cI (as := [ax_r 85]) (how_V (ci := 11) jX11_here jIX11_here jVX11_here rfl s0_85 (by decide) rfl rfl wX11_244 dX11_often_8) rfl (Nat.le_refl _) (Nat.le_of_ble_eq_true rfl) (fun _ => Nat.le_of_ble_eq_true rfl) H (fun w3 I2 H => ?_)
    refine r_iload_n dX11_often_11 rfl ?_
    have ob4 := H.1
    have H := H.2
    refine r_icmp_ne (tgt := 31) dX11_often_12 (by decide) ob4 r1 (fun c5 => ?_) (fun c5 => ?_)
    · have H := H.1 c5
      refine r_iload_n dX11_often_31 rfl ?_
      exact r_iret dX11_often_32 rfl ⟨rfl, _, rfl, H⟩
    · have H := H.2 c5
      refine r_iinc dX11_often_15 (by decide) rfl rfl ?_
      refine r_aload_n dX11_often_18 rfl ?_
      refine r_dup dX11_often_19 (fun _ => rfl) ?_
      refine r_getI clX11 24 24 (by decide) s0_85 rfl rfl wX11_241 dX11_often_20 ?_
      refine r_iconst dX11_often_23 ?_
      refine r_iadd dX11_often_24 ?_
      have ob6 := H.1
      have H := H.2
      refine r_putI clX11 24 24 (by decide) s0_85 rfl rfl rfl ob6 rfl rfl wX11_241 dX11_often_25 ?_
      refine r_goto (tgt := 2) dX11_often_28 (by decide) ?_
      exact H

theorem vX11_isTerm_0 {d : Nat} {Q : Int → ax_H → Prop} {I : ax_H} (H :
  cI (d + 1) kX11_here [ax_r 85] I (fun w2 I1 =>
  ax_R w2 ∧
  (cI (d + 1) kX11_in [ax_l w2, ax_l 49, ax_l 57] I1 (fun w5 I4 =>
  ax_R w5 ∧
  ((w5 ≠ 0 →
    cI (d + 1) kX11_here [ax_r 85] I4 (fun w9 I8 =>
    ∀ y1_26, y1_26 = (w9 - 48) →
    (ax_R ((I8 85 24) + 1) ∧
    (cI (d + 1) kX11_here [ax_r 85] (ax_st I8 85 24 ((I8 85 24) + 1)) (fun w13 I12 =>
    ax_R w13 ∧
    (cI (d + 1) kX11_in [ax_l w13, ax_l 48, ax_l 57] I12 (fun w16 I15 =>
    ax_R w16 ∧
    ((w16 = 0 →
      cI (d + 1) kX11_often [ax_r 85, ax_i 120] I15 (fun w20 I19 =>
      cI (d + 1) kX11_often [ax_r 85, ax_i 121] I19 (fun w22 I21 =>
      (0 ≤ ((3 * w20) + w22) ∧ ((3 * w20) + w22) < 9) ∧
      ((0 ≤ ((I21 114 ((3 * w20) + w22)) + y1_26) ∧ ((I21 114 ((3 * w20) + w22)) + y1_26) < 2147483648) ∧
      (Q 1 (ax_st I21 114 ((3 * w20) + w22) (((I21 114 ((3 * w20) + w22)) + y1_26) % 31))))))) ∧
    (¬ w16 = 0 →
      cI (d + 1) kX11_here [ax_r 85] I15 (fun w26 I25 =>
      ∀ y1_66, y1_66 = (((10 * y1_26) + w26) - 48) →
      (ax_R y1_66 ∧
      ((y1_66 < 31 →
        ax_R ((I25 85 24) + 1) ∧
        (cI (d + 1) kX11_often [ax_r 85, ax_i 120] (ax_st I25 85 24 ((I25 85 24) + 1)) (fun w32 I31 =>
        cI (d + 1) kX11_often [ax_r 85, ax_i 121] I31 (fun w34 I33 =>
        (0 ≤ ((3 * w32) + w34) ∧ ((3 * w32) + w34) < 9) ∧
        ((0 ≤ ((I33 114 ((3 * w32) + w34)) + y1_66) ∧ ((I33 114 ((3 * w32) + w34)) + y1_66) < 2147483648) ∧
        (Q 1 (ax_st I33 114 ((3 * w32) + w34) (((I33 114 ((3 * w32) + w34)) + y1_66) % 31)))))))) ∧
      (¬ y1_66 < 31 →
        Q 0 I25))))))))))))) ∧
  (w5 = 0 →
    Q 0 I4)))))) :
  RI (d + 2) kX11_isTerm 0 [some (ax_r 85), none, none, none] I Q := by
  show Rn _ _ _ _ _ _ _ _
  refine r_aload_n dX11_isTerm_0 rfl ?_
  refine r_cI (as := [ax_r 85]) (how_V (ci := 11) jX11_here jIX11_here jVX11_here rfl s0_85 (by decide) rfl rfl wX11_244 dX11_isTerm_1) rfl (Nat.le_refl _) (Nat.le_of_ble_eq_true rfl) (fun _ => Nat.le_of_ble_eq_true rfl) H (fun w2 I1 H => ?_)
  have ob3 := H.1
  have H := H.2
  refine r_i2l dX11_isTerm_4 ob3 ?_
  refine r_ldc2 (v := 49) dX11_isTerm_5 wX11_248 ?_
  refine r_ldc2 (v := 57) dX11_isTerm_8 wX11_250 ?_
  refine r_cI (as := [ax_l w2, ax_l 49, ax_l 57]) (how_S jX11_in jSX11_in rfl wX11_99 dX11_isTerm_11) rfl (Nat.le_refl _) (Nat.le_of_ble_eq_true rfl) (fun _ => Nat.le_of_ble_eq_true rfl) H (fun w5 I4 H => ?_)
  have ob6 := H.1
  have H := H.2
  refine r_if_ne (tgt := 19) dX11_isTerm_14 (by decide) ob6 (fun c7 => ?_) (fun c7 => ?_)
  · have H := H.1 c7
    refine r_aload_n dX11_isTerm_19 rfl ?_
    refine r_cI (as := [ax_r 85]) (how_V (ci := 11) jX11_here jIX11_here jVX11_here rfl s0_85 (by decide) rfl rfl wX11_244 dX11_isTerm_20) rfl (Nat.le_refl _) (Nat.le_of_ble_eq_true rfl) (fun _ => Nat.le_of_ble_eq_true rfl) H (fun w9 I8 H => ?_)
    refine r_bipush (v := 48) dX11_isTerm_23 (by decide) ?_
    refine r_isub dX11_isTerm_25 ?_
    refine r_name (fun y1_26 e10 => ?_)
    have H := H y1_26 e10
    refine r_istore_n dX11_isTerm_26 (by decide) rfl ?_
    refine r_aload_n dX11_isTerm_27 rfl ?_
    refine r_dup dX11_isTerm_28 (fun _ => rfl) ?_
    refine r_getI clX11 24 24 (by decide) s0_85 rfl rfl wX11_241 dX11_isTerm_29 ?_
    refine r_iconst dX11_isTerm_32 ?_
    refine r_iadd dX11_isTerm_33 ?_
    have ob11 := H.1
    have H := H.2
    refine r_putI clX11 24 24 (by decide) s0_85 rfl rfl rfl ob11 rfl rfl wX11_241 dX11_isTerm_34 ?_
    refine r_aload_n dX11_isTerm_37 rfl ?_
    refine r_cI (as := [ax_r 85]) (how_V (ci := 11) jX11_here jIX11_here jVX11_here rfl s0_85 (by decide) rfl rfl wX11_244 dX11_isTerm_38) rfl (Nat.le_refl _) (Nat.le_of_ble_eq_true rfl) (fun _ => Nat.le_of_ble_eq_true rfl) H (fun w13 I12 H => ?_)
    have ob14 := H.1
    have H := H.2
    refine r_i2l dX11_isTerm_41 ob14 ?_
    refine r_ldc2 (v := 48) dX11_isTerm_42 wX11_252 ?_
    refine r_ldc2 (v := 57) dX11_isTerm_45 wX11_250 ?_
    refine r_cI (as := [ax_l w13, ax_l 48, ax_l 57]) (how_S jX11_in jSX11_in rfl wX11_99 dX11_isTerm_48) rfl (Nat.le_refl _) (Nat.le_of_ble_eq_true rfl) (fun _ => Nat.le_of_ble_eq_true rfl) H (fun w16 I15 H => ?_)
    have ob17 := H.1
    have H := H.2
    refine r_if_eq (tgt := 85) dX11_isTerm_51 (by decide) ob17 (fun c18 => ?_) (fun c18 => ?_)
    · have H := H.1 c18
      refine r_aload_n dX11_isTerm_85 rfl ?_
      refine r_bipush (v := 120) dX11_isTerm_86 (by decide) ?_
      refine r_cI (as := [ax_r 85, ax_i 120]) (how_V (ci := 11) jX11_often jIX11_often jVX11_often rfl s0_85 (by decide) rfl rfl wX11_254 dX11_isTerm_88) rfl (Nat.le_refl _) (Nat.le_of_ble_eq_true rfl) (fun _ => Nat.le_of_ble_eq_true rfl) H (fun w20 I19 H => ?_)
      refine r_istore_n dX11_isTerm_91 (by decide) rfl ?_
      refine r_aload_n dX11_isTerm_92 rfl ?_
      refine r_bipush (v := 121) dX11_isTerm_93 (by decide) ?_
      refine r_cI (as := [ax_r 85, ax_i 121]) (how_V (ci := 11) jX11_often jIX11_often jVX11_often rfl s0_85 (by decide) rfl rfl wX11_254 dX11_isTerm_95) rfl (Nat.le_refl _) (Nat.le_of_ble_eq_true rfl) (fun _ => Nat.le_of_ble_eq_true rfl) H (fun w22 I21 H => ?_)
      refine r_istore_n dX11_isTerm_98 (by decide) rfl ?_
      refine r_aload_n dX11_isTerm_99 rfl ?_
      refine r_getR clX11 25 (by decide) s0_85 rfl rfl wX11_81 dX11_isTerm_100 ?_
      refine r_iconst dX11_isTerm_103 ?_
      refine r_iload_n dX11_isTerm_104 rfl ?_
      refine r_imul dX11_isTerm_105 ?_
      refine r_iload_n dX11_isTerm_106 rfl ?_
      refine r_iadd dX11_isTerm_107 ?_
      refine r_aload_n dX11_isTerm_108 rfl ?_
      refine r_getR clX11 25 (by decide) s0_85 rfl rfl wX11_81 dX11_isTerm_109 ?_
      refine r_iconst dX11_isTerm_112 ?_
      refine r_iload_n dX11_isTerm_113 rfl ?_
      refine r_imul dX11_isTerm_114 ?_
      refine r_iload_n dX11_isTerm_115 rfl ?_
      refine r_iadd dX11_isTerm_116 ?_
      have ob23 := H.1
      have H := H.2
      refine r_iald s0_114 (by decide) dX11_isTerm_117 ob23 ?_
      refine r_iload_n dX11_isTerm_118 rfl ?_
      refine r_iadd dX11_isTerm_119 ?_
      refine r_bipush (v := 31) dX11_isTerm_120 (by decide) ?_
      have ob24 := H.1
      have H := H.2
      refine r_iremp dX11_isTerm_122 ob24 (by decide) ?_
      refine r_iast s0_114 (by decide) dX11_isTerm_123 ob23 ⟨by omega, by omega⟩ ?_
      refine r_iconst dX11_isTerm_124 ?_
      exact r_zret dX11_isTerm_125 rfl (by decide) ⟨rfl, _, rfl, H⟩
    · have H := H.2 c18
      refine r_bipush (v := 10) dX11_isTerm_54 (by decide) ?_
      refine r_iload_n dX11_isTerm_56 rfl ?_
      refine r_imul dX11_isTerm_57 ?_
      refine r_aload_n dX11_isTerm_58 rfl ?_
      refine r_cI (as := [ax_r 85]) (how_V (ci := 11) jX11_here jIX11_here jVX11_here rfl s0_85 (by decide) rfl rfl wX11_244 dX11_isTerm_59) rfl (Nat.le_refl _) (Nat.le_of_ble_eq_true rfl) (fun _ => Nat.le_of_ble_eq_true rfl) H (fun w26 I25 H => ?_)
      refine r_iadd dX11_isTerm_62 ?_
      refine r_bipush (v := 48) dX11_isTerm_63 (by decide) ?_
      refine r_isub dX11_isTerm_65 ?_
      refine r_name (fun y1_66 e27 => ?_)
      have H := H y1_66 e27
      refine r_istore_n dX11_isTerm_66 (by decide) rfl ?_
      refine r_iload_n dX11_isTerm_67 rfl ?_
      refine r_bipush (v := 31) dX11_isTerm_68 (by decide) ?_
      have ob28 := H.1
      have H := H.2
      refine r_icmp_lt (tgt := 75) dX11_isTerm_70 (by decide) ob28 (by decide) (fun c29 => ?_) (fun c29 => ?_)
      · have H := H.1 c29
        refine r_aload_n dX11_isTerm_75 rfl ?_
        refine r_dup dX11_isTerm_76 (fun _ => rfl) ?_
        refine r_getI clX11 24 24 (by decide) s0_85 rfl rfl wX11_241 dX11_isTerm_77 ?_
        refine r_iconst dX11_isTerm_80 ?_
        refine r_iadd dX11_isTerm_81 ?_
        have ob30 := H.1
        have H := H.2
        refine r_putI clX11 24 24 (by decide) s0_85 rfl rfl rfl ob30 rfl rfl wX11_241 dX11_isTerm_82 ?_
        refine r_aload_n dX11_isTerm_85 rfl ?_
        refine r_bipush (v := 120) dX11_isTerm_86 (by decide) ?_
        refine r_cI (as := [ax_r 85, ax_i 120]) (how_V (ci := 11) jX11_often jIX11_often jVX11_often rfl s0_85 (by decide) rfl rfl wX11_254 dX11_isTerm_88) rfl (Nat.le_refl _) (Nat.le_of_ble_eq_true rfl) (fun _ => Nat.le_of_ble_eq_true rfl) H (fun w32 I31 H => ?_)
        refine r_istore_n dX11_isTerm_91 (by decide) rfl ?_
        refine r_aload_n dX11_isTerm_92 rfl ?_
        refine r_bipush (v := 121) dX11_isTerm_93 (by decide) ?_
        refine r_cI (as := [ax_r 85, ax_i 121]) (how_V (ci := 11) jX11_often jIX11_often jVX11_often rfl s0_85 (by decide) rfl rfl wX11_254 dX11_isTerm_95) rfl (Nat.le_refl _) (Nat.le_of_ble_eq_true rfl) (fun _ => Nat.le_of_ble_eq_true rfl) H (fun w34 I33 H => ?_)
        refine r_istore_n dX11_isTerm_98 (by decide) rfl ?_
        refine r_aload_n dX11_isTerm_99 rfl ?_
        refine r_getR clX11 25 (by decide) s0_85 rfl rfl wX11_81 dX11_isTerm_100 ?_
        refine r_iconst dX11_isTerm_103 ?_
        refine r_iload_n dX11_isTerm_104 rfl ?_
        refine r_imul dX11_isTerm_105 ?_
        refine r_iload_n dX11_isTerm_106 rfl ?_
        refine r_iadd dX11_isTerm_107 ?_
        refine r_aload_n dX11_isTerm_108 rfl ?_
        refine r_getR clX11 25 (by decide) s0_85 rfl rfl wX11_81 dX11_isTerm_109 ?_
        refine r_iconst dX11_isTerm_112 ?_
        refine r_iload_n dX11_isTerm_113 rfl ?_
        refine r_imul dX11_isTerm_114 ?_
        refine r_iload_n dX11_isTerm_115 rfl ?_
        refine r_iadd dX11_isTerm_116 ?_
        have ob35 := H.1
        have H := H.2
        refine r_iald s0_114 (by decide) dX11_isTerm_117 ob35 ?_
        refine r_iload_n dX11_isTerm_118 rfl ?_
        refine r_iadd dX11_isTerm_119 ?_
        refine r_bipush (v := 31) dX11_isTerm_120 (by decide) ?_
        have ob36 := H.1
        have H := H.2
        refine r_iremp dX11_isTerm_122 ob36 (by decide) ?_
        refine r_iast s0_114 (by decide) dX11_isTerm_123 ob35 ⟨by omega, by omega⟩ ?_
        refine r_iconst dX11_isTerm_124 ?_
        exact r_zret dX11_isTerm_125 rfl (by decide) ⟨rfl, _, rfl, H⟩
      · have H := H.2 c29
        refine r_iconst dX11_isTerm_73 ?_
        exact r_zret dX11_isTerm_74 rfl (by decide) ⟨rfl, _, rfl, H⟩
  · have H := H.2 c7
    refine r_iconst dX11_isTerm_17 ?_
    exact r_zret dX11_isTerm_18 rfl (by decide) ⟨rfl, _, rfl, H⟩

theorem vX11_table_0 {d : Nat} {Q : Int → ax_H → Prop} {x1 : Int} {I : ax_H} (r1 : ax_R x1) (H :
  cI (d + 2) kX11_in [ax_l x1, ax_l 0, ax_l 1] I (fun w2 I1 =>
  ax_R w2 ∧
  ((w2 ≠ 0 →
    RI (d + 3) kX11_table 14 [some (ax_r 85), some (ax_i x1), some (ax_i 0), none, none] I1 Q) ∧
  (w2 = 0 →
    Q (-1) I1)))) :
  RI (d + 3) kX11_table 0 [some (ax_r 85), some (ax_i x1), none, none, none] I Q := by
  show Rn _ _ _ _ _ _ _ _
  refine r_iload_n dX11_table_0 rfl ?_
  refine r_i2l dX11_table_1 r1 ?_
  refine r_lconst (v := 0) dX11_table_2 rfl ?_
  refine r_lconst (v := 1) dX11_table_3 rfl ?_
  refine r_cI (as := [ax_l x1, ax_l 0, ax_l 1]) (how_S jX11_in jSX11_in rfl wX11_99 dX11_table_4) rfl (Nat.le_refl _) (Nat.le_of_ble_eq_true rfl) (fun _ => Nat.le_of_ble_eq_true rfl) H (fun w2 I1 H => ?_)
  have ob3 := H.1
  have H := H.2
  refine r_if_ne (tgt := 12) dX11_table_7 (by decide) ob3 (fun c4 => ?_) (fun c4 => ?_)
  · have H := H.1 c4
    refine r_iconst dX11_table_12 ?_
    refine r_istore_n dX11_table_13 (by decide) rfl ?_
    exact H
  · have H := H.2 c4
    refine r_iconst dX11_table_10 ?_
    exact r_iret dX11_table_11 rfl ⟨rfl, _, rfl, H⟩

theorem vX11_table_14 {d : Nat} {Q : Int → ax_H → Prop} {x1 : Int} {x2 : Int} {I : ax_H} (r2 : ax_R x2) (H :
  (9 ≤ x2 →
    RI (d + 3) kX11_table 42 [some (ax_r 85), some (ax_i x1), some (ax_i 0), some (ax_i 1), none] (ax_st I 85 24 0) Q) ∧
  (¬ 9 ≤ x2 →
    (0 ≤ x2 ∧ x2 < 9) ∧
    (RI (d + 3) kX11_table 14 [some (ax_r 85), some (ax_i x1), some (ax_i (x2 + 1)), none, none] (ax_st I 114 x2 0) Q))) :
  RI (d + 3) kX11_table 14 [some (ax_r 85), some (ax_i x1), some (ax_i x2), none, none] I Q := by
  show Rn _ _ _ _ _ _ _ _
  refine r_iload_n dX11_table_14 rfl ?_
  refine r_bipush (v := 9) dX11_table_15 (by decide) ?_
  refine r_icmp_ge (tgt := 33) dX11_table_17 (by decide) r2 (by decide) (fun c1 => ?_) (fun c1 => ?_)
  · have H := H.1 c1
    refine r_aload_n dX11_table_33 rfl ?_
    refine r_iconst dX11_table_34 ?_
    refine r_putI clX11 24 24 (by decide) s0_85 rfl rfl rfl (by decide) rfl rfl wX11_241 dX11_table_35 ?_
    refine r_iconst dX11_table_38 ?_
    refine r_istore_n dX11_table_39 (by decide) rfl ?_
    refine r_iconst dX11_table_40 ?_
    refine r_istore_n dX11_table_41 (by decide) rfl ?_
    exact H
  · have H := H.2 c1
    refine r_aload_n dX11_table_20 rfl ?_
    refine r_getR clX11 25 (by decide) s0_85 rfl rfl wX11_81 dX11_table_21 ?_
    refine r_iload_n dX11_table_24 rfl ?_
    refine r_iconst dX11_table_25 ?_
    have ob2 := H.1
    have H := H.2
    refine r_iast s0_114 (by decide) dX11_table_26 ob2 (by decide) ?_
    refine r_iinc dX11_table_27 (by decide) rfl rfl ?_
    refine r_goto (tgt := 14) dX11_table_30 (by decide) ?_
    exact H

theorem vX11_table_42 {d : Nat} {Q : Int → ax_H → Prop} {x1 : Int} {x2 : Int} {x3 : Int} {I : ax_H} (r2 : ax_R x2) (r3 : ax_R x3) (H :
  (x3 = 0 →
    Q ((-100) - ((ax_st I 85 23 0) 85 24)) (ax_st I 85 23 0)) ∧
  (¬ x3 = 0 →
    (x2 = 0 →
      (x2 ≤ 0 →
        cI (d + 2) kX11_isTerm [ax_r 85] I (fun w7 I6 =>
        ax_R w7 ∧
        ((w7 = 0 →
          RI (d + 3) kX11_table 42 [some (ax_r 85), some (ax_i x1), some (ax_i (x2 + 1)), some (ax_i 0), none] I6 Q) ∧
        (¬ w7 = 0 →
          RI (d + 3) kX11_table 42 [some (ax_r 85), some (ax_i x1), some (ax_i (x2 + 1)), some (ax_i 1), none] I6 Q)))) ∧
      (¬ x2 ≤ 0 →
        cI (d + 2) kX11_here [ax_r 85] I (fun w11 I10 =>
        ax_R w11 ∧
        ((w11 ≠ 43 →
          ax_R ((I10 85 24) + 0) ∧
          (RI (d + 3) kX11_table 42 [some (ax_r 85), some (ax_i x1), some (ax_i (x2 + 1)), some (ax_i 0), none] (ax_st I10 85 24 ((I10 85 24) + 0)) Q)) ∧
        (w11 = 43 →
          ax_R ((I10 85 24) + 1) ∧
          (cI (d + 2) kX11_isTerm [ax_r 85] (ax_st I10 85 24 ((I10 85 24) + 1)) (fun w21 I20 =>
          ax_R w21 ∧
          ((w21 = 0 →
            RI (d + 3) kX11_table 42 [some (ax_r 85), some (ax_i x1), some (ax_i (x2 + 1)), some (ax_i 0), none] I20 Q) ∧
          (¬ w21 = 0 →
            RI (d + 3) kX11_table 42 [some (ax_r 85), some (ax_i x1), some (ax_i (x2 + 1)), some (ax_i 1), none] I20 Q))))))))) ∧
    (¬ x2 = 0 →
      ((I 85 23) ≤ (I 85 24) →
        RI (d + 3) kX11_table 141 [some (ax_r 85), some (ax_i x1), some (ax_i x2), none, some (ax_i 0)] (ax_st I 85 23 0) Q) ∧
      (¬ (I 85 23) ≤ (I 85 24) →
        (x2 ≤ 0 →
          cI (d + 2) kX11_isTerm [ax_r 85] I (fun w30 I29 =>
          ax_R w30 ∧
          ((w30 = 0 →
            RI (d + 3) kX11_table 42 [some (ax_r 85), some (ax_i x1), some (ax_i (x2 + 1)), some (ax_i 0), none] I29 Q) ∧
          (¬ w30 = 0 →
            RI (d + 3) kX11_table 42 [some (ax_r 85), some (ax_i x1), some (ax_i (x2 + 1)), some (ax_i 1), none] I29 Q)))) ∧
        (¬ x2 ≤ 0 →
          cI (d + 2) kX11_here [ax_r 85] I (fun w34 I33 =>
          ax_R w34 ∧
          ((w34 ≠ 43 →
            ax_R ((I33 85 24) + 0) ∧
            (RI (d + 3) kX11_table 42 [some (ax_r 85), some (ax_i x1), some (ax_i (x2 + 1)), some (ax_i 0), none] (ax_st I33 85 24 ((I33 85 24) + 0)) Q)) ∧
          (w34 = 43 →
            ax_R ((I33 85 24) + 1) ∧
            (cI (d + 2) kX11_isTerm [ax_r 85] (ax_st I33 85 24 ((I33 85 24) + 1)) (fun w44 I43 =>
            ax_R w44 ∧
            ((w44 = 0 →
              RI (d + 3) kX11_table 42 [some (ax_r 85), some (ax_i x1), some (ax_i (x2 + 1)), some (ax_i 0), none] I43 Q) ∧
            (¬ w44 = 0 →
              RI (d + 3) kX11_table 42 [some (ax_r 85), some (ax_i x1), some (ax_i (x2 + 1)), some (ax_i 1), none] I43 Q)))))))))))) :
  RI (d + 3) kX11_table 42 [some (ax_r 85), some (ax_i x1), some (ax_i x2), some (ax_i x3), none] I Q := by
  show Rn _ _ _ _ _ _ _ _
  refine r_iload_n dX11_table_42 rfl ?_
  refine r_if_eq (tgt := 121) dX11_table_43 (by decide) r3 (fun c1 => ?_) (fun c1 => ?_)
  · have H := H.1 c1
    refine r_aload_n dX11_table_121 rfl ?_
    refine r_iconst dX11_table_122 ?_
    refine r_putI clX11 23 23 (by decide) s0_85 rfl rfl rfl (by decide) rfl rfl wX11_237 dX11_table_123 ?_
    refine r_iload_n dX11_table_126 rfl ?_
    refine r_if_ne (tgt := 138) dX11_table_127 (by decide) r3 (fun c2 => absurd c1 c2) (fun c2 => ?_)
    refine r_bipush (v := (-100)) dX11_table_130 (by decide) ?_
    refine r_aload_n dX11_table_132 rfl ?_
    refine r_getI clX11 24 24 (by decide) s0_85 rfl rfl wX11_241 dX11_table_133 ?_
    refine r_isub dX11_table_136 ?_
    exact r_iret dX11_table_137 rfl ⟨rfl, _, rfl, H⟩
  · have H := H.2 c1
    refine r_iload_n dX11_table_46 rfl ?_
    refine r_if_eq (tgt := 61) dX11_table_47 (by decide) r2 (fun c3 => ?_) (fun c3 => ?_)
    · have H := H.1 c3
      refine r_iload_n dX11_table_61 rfl ?_
      refine r_if_le (tgt := 98) dX11_table_62 (by decide) r2 (fun c4 => ?_) (fun c4 => ?_)
      · have H := H.1 c4
        refine r_iload_n dX11_table_98 rfl ?_
        refine r_if_eq (tgt := 113) dX11_table_99 (by decide) r3 (fun c5 => absurd c5 c1) (fun c5 => ?_)
        refine r_aload_n dX11_table_102 rfl ?_
        refine r_cI (as := [ax_r 85]) (how_V (ci := 11) jX11_isTerm jIX11_isTerm jVX11_isTerm rfl s0_85 (by decide) rfl rfl wX11_256 dX11_table_103) rfl (Nat.le_refl _) (Nat.le_of_ble_eq_true rfl) (fun _ => Nat.le_of_ble_eq_true rfl) H (fun w7 I6 H => ?_)
        have ob8 := H.1
        have H := H.2
        refine r_if_eq (tgt := 113) dX11_table_106 (by decide) ob8 (fun c9 => ?_) (fun c9 => ?_)
        · have H := H.1 c9
          refine r_iconst dX11_table_113 ?_
          refine r_istore_n dX11_table_114 (by decide) rfl ?_
          refine r_iinc dX11_table_115 (by decide) rfl rfl ?_
          refine r_goto (tgt := 42) dX11_table_118 (by decide) ?_
          exact H
        · have H := H.2 c9
          refine r_iconst dX11_table_109 ?_
          refine r_goto (tgt := 114) dX11_table_110 (by decide) ?_
          refine r_istore_n dX11_table_114 (by decide) rfl ?_
          refine r_iinc dX11_table_115 (by decide) rfl rfl ?_
          refine r_goto (tgt := 42) dX11_table_118 (by decide) ?_
          exact H
      · have H := H.2 c4
        refine r_aload_n dX11_table_65 rfl ?_
        refine r_cI (as := [ax_r 85]) (how_V (ci := 11) jX11_here jIX11_here jVX11_here rfl s0_85 (by decide) rfl rfl wX11_244 dX11_table_66) rfl (Nat.le_refl _) (Nat.le_of_ble_eq_true rfl) (fun _ => Nat.le_of_ble_eq_true rfl) H (fun w11 I10 H => ?_)
        refine r_bipush (v := 43) dX11_table_69 (by decide) ?_
        have ob12 := H.1
        have H := H.2
        refine r_icmp_ne (tgt := 78) dX11_table_71 (by decide) ob12 (by decide) (fun c13 => ?_) (fun c13 => ?_)
        · have H := H.1 c13
          refine r_iconst dX11_table_78 ?_
          refine r_istore_n dX11_table_79 (by decide) rfl ?_
          refine r_aload_n dX11_table_80 rfl ?_
          refine r_dup dX11_table_81 (fun _ => rfl) ?_
          refine r_getI clX11 24 24 (by decide) s0_85 rfl rfl wX11_241 dX11_table_82 ?_
          refine r_iload_n dX11_table_85 rfl ?_
          refine r_if_eq (tgt := 93) dX11_table_86 (by decide) (by decide) (fun c14 => ?_) (fun c14 => absurd c14 (by decide))
          refine r_iconst dX11_table_93 ?_
          refine r_iadd dX11_table_94 ?_
          have ob15 := H.1
          have H := H.2
          refine r_putI clX11 24 24 (by decide) s0_85 rfl rfl rfl ob15 rfl rfl wX11_241 dX11_table_95 ?_
          refine r_iload_n dX11_table_98 rfl ?_
          refine r_if_eq (tgt := 113) dX11_table_99 (by decide) (by decide) (fun c16 => ?_) (fun c16 => absurd c16 (by decide))
          refine r_iconst dX11_table_113 ?_
          refine r_istore_n dX11_table_114 (by decide) rfl ?_
          refine r_iinc dX11_table_115 (by decide) rfl rfl ?_
          refine r_goto (tgt := 42) dX11_table_118 (by decide) ?_
          exact H
        · have H := H.2 c13
          refine r_iconst dX11_table_74 ?_
          refine r_goto (tgt := 79) dX11_table_75 (by decide) ?_
          refine r_istore_n dX11_table_79 (by decide) rfl ?_
          refine r_aload_n dX11_table_80 rfl ?_
          refine r_dup dX11_table_81 (fun _ => rfl) ?_
          refine r_getI clX11 24 24 (by decide) s0_85 rfl rfl wX11_241 dX11_table_82 ?_
          refine r_iload_n dX11_table_85 rfl ?_
          refine r_if_eq (tgt := 93) dX11_table_86 (by decide) (by decide) (fun c17 => absurd c17 (by decide)) (fun c17 => ?_)
          refine r_iconst dX11_table_89 ?_
          refine r_goto (tgt := 94) dX11_table_90 (by decide) ?_
          refine r_iadd dX11_table_94 ?_
          have ob18 := H.1
          have H := H.2
          refine r_putI clX11 24 24 (by decide) s0_85 rfl rfl rfl ob18 rfl rfl wX11_241 dX11_table_95 ?_
          refine r_iload_n dX11_table_98 rfl ?_
          refine r_if_eq (tgt := 113) dX11_table_99 (by decide) (by decide) (fun c19 => absurd c19 (by decide)) (fun c19 => ?_)
          refine r_aload_n dX11_table_102 rfl ?_
          refine r_cI (as := [ax_r 85]) (how_V (ci := 11) jX11_isTerm jIX11_isTerm jVX11_isTerm rfl s0_85 (by decide) rfl rfl wX11_256 dX11_table_103) rfl (Nat.le_refl _) (Nat.le_of_ble_eq_true rfl) (fun _ => Nat.le_of_ble_eq_true rfl) H (fun w21 I20 H => ?_)
          have ob22 := H.1
          have H := H.2
          refine r_if_eq (tgt := 113) dX11_table_106 (by decide) ob22 (fun c23 => ?_) (fun c23 => ?_)
          · have H := H.1 c23
            refine r_iconst dX11_table_113 ?_
            refine r_istore_n dX11_table_114 (by decide) rfl ?_
            refine r_iinc dX11_table_115 (by decide) rfl rfl ?_
            refine r_goto (tgt := 42) dX11_table_118 (by decide) ?_
            exact H
          · have H := H.2 c23
            refine r_iconst dX11_table_109 ?_
            refine r_goto (tgt := 114) dX11_table_110 (by decide) ?_
            refine r_istore_n dX11_table_114 (by decide) rfl ?_
            refine r_iinc dX11_table_115 (by decide) rfl rfl ?_
            refine r_goto (tgt := 42) dX11_table_118 (by decide) ?_
            exact H
    · have H := H.2 c3
      refine r_aload_n dX11_table_50 rfl ?_
      refine r_getI clX11 24 24 (by decide) s0_85 rfl rfl wX11_241 dX11_table_51 ?_
      refine r_aload_n dX11_table_54 rfl ?_
      refine r_getI clX11 23 23 (by decide) s0_85 rfl rfl wX11_237 dX11_table_55 ?_
      refine r_heapR (fun hI24 => ?_)
      refine r_icmp_ge (tgt := 121) dX11_table_58 (by decide) (hI24 _ _) (hI24 _ _) (fun c25 => ?_) (fun c25 => ?_)
      · have H := H.1 c25
        refine r_aload_n dX11_table_121 rfl ?_
        refine r_iconst dX11_table_122 ?_
        refine r_putI clX11 23 23 (by decide) s0_85 rfl rfl rfl (by decide) rfl rfl wX11_237 dX11_table_123 ?_
        refine r_iload_n dX11_table_126 rfl ?_
        refine r_if_ne (tgt := 138) dX11_table_127 (by decide) r3 (fun c26 => ?_) (fun c26 => absurd c26 c1)
        refine r_iconst dX11_table_138 ?_
        refine r_istore dX11_table_139 (by decide) rfl ?_
        refine r_drop (ls2 := [some (ax_r 85), some (ax_i x1), some (ax_i x2), none, some (ax_i 0)]) ?_ (ax_leS (ax_leS (ax_leS (ax_leN (ax_leS ax_leE)))))
        exact H
      · have H := H.2 c25
        refine r_iload_n dX11_table_61 rfl ?_
        refine r_if_le (tgt := 98) dX11_table_62 (by decide) r2 (fun c27 => ?_) (fun c27 => ?_)
        · have H := H.1 c27
          refine r_iload_n dX11_table_98 rfl ?_
          refine r_if_eq (tgt := 113) dX11_table_99 (by decide) r3 (fun c28 => absurd c28 c1) (fun c28 => ?_)
          refine r_aload_n dX11_table_102 rfl ?_
          refine r_cI (as := [ax_r 85]) (how_V (ci := 11) jX11_isTerm jIX11_isTerm jVX11_isTerm rfl s0_85 (by decide) rfl rfl wX11_256 dX11_table_103) rfl (Nat.le_refl _) (Nat.le_of_ble_eq_true rfl) (fun _ => Nat.le_of_ble_eq_true rfl) H (fun w30 I29 H => ?_)
          have ob31 := H.1
          have H := H.2
          refine r_if_eq (tgt := 113) dX11_table_106 (by decide) ob31 (fun c32 => ?_) (fun c32 => ?_)
          · have H := H.1 c32
            refine r_iconst dX11_table_113 ?_
            refine r_istore_n dX11_table_114 (by decide) rfl ?_
            refine r_iinc dX11_table_115 (by decide) rfl rfl ?_
            refine r_goto (tgt := 42) dX11_table_118 (by decide) ?_
            exact H
          · have H := H.2 c32
            refine r_iconst dX11_table_109 ?_
            refine r_goto (tgt := 114) dX11_table_110 (by decide) ?_
            refine r_istore_n dX11_table_114 (by decide) rfl ?_
            refine r_iinc dX11_table_115 (by decide) rfl rfl ?_
            refine r_goto (tgt := 42) dX11_table_118 (by decide) ?_
            exact H
        · have H := H.2 c27
          refine r_aload_n dX11_table_65 rfl ?_
          refine r_cI (as := [ax_r 85]) (how_V (ci := 11) jX11_here jIX11_here jVX11_here rfl s0_85 (by decide) rfl rfl wX11_244 dX11_table_66) rfl (Nat.le_refl _) (Nat.le_of_ble_eq_true rfl) (fun _ => Nat.le_of_ble_eq_true rfl) H (fun w34 I33 H => ?_)
          refine r_bipush (v := 43) dX11_table_69 (by decide) ?_
          have ob35 := H.1
          have H := H.2
          refine r_icmp_ne (tgt := 78) dX11_table_71 (by decide) ob35 (by decide) (fun c36 => ?_) (fun c36 => ?_)
          · have H := H.1 c36
            refine r_iconst dX11_table_78 ?_
            refine r_istore_n dX11_table_79 (by decide) rfl ?_
            refine r_aload_n dX11_table_80 rfl ?_
            refine r_dup dX11_table_81 (fun _ => rfl) ?_
            refine r_getI clX11 24 24 (by decide) s0_85 rfl rfl wX11_241 dX11_table_82 ?_
            refine r_iload_n dX11_table_85 rfl ?_
            refine r_if_eq (tgt := 93) dX11_table_86 (by decide) (by decide) (fun c37 => ?_) (fun c37 => absurd c37 (by decide))
            refine r_iconst dX11_table_93 ?_
            refine r_iadd dX11_table_94 ?_
            have ob38 := H.1
            have H := H.2
            refine r_putI clX11 24 24 (by decide) s0_85 rfl rfl rfl ob38 rfl rfl wX11_241 dX11_table_95 ?_
            refine r_iload_n dX11_table_98 rfl ?_
            refine r_if_eq (tgt := 113) dX11_table_99 (by decide) (by decide) (fun c39 => ?_) (fun c39 => absurd c39 (by decide))
            refine r_iconst dX11_table_113 ?_
            refine r_istore_n dX11_table_114 (by decide) rfl ?_
            refine r_iinc dX11_table_115 (by decide) rfl rfl ?_
            refine r_goto (tgt := 42) dX11_table_118 (by decide) ?_
            exact H
          · have H := H.2 c36
            refine r_iconst dX11_table_74 ?_
            refine r_goto (tgt := 79) dX11_table_75 (by decide) ?_
            refine r_istore_n dX11_table_79 (by decide) rfl ?_
            refine r_aload_n dX11_table_80 rfl ?_
            refine r_dup dX11_table_81 (fun _ => rfl) ?_
            refine r_getI clX11 24 24 (by decide) s0_85 rfl rfl wX11_241 dX11_table_82 ?_
            refine r_iload_n dX11_table_85 rfl ?_
            refine r_if_eq (tgt := 93) dX11_table_86 (by decide) (by decide) (fun c40 => absurd c40 (by decide)) (fun c40 => ?_)
            refine r_iconst dX11_table_89 ?_
            refine r_goto (tgt := 94) dX11_table_90 (by decide) ?_
            refine r_iadd dX11_table_94 ?_
            have ob41 := H.1
            have H := H.2
            refine r_putI clX11 24 24 (by decide) s0_85 rfl rfl rfl ob41 rfl rfl wX11_241 dX11_table_95 ?_
            refine r_iload_n dX11_table_98 rfl ?_
            refine r_if_eq (tgt := 113) dX11_table_99 (by decide) (by decide) (fun c42 => absurd c42 (by decide)) (fun c42 => ?_)
            refine r_aload_n dX11_table_102 rfl ?_
            refine r_cI (as := [ax_r 85]) (how_V (ci := 11) jX11_isTerm jIX11_isTerm jVX11_isTerm rfl s0_85 (by decide) rfl rfl wX11_256 dX11_table_103) rfl (Nat.le_refl _) (Nat.le_of_ble_eq_true rfl) (fun _ => Nat.le_of_ble_eq_true rfl) H (fun w44 I43 H => ?_)
            have ob45 := H.1
            have H := H.2
            refine r_if_eq (tgt := 113) dX11_table_106 (by decide) ob45 (fun c46 => ?_) (fun c46 => ?_)
            · have H := H.1 c46
              refine r_iconst dX11_table_113 ?_
              refine r_istore_n dX11_table_114 (by decide) rfl ?_
              refine r_iinc dX11_table_115 (by decide) rfl rfl ?_
              refine r_goto (tgt := 42) dX11_table_118 (by decide) ?_
              exact H
            · have H := H.2 c46
              refine r_iconst dX11_table_109 ?_
              refine r_goto (tgt := 114) dX11_table_110 (by decide) ?_
              refine r_istore_n dX11_table_114 (by decide) rfl ?_
              refine r_iinc dX11_table_115 (by decide) rfl rfl ?_
              refine r_goto (tgt := 42) dX11_table_118 (by decide) ?_
              exact H

theorem vX11_table_141 {d : Nat} {Q : Int → ax_H → Prop} {x1 : Int} {x2 : Int} {x4 : Int} {I : ax_H} (r4 : ax_R x4) (H :
  (9 ≤ x4 →
    Q x2 I) ∧
  (¬ 9 ≤ x4 →
    (0 ≤ x4 ∧ x4 < 9) ∧
    ((0 ≤ ((9 * x1) + x4) ∧ ((9 * x1) + x4) < 48) ∧
    (RI (d + 3) kX11_table 141 [some (ax_r 85), some (ax_i x1), some (ax_i x2), none, some (ax_i (x4 + 1))] (ax_st I 86 ((9 * x1) + x4) (I 114 x4)) Q)))) :
  RI (d + 3) kX11_table 141 [some (ax_r 85), some (ax_i x1), some (ax_i x2), none, some (ax_i x4)] I Q := by
  show Rn _ _ _ _ _ _ _ _
  refine r_iload dX11_table_141 rfl ?_
  refine r_bipush (v := 9) dX11_table_143 (by decide) ?_
  refine r_icmp_ge (tgt := 173) dX11_table_145 (by decide) r4 (by decide) (fun c1 => ?_) (fun c1 => ?_)
  · have H := H.1 c1
    refine r_iload_n dX11_table_173 rfl ?_
    exact r_iret dX11_table_174 rfl ⟨rfl, _, rfl, H⟩
  · have H := H.2 c1
    refine r_aload_n dX11_table_148 rfl ?_
    refine r_getR clX11 0 (by decide) s0_85 rfl rfl wX11_11 dX11_table_149 ?_
    refine r_bipush (v := 9) dX11_table_152 (by decide) ?_
    refine r_iload_n dX11_table_154 rfl ?_
    refine r_imul dX11_table_155 ?_
    refine r_iload dX11_table_156 rfl ?_
    refine r_iadd dX11_table_158 ?_
    refine r_aload_n dX11_table_159 rfl ?_
    refine r_getR clX11 25 (by decide) s0_85 rfl rfl wX11_81 dX11_table_160 ?_
    refine r_iload dX11_table_163 rfl ?_
    have ob2 := H.1
    have H := H.2
    refine r_iald s0_114 (by decide) dX11_table_165 ob2 ?_
    have ob3 := H.1
    have H := H.2
    refine r_heapR (fun hI4 => ?_)
    refine r_iast s0_86 (by decide) dX11_table_166 ob3 (hI4 _ _) ?_
    refine r_iinc dX11_table_167 (by decide) rfl rfl ?_
    refine r_goto (tgt := 141) dX11_table_170 (by decide) ?_
    exact H

theorem vX11_writes_0 {d : Nat} {Q : ax_H → Prop} {x1 : Int} {x2 : Int} {I : ax_H} (H :
  RV d kX11_writes 2 [some (ax_r 85), some (ax_i x1), some (ax_i x2), some (ax_i 0)] I Q) :
  RV d kX11_writes 0 [some (ax_r 85), some (ax_i x1), some (ax_i x2), none] I Q := by
  show Rn _ _ _ _ _ _ _ _
  refine r_iconst dX11_writes_0 ?_
  refine r_istore_n dX11_writes_1 (by decide) rfl ?_
  exact H

theorem vX11_writes_2 {d : Nat} {Q : ax_H → Prop} {x1 : Int} {x2 : Int} {x3 : Int} {I : ax_H} (r1 : ax_R x1) (r2 : ax_R x2) (r3 : ax_R x3) (H :
  (x2 ≤ x3 →
    Q I) ∧
  (¬ x2 ≤ x3 →
    (0 ≤ (I 85 27) ∧ (I 85 27) < 120) ∧
    (ax_R (((ax_st I 115 (I 85 27) x1) 85 27) + 1) ∧
    (RV d kX11_writes 2 [some (ax_r 85), some (ax_i x1), some (ax_i x2), some (ax_i (x3 + 1))] (ax_st (ax_st I 115 (I 85 27) x1) 85 27 (((ax_st I 115 (I 85 27) x1) 85 27) + 1)) Q)))) :
  RV d kX11_writes 2 [some (ax_r 85), some (ax_i x1), some (ax_i x2), some (ax_i x3)] I Q := by
  show Rn _ _ _ _ _ _ _ _
  refine r_iload_n dX11_writes_2 rfl ?_
  refine r_iload_n dX11_writes_3 rfl ?_
  refine r_icmp_ge (tgt := 33) dX11_writes_4 (by decide) r3 r2 (fun c1 => ?_) (fun c1 => ?_)
  · have H := H.1 c1
    exact r_vret dX11_writes_33 rfl ⟨rfl, rfl, H⟩
  · have H := H.2 c1
    refine r_aload_n dX11_writes_7 rfl ?_
    refine r_getR clX11 26 (by decide) s0_85 rfl rfl wX11_84 dX11_writes_8 ?_
    refine r_aload_n dX11_writes_11 rfl ?_
    refine r_getI clX11 27 27 (by decide) s0_85 rfl rfl wX11_260 dX11_writes_12 ?_
    refine r_iload_n dX11_writes_15 rfl ?_
    have ob2 := H.1
    have H := H.2
    refine r_iast s0_115 (by decide) dX11_writes_16 ob2 r1 ?_
    refine r_aload_n dX11_writes_17 rfl ?_
    refine r_dup dX11_writes_18 (fun _ => rfl) ?_
    refine r_getI clX11 27 27 (by decide) s0_85 rfl rfl wX11_260 dX11_writes_19 ?_
    refine r_iconst dX11_writes_22 ?_
    refine r_iadd dX11_writes_23 ?_
    have ob3 := H.1
    have H := H.2
    refine r_putI clX11 27 27 (by decide) s0_85 rfl rfl rfl ob3 rfl rfl wX11_260 dX11_writes_24 ?_
    refine r_iinc dX11_writes_27 (by decide) rfl rfl ?_
    refine r_goto (tgt := 2) dX11_writes_30 (by decide) ?_
    exact H

theorem vX11_write_0 {d : Nat} {Q : Int → ax_H → Prop} {x1 : Int} {I : ax_H} (r1 : ax_R x1) (H :
  cI d kX11_in [ax_l x1, ax_l 0, ax_l 1] I (fun w2 I1 =>
  ax_R w2 ∧
  ((w2 ≠ 0 →
    RI (d + 1) kX11_write 20 [some (ax_r 85), some (ax_i x1), some (ax_i 8), none] (ax_st I1 85 27 0) Q) ∧
  (w2 = 0 →
    Q (-1) I1)))) :
  RI (d + 1) kX11_write 0 [some (ax_r 85), some (ax_i x1), none, none] I Q := by
  show Rn _ _ _ _ _ _ _ _
  refine r_iload_n dX11_write_0 rfl ?_
  refine r_i2l dX11_write_1 r1 ?_
  refine r_lconst (v := 0) dX11_write_2 rfl ?_
  refine r_lconst (v := 1) dX11_write_3 rfl ?_
  refine r_cI (as := [ax_l x1, ax_l 0, ax_l 1]) (how_S jX11_in jSX11_in rfl wX11_99 dX11_write_4) rfl (Nat.le_refl _) (Nat.le_of_ble_eq_true rfl) (fun _ => Nat.le_of_ble_eq_true rfl) H (fun w2 I1 H => ?_)
  have ob3 := H.1
  have H := H.2
  refine r_if_ne (tgt := 12) dX11_write_7 (by decide) ob3 (fun c4 => ?_) (fun c4 => ?_)
  · have H := H.1 c4
    refine r_aload_n dX11_write_12 rfl ?_
    refine r_iconst dX11_write_13 ?_
    refine r_putI clX11 27 27 (by decide) s0_85 rfl rfl rfl (by decide) rfl rfl wX11_260 dX11_write_14 ?_
    refine r_bipush (v := 8) dX11_write_17 (by decide) ?_
    refine r_istore_n dX11_write_19 (by decide) rfl ?_
    exact H
  · have H := H.2 c4
    refine r_iconst dX11_write_10 ?_
    exact r_iret dX11_write_11 rfl ⟨rfl, _, rfl, H⟩

theorem vX11_write_20 {d : Nat} {Q : Int → ax_H → Prop} {x1 : Int} {x2 : Int} {I : ax_H} (r2 : ax_R x2) (H :
  (x2 < 0 →
    Q (I 85 27) I) ∧
  (¬ x2 < 0 →
    (0 ≤ ((9 * x1) + x2) ∧ ((9 * x1) + x2) < 48) ∧
    (((I 86 ((9 * x1) + x2)) ≤ 0 →
      RI (d + 1) kX11_write 20 [some (ax_r 85), some (ax_i x1), some (ax_i (x2 + (-1))), none] I Q) ∧
    (¬ (I 86 ((9 * x1) + x2)) ≤ 0 →
      ((I 85 27) ≤ 0 →
        cV d kX11_writes [ax_r 85, ax_i 43, ax_i 0] I (fun I6 =>
        (0 ≤ (I 86 ((9 * x1) + x2)) ∧ (I 86 ((9 * x1) + x2)) < 2147483648) ∧
        (((I 86 ((9 * x1) + x2)) ≤ 9 →
          cV d kX11_writes [ax_r 85, ax_i (48 + ((I 86 ((9 * x1) + x2)) / 10)), ax_i 0] I6 (fun I9 =>
          cV d kX11_writes [ax_r 85, ax_i (48 + ((I 86 ((9 * x1) + x2)) % 10)), ax_i 1] I9 (fun I10 =>
          (0 ≤ x2 ∧ x2 < 2147483648) ∧
          (cV d kX11_writes [ax_r 85, ax_i 120, ax_i (x2 / 3)] I10 (fun I12 =>
          cV d kX11_writes [ax_r 85, ax_i 121, ax_i (x2 % 3)] I12 (fun I13 =>
          RI (d + 1) kX11_write 20 [some (ax_r 85), some (ax_i x1), some (ax_i (x2 + (-1))), none] I13 Q)))))) ∧
        (¬ (I 86 ((9 * x1) + x2)) ≤ 9 →
          cV d kX11_writes [ax_r 85, ax_i (48 + ((I 86 ((9 * x1) + x2)) / 10)), ax_i 1] I6 (fun I14 =>
          cV d kX11_writes [ax_r 85, ax_i (48 + ((I 86 ((9 * x1) + x2)) % 10)), ax_i 1] I14 (fun I15 =>
          (0 ≤ x2 ∧ x2 < 2147483648) ∧
          (cV d kX11_writes [ax_r 85, ax_i 120, ax_i (x2 / 3)] I15 (fun I17 =>
          cV d kX11_writes [ax_r 85, ax_i 121, ax_i (x2 % 3)] I17 (fun I18 =>
          RI (d + 1) kX11_write 20 [some (ax_r 85), some (ax_i x1), some (ax_i (x2 + (-1))), none] I18 Q))))))))) ∧
      (¬ (I 85 27) ≤ 0 →
        cV d kX11_writes [ax_r 85, ax_i 43, ax_i 1] I (fun I19 =>
        (0 ≤ (I 86 ((9 * x1) + x2)) ∧ (I 86 ((9 * x1) + x2)) < 2147483648) ∧
        (((I 86 ((9 * x1) + x2)) ≤ 9 →
          cV d kX11_writes [ax_r 85, ax_i (48 + ((I 86 ((9 * x1) + x2)) / 10)), ax_i 0] I19 (fun I22 =>
          cV d kX11_writes [ax_r 85, ax_i (48 + ((I 86 ((9 * x1) + x2)) % 10)), ax_i 1] I22 (fun I23 =>
          (0 ≤ x2 ∧ x2 < 2147483648) ∧
          (cV d kX11_writes [ax_r 85, ax_i 120, ax_i (x2 / 3)] I23 (fun I25 =>
          cV d kX11_writes [ax_r 85, ax_i 121, ax_i (x2 % 3)] I25 (fun I26 =>
          RI (d + 1) kX11_write 20 [some (ax_r 85), some (ax_i x1), some (ax_i (x2 + (-1))), none] I26 Q)))))) ∧
        (¬ (I 86 ((9 * x1) + x2)) ≤ 9 →
          cV d kX11_writes [ax_r 85, ax_i (48 + ((I 86 ((9 * x1) + x2)) / 10)), ax_i 1] I19 (fun I27 =>
          cV d kX11_writes [ax_r 85, ax_i (48 + ((I 86 ((9 * x1) + x2)) % 10)), ax_i 1] I27 (fun I28 =>
          (0 ≤ x2 ∧ x2 < 2147483648) ∧
          (cV d kX11_writes [ax_r 85, ax_i 120, ax_i (x2 / 3)] I28 (fun I30 =>
          cV d kX11_writes [ax_r 85, ax_i 121, ax_i (x2 % 3)] I30 (fun I31 =>
          RI (d + 1) kX11_write 20 [some (ax_r 85), some (ax_i x1), some (ax_i (x2 + (-1))), none] I31 Q))))))))))))) :
  RI (d + 1) kX11_write 20 [some (ax_r 85), some (ax_i x1), some (ax_i x2), none] I Q := by
  show Rn _ _ _ _ _ _ _ _
  refine r_iload_n dX11_write_20 rfl ?_
  refine r_if_lt (tgt := 116) dX11_write_21 (by decide) r2 (fun c1 => ?_) (fun c1 => ?_)
  · have H := H.1 c1
    refine r_aload_n dX11_write_116 rfl ?_
    refine r_getI clX11 27 27 (by decide) s0_85 rfl rfl wX11_260 dX11_write_117 ?_
    exact r_iret dX11_write_120 rfl ⟨rfl, _, rfl, H⟩
  · have H := H.2 c1
    refine r_aload_n dX11_write_24 rfl ?_
    refine r_getR clX11 0 (by decide) s0_85 rfl rfl wX11_11 dX11_write_25 ?_
    refine r_bipush (v := 9) dX11_write_28 (by decide) ?_
    refine r_iload_n dX11_write_30 rfl ?_
    refine r_imul dX11_write_31 ?_
    refine r_iload_n dX11_write_32 rfl ?_
    refine r_iadd dX11_write_33 ?_
    have ob2 := H.1
    have H := H.2
    refine r_iald s0_86 (by decide) dX11_write_34 ob2 ?_
    refine r_istore_n dX11_write_35 (by decide) rfl ?_
    refine r_iload_n dX11_write_36 rfl ?_
    refine r_heapR (fun hI3 => ?_)
    refine r_if_le (tgt := 110) dX11_write_37 (by decide) (hI3 _ _) (fun c4 => ?_) (fun c4 => ?_)
    · have H := H.1 c4
      refine r_iinc dX11_write_110 (by decide) rfl rfl ?_
      refine r_goto (tgt := 20) dX11_write_113 (by decide) ?_
      refine r_drop (ls2 := [some (ax_r 85), some (ax_i x1), some (ax_i (x2 + (-1))), none]) ?_ (ax_leS (ax_leS (ax_leS (ax_leN ax_leE))))
      exact H
    · have H := H.2 c4
      refine r_aload_n dX11_write_40 rfl ?_
      refine r_bipush (v := 43) dX11_write_41 (by decide) ?_
      refine r_aload_n dX11_write_43 rfl ?_
      refine r_getI clX11 27 27 (by decide) s0_85 rfl rfl wX11_260 dX11_write_44 ?_
      refine r_if_le (tgt := 54) dX11_write_47 (by decide) (hI3 _ _) (fun c5 => ?_) (fun c5 => ?_)
      · have H := H.1 c5
        refine r_iconst dX11_write_54 ?_
        refine r_cV (as := [ax_r 85, ax_i 43, ax_i 0]) (how_V (ci := 11) jX11_writes jIX11_writes jVX11_writes rfl s0_85 (by decide) rfl rfl wX11_263 dX11_write_55) rfl (Nat.le_refl _) (Nat.le_of_ble_eq_true rfl) (fun _ => Nat.le_of_ble_eq_true rfl) H (fun I6 H => ?_)
        refine r_aload_n dX11_write_58 rfl ?_
        refine r_bipush (v := 48) dX11_write_59 (by decide) ?_
        refine r_iload_n dX11_write_61 rfl ?_
        refine r_bipush (v := 10) dX11_write_62 (by decide) ?_
        have ob7 := H.1
        have H := H.2
        refine r_idivp dX11_write_64 ob7 (by decide) ?_
        refine r_iadd dX11_write_65 ?_
        refine r_iload_n dX11_write_66 rfl ?_
        refine r_bipush (v := 9) dX11_write_67 (by decide) ?_
        refine r_icmp_le (tgt := 76) dX11_write_69 (by decide) (hI3 _ _) (by decide) (fun c8 => ?_) (fun c8 => ?_)
        · have H := H.1 c8
          refine r_iconst dX11_write_76 ?_
          refine r_cV (as := [ax_r 85, ax_i (48 + ((I 86 ((9 * x1) + x2)) / 10)), ax_i 0]) (how_V (ci := 11) jX11_writes jIX11_writes jVX11_writes rfl s0_85 (by decide) rfl rfl wX11_263 dX11_write_77) rfl (Nat.le_refl _) (Nat.le_of_ble_eq_true rfl) (fun _ => Nat.le_of_ble_eq_true rfl) H (fun I9 H => ?_)
          refine r_aload_n dX11_write_80 rfl ?_
          refine r_bipush (v := 48) dX11_write_81 (by decide) ?_
          refine r_iload_n dX11_write_83 rfl ?_
          refine r_bipush (v := 10) dX11_write_84 (by decide) ?_
          refine r_iremp dX11_write_86 ob7 (by decide) ?_
          refine r_iadd dX11_write_87 ?_
          refine r_iconst dX11_write_88 ?_
          refine r_cV (as := [ax_r 85, ax_i (48 + ((I 86 ((9 * x1) + x2)) % 10)), ax_i 1]) (how_V (ci := 11) jX11_writes jIX11_writes jVX11_writes rfl s0_85 (by decide) rfl rfl wX11_263 dX11_write_89) rfl (Nat.le_refl _) (Nat.le_of_ble_eq_true rfl) (fun _ => Nat.le_of_ble_eq_true rfl) H (fun I10 H => ?_)
          refine r_aload_n dX11_write_92 rfl ?_
          refine r_bipush (v := 120) dX11_write_93 (by decide) ?_
          refine r_iload_n dX11_write_95 rfl ?_
          refine r_iconst dX11_write_96 ?_
          have ob11 := H.1
          have H := H.2
          refine r_idivp dX11_write_97 ob11 (by decide) ?_
          refine r_cV (as := [ax_r 85, ax_i 120, ax_i (x2 / 3)]) (how_V (ci := 11) jX11_writes jIX11_writes jVX11_writes rfl s0_85 (by decide) rfl rfl wX11_263 dX11_write_98) rfl (Nat.le_refl _) (Nat.le_of_ble_eq_true rfl) (fun _ => Nat.le_of_ble_eq_true rfl) H (fun I12 H => ?_)
          refine r_aload_n dX11_write_101 rfl ?_
          refine r_bipush (v := 121) dX11_write_102 (by decide) ?_
          refine r_iload_n dX11_write_104 rfl ?_
          refine r_iconst dX11_write_105 ?_
          refine r_iremp dX11_write_106 ob11 (by decide) ?_
          refine r_cV (as := [ax_r 85, ax_i 121, ax_i (x2 % 3)]) (how_V (ci := 11) jX11_writes jIX11_writes jVX11_writes rfl s0_85 (by decide) rfl rfl wX11_263 dX11_write_107) rfl (Nat.le_refl _) (Nat.le_of_ble_eq_true rfl) (fun _ => Nat.le_of_ble_eq_true rfl) H (fun I13 H => ?_)
          refine r_iinc dX11_write_110 (by decide) rfl rfl ?_
          refine r_goto (tgt := 20) dX11_write_113 (by decide) ?_
          refine r_drop (ls2 := [some (ax_r 85), some (ax_i x1), some (ax_i (x2 + (-1))), none]) ?_ (ax_leS (ax_leS (ax_leS (ax_leN ax_leE))))
          exact H
        · have H := H.2 c8
          refine r_iconst dX11_write_72 ?_
          refine r_goto (tgt := 77) dX11_write_73 (by decide) ?_
          refine r_cV (as := [ax_r 85, ax_i (48 + ((I 86 ((9 * x1) + x2)) / 10)), ax_i 1]) (how_V (ci := 11) jX11_writes jIX11_writes jVX11_writes rfl s0_85 (by decide) rfl rfl wX11_263 dX11_write_77) rfl (Nat.le_refl _) (Nat.le_of_ble_eq_true rfl) (fun _ => Nat.le_of_ble_eq_true rfl) H (fun I14 H => ?_)
          refine r_aload_n dX11_write_80 rfl ?_
          refine r_bipush (v := 48) dX11_write_81 (by decide) ?_
          refine r_iload_n dX11_write_83 rfl ?_
          refine r_bipush (v := 10) dX11_write_84 (by decide) ?_
          refine r_iremp dX11_write_86 ob7 (by decide) ?_
          refine r_iadd dX11_write_87 ?_
          refine r_iconst dX11_write_88 ?_
          refine r_cV (as := [ax_r 85, ax_i (48 + ((I 86 ((9 * x1) + x2)) % 10)), ax_i 1]) (how_V (ci := 11) jX11_writes jIX11_writes jVX11_writes rfl s0_85 (by decide) rfl rfl wX11_263 dX11_write_89) rfl (Nat.le_refl _) (Nat.le_of_ble_eq_true rfl) (fun _ => Nat.le_of_ble_eq_true rfl) H (fun I15 H => ?_)
          refine r_aload_n dX11_write_92 rfl ?_
          refine r_bipush (v := 120) dX11_write_93 (by decide) ?_
          refine r_iload_n dX11_write_95 rfl ?_
          refine r_iconst dX11_write_96 ?_
          have ob16 := H.1
          have H := H.2
          refine r_idivp dX11_write_97 ob16 (by decide) ?_
          refine r_cV (as := [ax_r 85, ax_i 120, ax_i (x2 / 3)]) (how_V (ci := 11) jX11_writes jIX11_writes jVX11_writes rfl s0_85 (by decide) rfl rfl wX11_263 dX11_write_98) rfl (Nat.le_refl _) (Nat.le_of_ble_eq_true rfl) (fun _ => Nat.le_of_ble_eq_true rfl) H (fun I17 H => ?_)
          refine r_aload_n dX11_write_101 rfl ?_
          refine r_bipush (v := 121) dX11_write_102 (by decide) ?_
          refine r_iload_n dX11_write_104 rfl ?_
          refine r_iconst dX11_write_105 ?_
          refine r_iremp dX11_write_106 ob16 (by decide) ?_
          refine r_cV (as := [ax_r 85, ax_i 121, ax_i (x2 % 3)]) (how_V (ci := 11) jX11_writes jIX11_writes jVX11_writes rfl s0_85 (by decide) rfl rfl wX11_263 dX11_write_107) rfl (Nat.le_refl _) (Nat.le_of_ble_eq_true rfl) (fun _ => Nat.le_of_ble_eq_true rfl) H (fun I18 H => ?_)
          refine r_iinc dX11_write_110 (by decide) rfl rfl ?_
          refine r_goto (tgt := 20) dX11_write_113 (by decide) ?_
          refine r_drop (ls2 := [some (ax_r 85), some (ax_i x1), some (ax_i (x2 + (-1))), none]) ?_ (ax_leS (ax_leS (ax_leS (ax_leN ax_leE))))
          exact H
      · have H := H.2 c5
        refine r_iconst dX11_write_50 ?_
        refine r_goto (tgt := 55) dX11_write_51 (by decide) ?_
        refine r_cV (as := [ax_r 85, ax_i 43, ax_i 1]) (how_V (ci := 11) jX11_writes jIX11_writes jVX11_writes rfl s0_85 (by decide) rfl rfl wX11_263 dX11_write_55) rfl (Nat.le_refl _) (Nat.le_of_ble_eq_true rfl) (fun _ => Nat.le_of_ble_eq_true rfl) H (fun I19 H => ?_)
        refine r_aload_n dX11_write_58 rfl ?_
        refine r_bipush (v := 48) dX11_write_59 (by decide) ?_
        refine r_iload_n dX11_write_61 rfl ?_
        refine r_bipush (v := 10) dX11_write_62 (by decide) ?_
        have ob20 := H.1
        have H := H.2
        refine r_idivp dX11_write_64 ob20 (by decide) ?_
        refine r_iadd dX11_write_65 ?_
        refine r_iload_n dX11_write_66 rfl ?_
        refine r_bipush (v := 9) dX11_write_67 (by decide) ?_
        refine r_icmp_le (tgt := 76) dX11_write_69 (by decide) (hI3 _ _) (by decide) (fun c21 => ?_) (fun c21 => ?_)
        · have H := H.1 c21
          refine r_iconst dX11_write_76 ?_
          refine r_cV (as := [ax_r 85, ax_i (48 + ((I 86 ((9 * x1) + x2)) / 10)), ax_i 0]) (how_V (ci := 11) jX11_writes jIX11_writes jVX11_writes rfl s0_85 (by decide) rfl rfl wX11_263 dX11_write_77) rfl (Nat.le_refl _) (Nat.le_of_ble_eq_true rfl) (fun _ => Nat.le_of_ble_eq_true rfl) H (fun I22 H => ?_)
          refine r_aload_n dX11_write_80 rfl ?_
          refine r_bipush (v := 48) dX11_write_81 (by decide) ?_
          refine r_iload_n dX11_write_83 rfl ?_
          refine r_bipush (v := 10) dX11_write_84 (by decide) ?_
          refine r_iremp dX11_write_86 ob20 (by decide) ?_
          refine r_iadd dX11_write_87 ?_
          refine r_iconst dX11_write_88 ?_
          refine r_cV (as := [ax_r 85, ax_i (48 + ((I 86 ((9 * x1) + x2)) % 10)), ax_i 1]) (how_V (ci := 11) jX11_writes jIX11_writes jVX11_writes rfl s0_85 (by decide) rfl rfl wX11_263 dX11_write_89) rfl (Nat.le_refl _) (Nat.le_of_ble_eq_true rfl) (fun _ => Nat.le_of_ble_eq_true rfl) H (fun I23 H => ?_)
          refine r_aload_n dX11_write_92 rfl ?_
          refine r_bipush (v := 120) dX11_write_93 (by decide) ?_
          refine r_iload_n dX11_write_95 rfl ?_
          refine r_iconst dX11_write_96 ?_
          have ob24 := H.1
          have H := H.2
          refine r_idivp dX11_write_97 ob24 (by decide) ?_
          refine r_cV (as := [ax_r 85, ax_i 120, ax_i (x2 / 3)]) (how_V (ci := 11) jX11_writes jIX11_writes jVX11_writes rfl s0_85 (by decide) rfl rfl wX11_263 dX11_write_98) rfl (Nat.le_refl _) (Nat.le_of_ble_eq_true rfl) (fun _ => Nat.le_of_ble_eq_true rfl) H (fun I25 H => ?_)
          refine r_aload_n dX11_write_101 rfl ?_
          refine r_bipush (v := 121) dX11_write_102 (by decide) ?_
          refine r_iload_n dX11_write_104 rfl ?_
          refine r_iconst dX11_write_105 ?_
          refine r_iremp dX11_write_106 ob24 (by decide) ?_
          refine r_cV (as := [ax_r 85, ax_i 121, ax_i (x2 % 3)]) (how_V (ci := 11) jX11_writes jIX11_writes jVX11_writes rfl s0_85 (by decide) rfl rfl wX11_263 dX11_write_107) rfl (Nat.le_refl _) (Nat.le_of_ble_eq_true rfl) (fun _ => Nat.le_of_ble_eq_true rfl) H (fun I26 H => ?_)
          refine r_iinc dX11_write_110 (by decide) rfl rfl ?_
          refine r_goto (tgt := 20) dX11_write_113 (by decide) ?_
          refine r_drop (ls2 := [some (ax_r 85), some (ax_i x1), some (ax_i (x2 + (-1))), none]) ?_ (ax_leS (ax_leS (ax_leS (ax_leN ax_leE))))
          exact H
        · have H := H.2 c21
          refine r_iconst dX11_write_72 ?_
          refine r_goto (tgt := 77) dX11_write_73 (by decide) ?_
          refine r_cV (as := [ax_r 85, ax_i (48 + ((I 86 ((9 * x1) + x2)) / 10)), ax_i 1]) (how_V (ci := 11) jX11_writes jIX11_writes jVX11_writes rfl s0_85 (by decide) rfl rfl wX11_263 dX11_write_77) rfl (Nat.le_refl _) (Nat.le_of_ble_eq_true rfl) (fun _ => Nat.le_of_ble_eq_true rfl) H (fun I27 H => ?_)
          refine r_aload_n dX11_write_80 rfl ?_
          refine r_bipush (v := 48) dX11_write_81 (by decide) ?_
          refine r_iload_n dX11_write_83 rfl ?_
          refine r_bipush (v := 10) dX11_write_84 (by decide) ?_
          refine r_iremp dX11_write_86 ob20 (by decide) ?_
          refine r_iadd dX11_write_87 ?_
          refine r_iconst dX11_write_88 ?_
          refine r_cV (as := [ax_r 85, ax_i (48 + ((I 86 ((9 * x1) + x2)) % 10)), ax_i 1]) (how_V (ci := 11) jX11_writes jIX11_writes jVX11_writes rfl s0_85 (by decide) rfl rfl wX11_263 dX11_write_89) rfl (Nat.le_refl _) (Nat.le_of_ble_eq_true rfl) (fun _ => Nat.le_of_ble_eq_true rfl) H (fun I28 H => ?_)
          refine r_aload_n dX11_write_92 rfl ?_
          refine r_bipush (v := 120) dX11_write_93 (by decide) ?_
          refine r_iload_n dX11_write_95 rfl ?_
          refine r_iconst dX11_write_96 ?_
          have ob29 := H.1
          have H := H.2
          refine r_idivp dX11_write_97 ob29 (by decide) ?_
          refine r_cV (as := [ax_r 85, ax_i 120, ax_i (x2 / 3)]) (how_V (ci := 11) jX11_writes jIX11_writes jVX11_writes rfl s0_85 (by decide) rfl rfl wX11_263 dX11_write_98) rfl (Nat.le_refl _) (Nat.le_of_ble_eq_true rfl) (fun _ => Nat.le_of_ble_eq_true rfl) H (fun I30 H => ?_)
          refine r_aload_n dX11_write_101 rfl ?_
          refine r_bipush (v := 121) dX11_write_102 (by decide) ?_
          refine r_iload_n dX11_write_104 rfl ?_
          refine r_iconst dX11_write_105 ?_
          refine r_iremp dX11_write_106 ob29 (by decide) ?_
          refine r_cV (as := [ax_r 85, ax_i 121, ax_i (x2 % 3)]) (how_V (ci := 11) jX11_writes jIX11_writes jVX11_writes rfl s0_85 (by decide) rfl rfl wX11_263 dX11_write_107) rfl (Nat.le_refl _) (Nat.le_of_ble_eq_true rfl) (fun _ => Nat.le_of_ble_eq_true rfl) H (fun I31 H => ?_)
          refine r_iinc dX11_write_110 (by decide) rfl rfl ?_
          refine r_goto (tgt := 20) dX11_write_113 (by decide) ?_
          refine r_drop (ls2 := [some (ax_r 85), some (ax_i x1), some (ax_i (x2 + (-1))), none]) ?_ (ax_leS (ax_leS (ax_leS (ax_leN ax_leE))))
          exact H

theorem vX11_paper_0 {d : Nat} {Q : Int → ax_H → Prop} {x1 : Int} {I : ax_H} (r1 : ax_R x1) (H :
  ax_R ((I 85 27) - 1) ∧
  (cI d kX11_in [ax_l x1, ax_l 0, ax_l ((I 85 27) - 1)] I (fun w3 I2 =>
  ax_R w3 ∧
  ((w3 = 0 →
    Q (-1) I2) ∧
  (¬ w3 = 0 →
    (0 ≤ x1 ∧ x1 < 120) ∧
    (Q (I2 115 x1) I2)))))) :
  RI (d + 1) kX11_paper 0 [some (ax_r 85), some (ax_i x1)] I Q := by
  show Rn _ _ _ _ _ _ _ _
  refine r_iload_n dX11_paper_0 rfl ?_
  refine r_i2l dX11_paper_1 r1 ?_
  refine r_lconst (v := 0) dX11_paper_2 rfl ?_
  refine r_aload_n dX11_paper_3 rfl ?_
  refine r_getI clX11 27 27 (by decide) s0_85 rfl rfl wX11_260 dX11_paper_4 ?_
  refine r_iconst dX11_paper_7 ?_
  refine r_isub dX11_paper_8 ?_
  have ob1 := H.1
  have H := H.2
  refine r_i2l dX11_paper_9 ob1 ?_
  refine r_cI (as := [ax_l x1, ax_l 0, ax_l ((I 85 27) - 1)]) (how_S jX11_in jSX11_in rfl wX11_99 dX11_paper_10) rfl (Nat.le_refl _) (Nat.le_of_ble_eq_true rfl) (fun _ => Nat.le_of_ble_eq_true rfl) H (fun w3 I2 H => ?_)
  have ob4 := H.1
  have H := H.2
  refine r_if_eq (tgt := 25) dX11_paper_13 (by decide) ob4 (fun c5 => ?_) (fun c5 => ?_)
  · have H := H.1 c5
    refine r_iconst dX11_paper_25 ?_
    exact r_iret dX11_paper_26 rfl ⟨rfl, _, rfl, H⟩
  · have H := H.2 c5
    refine r_aload_n dX11_paper_16 rfl ?_
    refine r_getR clX11 26 (by decide) s0_85 rfl rfl wX11_84 dX11_paper_17 ?_
    refine r_iload_n dX11_paper_20 rfl ?_
    have ob6 := H.1
    have H := H.2
    refine r_iald s0_115 (by decide) dX11_paper_21 ob6 ?_
    refine r_goto (tgt := 26) dX11_paper_22 (by decide) ?_
    exact r_iret dX11_paper_26 rfl ⟨rfl, _, rfl, H⟩

theorem vX11_isList_0 {d : Nat} {Q : Int → ax_H → Prop} {x0 : Int} {I : ax_H} (r0 : ax_R x0) (H :
  cI d kX11_in [ax_l x0, ax_l 0, ax_l 3] I (fun w2 I1 =>
  (w2 = 0 ∨ w2 = 1) ∧
  (Q w2 I1))) :
  RI (d + 1) kX11_isList 0 [some (ax_i x0)] I Q := by
  show Rn _ _ _ _ _ _ _ _
  refine r_iload_n dX11_isList_0 rfl ?_
  refine r_i2l dX11_isList_1 r0 ?_
  refine r_lconst (v := 0) dX11_isList_2 rfl ?_
  refine r_ldc2 (v := 3) dX11_isList_3 wX11_212 ?_
  refine r_cI (as := [ax_l x0, ax_l 0, ax_l 3]) (how_S jX11_in jSX11_in rfl wX11_99 dX11_isList_6) rfl (Nat.le_refl _) (Nat.le_of_ble_eq_true rfl) (fun _ => Nat.le_of_ble_eq_true rfl) H (fun w2 I1 H => ?_)
  have ob3 := H.1
  have H := H.2
  exact r_zret dX11_isList_9 rfl ob3 ⟨rfl, _, rfl, H⟩

theorem vX11_judge_0 {d : Nat} {Q : Int → ax_H → Prop} {x1 : Int} {x2 : Int} {x3 : Int} {I : ax_H} (H :
  cI (d + 5) kX11_isList [ax_i x1] I (fun w2 I1 =>
  ax_R w2 ∧
  ((w2 = 0 →
    Q (-1) I1) ∧
  (¬ w2 = 0 →
    cI (d + 5) kX11_isSpot [ax_i x2, ax_i x3] I1 (fun w6 I5 =>
    ax_R w6 ∧
    ((w6 ≠ 0 →
      (0 ≤ x1 ∧ x1 < 4) ∧
      ((0 ≤ (I5 116 x1) →
        ∀ y4_35, y4_35 = ((32 * x2) + x3) →
        (RI (d + 6) kX11_judge 40 [some (ax_r 85), some (ax_i x1), none, none, some (ax_i y4_35), some (ax_i 0), none] I5 Q)) ∧
      (¬ 0 ≤ (I5 116 x1) →
        Q (-11) I5))) ∧
    (w6 = 0 →
      Q (-1) I5))))))) :
  RI (d + 6) kX11_judge 0 [some (ax_r 85), some (ax_i x1), some (ax_i x2), some (ax_i x3), none, none, none] I Q := by
  show Rn _ _ _ _ _ _ _ _
  refine r_iload_n dX11_judge_0 rfl ?_
  refine r_cI (as := [ax_i x1]) (how_S jX11_isList jSX11_isList rfl wX11_267 dX11_judge_1) rfl (Nat.le_refl _) (Nat.le_of_ble_eq_true rfl) (fun _ => Nat.le_of_ble_eq_true rfl) H (fun w2 I1 H => ?_)
  have ob3 := H.1
  have H := H.2
  refine r_if_eq (tgt := 15) dX11_judge_4 (by decide) ob3 (fun c4 => ?_) (fun c4 => ?_)
  · have H := H.1 c4
    refine r_iconst dX11_judge_15 ?_
    exact r_iret dX11_judge_16 rfl ⟨rfl, _, rfl, H⟩
  · have H := H.2 c4
    refine r_iload_n dX11_judge_7 rfl ?_
    refine r_iload_n dX11_judge_8 rfl ?_
    refine r_cI (as := [ax_i x2, ax_i x3]) (how_S jX11_isSpot jSX11_isSpot rfl wX11_123 dX11_judge_9) rfl (Nat.le_refl _) (Nat.le_of_ble_eq_true rfl) (fun _ => Nat.le_of_ble_eq_true rfl) H (fun w6 I5 H => ?_)
    have ob7 := H.1
    have H := H.2
    refine r_if_ne (tgt := 17) dX11_judge_12 (by decide) ob7 (fun c8 => ?_) (fun c8 => ?_)
    · have H := H.1 c8
      refine r_aload_n dX11_judge_17 rfl ?_
      refine r_getR clX11 28 (by decide) s0_85 rfl rfl wX11_87 dX11_judge_18 ?_
      refine r_iload_n dX11_judge_21 rfl ?_
      have ob9 := H.1
      have H := H.2
      refine r_iald s0_116 (by decide) dX11_judge_22 ob9 ?_
      refine r_heapR (fun hI10 => ?_)
      refine r_if_ge (tgt := 29) dX11_judge_23 (by decide) (hI10 _ _) (fun c11 => ?_) (fun c11 => ?_)
      · have H := H.1 c11
        refine r_bipush (v := 32) dX11_judge_29 (by decide) ?_
        refine r_iload_n dX11_judge_31 rfl ?_
        refine r_imul dX11_judge_32 ?_
        refine r_iload_n dX11_judge_33 rfl ?_
        refine r_iadd dX11_judge_34 ?_
        refine r_name (fun y4_35 e12 => ?_)
        have H := H y4_35 e12
        refine r_istore dX11_judge_35 (by decide) rfl ?_
        refine r_iconst dX11_judge_37 ?_
        refine r_istore dX11_judge_38 (by decide) rfl ?_
        refine r_drop (ls2 := [some (ax_r 85), some (ax_i x1), none, none, some (ax_i y4_35), some (ax_i 0), none]) ?_ (ax_leS (ax_leS (ax_leN (ax_leN (ax_leS (ax_leS (ax_leN ax_leE)))))))
        exact H
      · have H := H.2 c11
        refine r_bipush (v := (-11)) dX11_judge_26 (by decide) ?_
        exact r_iret dX11_judge_28 rfl ⟨rfl, _, rfl, H⟩
    · have H := H.2 c8
      refine r_iconst dX11_judge_15 ?_
      exact r_iret dX11_judge_16 rfl ⟨rfl, _, rfl, H⟩

theorem vX11_judge_40 {d : Nat} {Q : Int → ax_H → Prop} {x1 : Int} {x4 : Int} {x5 : Int} {I : ax_H} (r4 : ax_R x4) (r5 : ax_R x5) (H :
  (0 ≤ x1 ∧ x1 < 4) ∧
  (((I 116 x1) ≤ x5 →
    Q (-5) I) ∧
  (¬ (I 116 x1) ≤ x5 →
    (0 ≤ x5 ∧ x5 < 2147483648) ∧
    (((x5 % 2) ≠ 0 →
      (x4 ≠ (-7) →
        (0 ≤ x4 ∧ x4 < 2147483648) ∧
        (∀ y6_110, y6_110 = (x4 % 32) →
        (∀ b10, b10 = (118 + (x1).toNat) → S0[b10]? = some (100, 12, []) →
        ((0 ≤ x5 ∧ x5 < 12) ∧
        (ax_R y6_110 ∧
        (((I b10 x5) = y6_110 →
          RI (d + 6) kX11_judge 40 [some (ax_r 85), some (ax_i x1), none, none, some (ax_i x4), some (ax_i (x5 + 1)), none] I Q) ∧
        (¬ (I b10 x5) = y6_110 →
          Q x5 I))))))) ∧
      (x4 = (-7) →
        ∀ b15, b15 = (118 + (x1).toNat) → S0[b15]? = some (100, 12, []) →
        ((0 ≤ x5 ∧ x5 < 12) ∧
        (((I b15 x5) = (-1) →
          RI (d + 6) kX11_judge 40 [some (ax_r 85), some (ax_i x1), none, none, some (ax_i x4), some (ax_i (x5 + 1)), none] I Q) ∧
        (¬ (I b15 x5) = (-1) →
          Q x5 I))))) ∧
    ((x5 % 2) = 0 →
      (x4 = (-7) →
        ∀ b21, b21 = (118 + (x1).toNat) → S0[b21]? = some (100, 12, []) →
        ((0 ≤ x5 ∧ x5 < 12) ∧
        (((I b21 x5) = (-1) →
          RI (d + 6) kX11_judge 40 [some (ax_r 85), some (ax_i x1), none, none, some (ax_i x4), some (ax_i (x5 + 1)), none] I Q) ∧
        (¬ (I b21 x5) = (-1) →
          Q x5 I)))) ∧
      (¬ x4 = (-7) →
        cI (d + 5) kX11_step [ax_r 85, ax_i x4, ax_i 0] I (fun w26 I25 =>
        ax_R w26 ∧
        ((w26 ≠ (-7) →
          (0 ≤ w26 ∧ w26 < 2147483648) ∧
          (∀ y6_110, y6_110 = (w26 / 32) →
          (∀ b32, b32 = (118 + (x1).toNat) → S0[b32]? = some (100, 12, []) →
          ((0 ≤ x5 ∧ x5 < 12) ∧
          (ax_R y6_110 ∧
          (((I25 b32 x5) = y6_110 →
            RI (d + 6) kX11_judge 40 [some (ax_r 85), some (ax_i x1), none, none, some (ax_i w26), some (ax_i (x5 + 1)), none] I25 Q) ∧
          (¬ (I25 b32 x5) = y6_110 →
            Q x5 I25))))))) ∧
        (w26 = (-7) →
          ∀ b38, b38 = (118 + (x1).toNat) → S0[b38]? = some (100, 12, []) →
          ((0 ≤ x5 ∧ x5 < 12) ∧
          (((I25 b38 x5) = (-1) →
            RI (d + 6) kX11_judge 40 [some (ax_r 85), some (ax_i x1), none, none, some (ax_i w26), some (ax_i (x5 + 1)), none] I25 Q) ∧
          (¬ (I25 b38 x5) = (-1) →
            Q x5 I25)))))))))))) :
  RI (d + 6) kX11_judge 40 [some (ax_r 85), some (ax_i x1), none, none, some (ax_i x4), some (ax_i x5), none] I Q := by
  show Rn _ _ _ _ _ _ _ _
  refine r_iload dX11_judge_40 rfl ?_
  refine r_aload_n dX11_judge_42 rfl ?_
  refine r_getR clX11 28 (by decide) s0_85 rfl rfl wX11_87 dX11_judge_43 ?_
  refine r_iload_n dX11_judge_46 rfl ?_
  have ob1 := H.1
  have H := H.2
  refine r_iald s0_116 (by decide) dX11_judge_47 ob1 ?_
  refine r_heapR (fun hI2 => ?_)
  refine r_icmp_ge (tgt := 135) dX11_judge_48 (by decide) r5 (hI2 _ _) (fun c3 => ?_) (fun c3 => ?_)
  · have H := H.1 c3
    refine r_bipush (v := (-5)) dX11_judge_135 (by decide) ?_
    exact r_iret dX11_judge_137 rfl ⟨rfl, _, rfl, H⟩
  · have H := H.2 c3
    refine r_iload dX11_judge_51 rfl ?_
    refine r_iconst dX11_judge_53 ?_
    have ob4 := H.1
    have H := H.2
    refine r_iremp dX11_judge_54 ob4 (by decide) ?_
    refine r_if_ne (tgt := 75) dX11_judge_55 (by decide) ⟨by omega, by omega⟩ (fun c5 => ?_) (fun c5 => ?_)
    · have H := H.1 c5
      refine r_iload dX11_judge_75 rfl ?_
      refine r_istore dX11_judge_77 (by decide) rfl ?_
      refine r_iload dX11_judge_79 rfl ?_
      refine r_bipush (v := (-7)) dX11_judge_81 (by decide) ?_
      refine r_icmp_ne (tgt := 90) dX11_judge_83 (by decide) r4 (by decide) (fun c6 => ?_) (fun c6 => ?_)
      · have H := H.1 c6
        refine r_iload dX11_judge_90 rfl ?_
        refine r_iconst dX11_judge_92 ?_
        refine r_iremp dX11_judge_93 ob4 (by decide) ?_
        refine r_if_ne (tgt := 105) dX11_judge_94 (by decide) ⟨by omega, by omega⟩ (fun c7 => ?_) (fun c7 => absurd c7 c5)
        refine r_iload dX11_judge_105 rfl ?_
        refine r_bipush (v := 32) dX11_judge_107 (by decide) ?_
        have ob8 := H.1
        have H := H.2
        refine r_iremp dX11_judge_109 ob8 (by decide) ?_
        refine r_name (fun y6_110 e9 => ?_)
        have H := H y6_110 e9
        refine r_istore dX11_judge_110 (by decide) rfl ?_
        refine r_aload_n dX11_judge_112 rfl ?_
        refine r_getR clX11 29 (by decide) s0_85 rfl rfl wX11_90 dX11_judge_113 ?_
        refine r_iload_n dX11_judge_116 rfl ?_
        obtain ⟨b10, hb11, hb11q⟩ : ∃ q, q = (118 + (x1).toNat) ∧ S0[q]? = some (100, 12, []) := ⟨_, rfl, (el_117 ob1).2⟩
        have H := H b10 hb11 hb11q
        refine r_aaldA (b := b10) s0_117 (by decide) dX11_judge_117 ob1 (by rw [hb11]; exact (el_117 ob1).1) ?_
        refine r_iload dX11_judge_118 rfl ?_
        have ob12 := H.1
        have H := H.2
        refine r_iald hb11q (by decide) dX11_judge_120 ob12 ?_
        refine r_iload dX11_judge_121 rfl ?_
        have ob13 := H.1
        have H := H.2
        refine r_icmp_eq (tgt := 129) dX11_judge_123 (by decide) (hI2 _ _) ob13 (fun c14 => ?_) (fun c14 => ?_)
        · have H := H.1 c14
          refine r_iinc dX11_judge_129 (by decide) rfl rfl ?_
          refine r_goto (tgt := 40) dX11_judge_132 (by decide) ?_
          refine r_drop (ls2 := [some (ax_r 85), some (ax_i x1), none, none, some (ax_i x4), some (ax_i (x5 + 1)), none]) ?_ (ax_leS (ax_leS (ax_leN (ax_leN (ax_leS (ax_leS (ax_leN ax_leE)))))))
          exact H
        · have H := H.2 c14
          refine r_iload dX11_judge_126 rfl ?_
          exact r_iret dX11_judge_128 rfl ⟨rfl, _, rfl, H⟩
      · have H := H.2 c6
        refine r_iconst dX11_judge_86 ?_
        refine r_goto (tgt := 110) dX11_judge_87 (by decide) ?_
        refine r_istore dX11_judge_110 (by decide) rfl ?_
        refine r_aload_n dX11_judge_112 rfl ?_
        refine r_getR clX11 29 (by decide) s0_85 rfl rfl wX11_90 dX11_judge_113 ?_
        refine r_iload_n dX11_judge_116 rfl ?_
        obtain ⟨b15, hb16, hb16q⟩ : ∃ q, q = (118 + (x1).toNat) ∧ S0[q]? = some (100, 12, []) := ⟨_, rfl, (el_117 ob1).2⟩
        have H := H b15 hb16 hb16q
        refine r_aaldA (b := b15) s0_117 (by decide) dX11_judge_117 ob1 (by rw [hb16]; exact (el_117 ob1).1) ?_
        refine r_iload dX11_judge_118 rfl ?_
        have ob17 := H.1
        have H := H.2
        refine r_iald hb16q (by decide) dX11_judge_120 ob17 ?_
        refine r_iload dX11_judge_121 rfl ?_
        refine r_icmp_eq (tgt := 129) dX11_judge_123 (by decide) (hI2 _ _) (by decide) (fun c18 => ?_) (fun c18 => ?_)
        · have H := H.1 c18
          refine r_iinc dX11_judge_129 (by decide) rfl rfl ?_
          refine r_goto (tgt := 40) dX11_judge_132 (by decide) ?_
          refine r_drop (ls2 := [some (ax_r 85), some (ax_i x1), none, none, some (ax_i x4), some (ax_i (x5 + 1)), none]) ?_ (ax_leS (ax_leS (ax_leN (ax_leN (ax_leS (ax_leS (ax_leN ax_leE)))))))
          exact H
        · have H := H.2 c18
          refine r_iload dX11_judge_126 rfl ?_
          exact r_iret dX11_judge_128 rfl ⟨rfl, _, rfl, H⟩
    · have H := H.2 c5
      refine r_iload dX11_judge_58 rfl ?_
      refine r_bipush (v := (-7)) dX11_judge_60 (by decide) ?_
      refine r_icmp_eq (tgt := 75) dX11_judge_62 (by decide) r4 (by decide) (fun c19 => ?_) (fun c19 => ?_)
      · have H := H.1 c19
        refine r_iload dX11_judge_75 rfl ?_
        refine r_istore dX11_judge_77 (by decide) rfl ?_
        refine r_iload dX11_judge_79 rfl ?_
        refine r_bipush (v := (-7)) dX11_judge_81 (by decide) ?_
        refine r_icmp_ne (tgt := 90) dX11_judge_83 (by decide) r4 (by decide) (fun c20 => absurd c19 c20) (fun c20 => ?_)
        refine r_iconst dX11_judge_86 ?_
        refine r_goto (tgt := 110) dX11_judge_87 (by decide) ?_
        refine r_istore dX11_judge_110 (by decide) rfl ?_
        refine r_aload_n dX11_judge_112 rfl ?_
        refine r_getR clX11 29 (by decide) s0_85 rfl rfl wX11_90 dX11_judge_113 ?_
        refine r_iload_n dX11_judge_116 rfl ?_
        obtain ⟨b21, hb22, hb22q⟩ : ∃ q, q = (118 + (x1).toNat) ∧ S0[q]? = some (100, 12, []) := ⟨_, rfl, (el_117 ob1).2⟩
        have H := H b21 hb22 hb22q
        refine r_aaldA (b := b21) s0_117 (by decide) dX11_judge_117 ob1 (by rw [hb22]; exact (el_117 ob1).1) ?_
        refine r_iload dX11_judge_118 rfl ?_
        have ob23 := H.1
        have H := H.2
        refine r_iald hb22q (by decide) dX11_judge_120 ob23 ?_
        refine r_iload dX11_judge_121 rfl ?_
        refine r_icmp_eq (tgt := 129) dX11_judge_123 (by decide) (hI2 _ _) (by decide) (fun c24 => ?_) (fun c24 => ?_)
        · have H := H.1 c24
          refine r_iinc dX11_judge_129 (by decide) rfl rfl ?_
          refine r_goto (tgt := 40) dX11_judge_132 (by decide) ?_
          refine r_drop (ls2 := [some (ax_r 85), some (ax_i x1), none, none, some (ax_i x4), some (ax_i (x5 + 1)), none]) ?_ (ax_leS (ax_leS (ax_leN (ax_leN (ax_leS (ax_leS (ax_leN ax_leE)))))))
          exact H
        · have H := H.2 c24
          refine r_iload dX11_judge_126 rfl ?_
          exact r_iret dX11_judge_128 rfl ⟨rfl, _, rfl, H⟩
      · have H := H.2 c19
        refine r_aload_n dX11_judge_65 rfl ?_
        refine r_iload dX11_judge_66 rfl ?_
        refine r_iconst dX11_judge_68 ?_
        refine r_cI (as := [ax_r 85, ax_i x4, ax_i 0]) (how_V (ci := 11) jX11_step jIX11_step jVX11_step rfl s0_85 (by decide) rfl rfl wX11_158 dX11_judge_69) rfl (Nat.le_refl _) (Nat.le_of_ble_eq_true rfl) (fun _ => Nat.le_of_ble_eq_true rfl) H (fun w26 I25 H => ?_)
        refine r_goto (tgt := 77) dX11_judge_72 (by decide) ?_
        refine r_istore dX11_judge_77 (by decide) rfl ?_
        refine r_iload dX11_judge_79 rfl ?_
        refine r_bipush (v := (-7)) dX11_judge_81 (by decide) ?_
        have ob27 := H.1
        have H := H.2
        refine r_icmp_ne (tgt := 90) dX11_judge_83 (by decide) ob27 (by decide) (fun c28 => ?_) (fun c28 => ?_)
        · have H := H.1 c28
          refine r_iload dX11_judge_90 rfl ?_
          refine r_iconst dX11_judge_92 ?_
          refine r_iremp dX11_judge_93 ob4 (by decide) ?_
          refine r_if_ne (tgt := 105) dX11_judge_94 (by decide) ⟨by omega, by omega⟩ (fun c29 => absurd c5 c29) (fun c29 => ?_)
          refine r_iload dX11_judge_97 rfl ?_
          refine r_bipush (v := 32) dX11_judge_99 (by decide) ?_
          have ob30 := H.1
          have H := H.2
          refine r_idivp dX11_judge_101 ob30 (by decide) ?_
          refine r_goto (tgt := 110) dX11_judge_102 (by decide) ?_
          refine r_name (fun y6_110 e31 => ?_)
          have H := H y6_110 e31
          refine r_istore dX11_judge_110 (by decide) rfl ?_
          refine r_aload_n dX11_judge_112 rfl ?_
          refine r_getR clX11 29 (by decide) s0_85 rfl rfl wX11_90 dX11_judge_113 ?_
          refine r_iload_n dX11_judge_116 rfl ?_
          obtain ⟨b32, hb33, hb33q⟩ : ∃ q, q = (118 + (x1).toNat) ∧ S0[q]? = some (100, 12, []) := ⟨_, rfl, (el_117 ob1).2⟩
          have H := H b32 hb33 hb33q
          refine r_aaldA (b := b32) s0_117 (by decide) dX11_judge_117 ob1 (by rw [hb33]; exact (el_117 ob1).1) ?_
          refine r_iload dX11_judge_118 rfl ?_
          have ob34 := H.1
          have H := H.2
          refine r_iald hb33q (by decide) dX11_judge_120 ob34 ?_
          refine r_iload dX11_judge_121 rfl ?_
          refine r_heapR (fun hI35 => ?_)
          have ob36 := H.1
          have H := H.2
          refine r_icmp_eq (tgt := 129) dX11_judge_123 (by decide) (hI35 _ _) ob36 (fun c37 => ?_) (fun c37 => ?_)
          · have H := H.1 c37
            refine r_iinc dX11_judge_129 (by decide) rfl rfl ?_
            refine r_goto (tgt := 40) dX11_judge_132 (by decide) ?_
            refine r_drop (ls2 := [some (ax_r 85), some (ax_i x1), none, none, some (ax_i w26), some (ax_i (x5 + 1)), none]) ?_ (ax_leS (ax_leS (ax_leN (ax_leN (ax_leS (ax_leS (ax_leN ax_leE)))))))
            exact H
          · have H := H.2 c37
            refine r_iload dX11_judge_126 rfl ?_
            exact r_iret dX11_judge_128 rfl ⟨rfl, _, rfl, H⟩
        · have H := H.2 c28
          refine r_iconst dX11_judge_86 ?_
          refine r_goto (tgt := 110) dX11_judge_87 (by decide) ?_
          refine r_istore dX11_judge_110 (by decide) rfl ?_
          refine r_aload_n dX11_judge_112 rfl ?_
          refine r_getR clX11 29 (by decide) s0_85 rfl rfl wX11_90 dX11_judge_113 ?_
          refine r_iload_n dX11_judge_116 rfl ?_
          obtain ⟨b38, hb39, hb39q⟩ : ∃ q, q = (118 + (x1).toNat) ∧ S0[q]? = some (100, 12, []) := ⟨_, rfl, (el_117 ob1).2⟩
          have H := H b38 hb39 hb39q
          refine r_aaldA (b := b38) s0_117 (by decide) dX11_judge_117 ob1 (by rw [hb39]; exact (el_117 ob1).1) ?_
          refine r_iload dX11_judge_118 rfl ?_
          have ob40 := H.1
          have H := H.2
          refine r_iald hb39q (by decide) dX11_judge_120 ob40 ?_
          refine r_iload dX11_judge_121 rfl ?_
          refine r_heapR (fun hI41 => ?_)
          refine r_icmp_eq (tgt := 129) dX11_judge_123 (by decide) (hI41 _ _) (by decide) (fun c42 => ?_) (fun c42 => ?_)
          · have H := H.1 c42
            refine r_iinc dX11_judge_129 (by decide) rfl rfl ?_
            refine r_goto (tgt := 40) dX11_judge_132 (by decide) ?_
            refine r_drop (ls2 := [some (ax_r 85), some (ax_i x1), none, none, some (ax_i w26), some (ax_i (x5 + 1)), none]) ?_ (ax_leS (ax_leS (ax_leN (ax_leN (ax_leS (ax_leS (ax_leN ax_leE)))))))
            exact H
          · have H := H.2 c42
            refine r_iload dX11_judge_126 rfl ?_
            exact r_iret dX11_judge_128 rfl ⟨rfl, _, rfl, H⟩

theorem vX11_list_0 {d : Nat} {Q : Int → ax_H → Prop} {x1 : Int} {x2 : Int} {I : ax_H} (r2 : ax_R x2) (H :
  cI (d + 1) kX11_isList [ax_i x1] I (fun w2 I1 =>
  ax_R w2 ∧
  ((w2 ≠ 0 →
    (x2 ≤ 12 →
      (0 ≤ x2 →
        (0 ≤ x1 ∧ x1 < 4) ∧
        (RI (d + 2) kX11_list 34 [some (ax_r 85), some (ax_i x1), none, some (ax_i 0)] (ax_st I1 116 x1 x2) Q)) ∧
      (¬ 0 ≤ x2 →
        Q (-14) I1)) ∧
    (¬ x2 ≤ 12 →
      Q (-2) I1)) ∧
  (w2 = 0 →
    Q (-1) I1)))) :
  RI (d + 2) kX11_list 0 [some (ax_r 85), some (ax_i x1), some (ax_i x2), none] I Q := by
  show Rn _ _ _ _ _ _ _ _
  refine r_iload_n dX11_list_0 rfl ?_
  refine r_cI (as := [ax_i x1]) (how_S jX11_isList jSX11_isList rfl wX11_267 dX11_list_1) rfl (Nat.le_refl _) (Nat.le_of_ble_eq_true rfl) (fun _ => Nat.le_of_ble_eq_true rfl) H (fun w2 I1 H => ?_)
  have ob3 := H.1
  have H := H.2
  refine r_if_ne (tgt := 9) dX11_list_4 (by decide) ob3 (fun c4 => ?_) (fun c4 => ?_)
  · have H := H.1 c4
    refine r_iload_n dX11_list_9 rfl ?_
    refine r_bipush (v := 12) dX11_list_10 (by decide) ?_
    refine r_icmp_le (tgt := 18) dX11_list_12 (by decide) r2 (by decide) (fun c5 => ?_) (fun c5 => ?_)
    · have H := H.1 c5
      refine r_iload_n dX11_list_18 rfl ?_
      refine r_if_ge (tgt := 25) dX11_list_19 (by decide) r2 (fun c6 => ?_) (fun c6 => ?_)
      · have H := H.1 c6
        refine r_aload_n dX11_list_25 rfl ?_
        refine r_getR clX11 28 (by decide) s0_85 rfl rfl wX11_87 dX11_list_26 ?_
        refine r_iload_n dX11_list_29 rfl ?_
        refine r_iload_n dX11_list_30 rfl ?_
        have ob7 := H.1
        have H := H.2
        refine r_iast s0_116 (by decide) dX11_list_31 ob7 r2 ?_
        refine r_iconst dX11_list_32 ?_
        refine r_istore_n dX11_list_33 (by decide) rfl ?_
        refine r_drop (ls2 := [some (ax_r 85), some (ax_i x1), none, some (ax_i 0)]) ?_ (ax_leS (ax_leS (ax_leN (ax_leS ax_leE))))
        exact H
      · have H := H.2 c6
        refine r_bipush (v := (-14)) dX11_list_22 (by decide) ?_
        exact r_iret dX11_list_24 rfl ⟨rfl, _, rfl, H⟩
    · have H := H.2 c5
      refine r_bipush (v := (-2)) dX11_list_15 (by decide) ?_
      exact r_iret dX11_list_17 rfl ⟨rfl, _, rfl, H⟩
  · have H := H.2 c4
    refine r_iconst dX11_list_7 ?_
    exact r_iret dX11_list_8 rfl ⟨rfl, _, rfl, H⟩

theorem vX11_list_34 {d : Nat} {Q : Int → ax_H → Prop} {x1 : Int} {x3 : Int} {I : ax_H} (r3 : ax_R x3) (H :
  (12 ≤ x3 →
    Q 1 I) ∧
  (¬ 12 ≤ x3 →
    (0 ≤ x1 ∧ x1 < 4) ∧
    (∀ b3, b3 = (118 + (x1).toNat) → S0[b3]? = some (100, 12, []) →
    ((0 ≤ x3 ∧ x3 < 12) ∧
    (RI (d + 2) kX11_list 34 [some (ax_r 85), some (ax_i x1), none, some (ax_i (x3 + 1))] (ax_st I b3 x3 0) Q))))) :
  RI (d + 2) kX11_list 34 [some (ax_r 85), some (ax_i x1), none, some (ax_i x3)] I Q := by
  show Rn _ _ _ _ _ _ _ _
  refine r_iload_n dX11_list_34 rfl ?_
  refine r_bipush (v := 12) dX11_list_35 (by decide) ?_
  refine r_icmp_ge (tgt := 55) dX11_list_37 (by decide) r3 (by decide) (fun c1 => ?_) (fun c1 => ?_)
  · have H := H.1 c1
    refine r_iconst dX11_list_55 ?_
    exact r_iret dX11_list_56 rfl ⟨rfl, _, rfl, H⟩
  · have H := H.2 c1
    refine r_aload_n dX11_list_40 rfl ?_
    refine r_getR clX11 29 (by decide) s0_85 rfl rfl wX11_90 dX11_list_41 ?_
    refine r_iload_n dX11_list_44 rfl ?_
    have ob2 := H.1
    have H := H.2
    obtain ⟨b3, hb4, hb4q⟩ : ∃ q, q = (118 + (x1).toNat) ∧ S0[q]? = some (100, 12, []) := ⟨_, rfl, (el_117 ob2).2⟩
    have H := H b3 hb4 hb4q
    refine r_aaldA (b := b3) s0_117 (by decide) dX11_list_45 ob2 (by rw [hb4]; exact (el_117 ob2).1) ?_
    refine r_iload_n dX11_list_46 rfl ?_
    refine r_iconst dX11_list_47 ?_
    have ob5 := H.1
    have H := H.2
    refine r_iast hb4q (by decide) dX11_list_48 ob5 (by decide) ?_
    refine r_iinc dX11_list_49 (by decide) rfl rfl ?_
    refine r_goto (tgt := 34) dX11_list_52 (by decide) ?_
    exact H

theorem vX11_put_0 {d : Nat} {Q : Int → ax_H → Prop} {x1 : Int} {x2 : Int} {x3 : Int} {I : ax_H} (r2 : ax_R x2) (r3 : ax_R x3) (H :
  cI (d + 1) kX11_isList [ax_i x1] I (fun w2 I1 =>
  ax_R w2 ∧
  ((w2 ≠ 0 →
    (0 ≤ x1 ∧ x1 < 4) ∧
    ((0 ≤ (I1 116 x1) →
      ax_R ((I1 116 x1) - 1) ∧
      (cI (d + 1) kX11_in [ax_l x2, ax_l 0, ax_l ((I1 116 x1) - 1)] I1 (fun w10 I9 =>
      ax_R w10 ∧
      ((w10 ≠ 0 →
        ∀ b13, b13 = (118 + (x1).toNat) → S0[b13]? = some (100, 12, []) →
        ((0 ≤ x2 ∧ x2 < 12) ∧
        (Q 1 (ax_st I9 b13 x2 x3)))) ∧
      (w10 = 0 →
        Q (-13) I9))))) ∧
    (¬ 0 ≤ (I1 116 x1) →
      Q (-11) I1))) ∧
  (w2 = 0 →
    Q (-1) I1)))) :
  RI (d + 2) kX11_put 0 [some (ax_r 85), some (ax_i x1), some (ax_i x2), some (ax_i x3)] I Q := by
  show Rn _ _ _ _ _ _ _ _
  refine r_iload_n dX11_put_0 rfl ?_
  refine r_cI (as := [ax_i x1]) (how_S jX11_isList jSX11_isList rfl wX11_267 dX11_put_1) rfl (Nat.le_refl _) (Nat.le_of_ble_eq_true rfl) (fun _ => Nat.le_of_ble_eq_true rfl) H (fun w2 I1 H => ?_)
  have ob3 := H.1
  have H := H.2
  refine r_if_ne (tgt := 9) dX11_put_4 (by decide) ob3 (fun c4 => ?_) (fun c4 => ?_)
  · have H := H.1 c4
    refine r_aload_n dX11_put_9 rfl ?_
    refine r_getR clX11 28 (by decide) s0_85 rfl rfl wX11_87 dX11_put_10 ?_
    refine r_iload_n dX11_put_13 rfl ?_
    have ob5 := H.1
    have H := H.2
    refine r_iald s0_116 (by decide) dX11_put_14 ob5 ?_
    refine r_heapR (fun hI6 => ?_)
    refine r_if_ge (tgt := 21) dX11_put_15 (by decide) (hI6 _ _) (fun c7 => ?_) (fun c7 => ?_)
    · have H := H.1 c7
      refine r_iload_n dX11_put_21 rfl ?_
      refine r_i2l dX11_put_22 r2 ?_
      refine r_lconst (v := 0) dX11_put_23 rfl ?_
      refine r_aload_n dX11_put_24 rfl ?_
      refine r_getR clX11 28 (by decide) s0_85 rfl rfl wX11_87 dX11_put_25 ?_
      refine r_iload_n dX11_put_28 rfl ?_
      refine r_iald s0_116 (by decide) dX11_put_29 ob5 ?_
      refine r_iconst dX11_put_30 ?_
      refine r_isub dX11_put_31 ?_
      have ob8 := H.1
      have H := H.2
      refine r_i2l dX11_put_32 ob8 ?_
      refine r_cI (as := [ax_l x2, ax_l 0, ax_l ((I1 116 x1) - 1)]) (how_S jX11_in jSX11_in rfl wX11_99 dX11_put_33) rfl (Nat.le_refl _) (Nat.le_of_ble_eq_true rfl) (fun _ => Nat.le_of_ble_eq_true rfl) H (fun w10 I9 H => ?_)
      have ob11 := H.1
      have H := H.2
      refine r_if_ne (tgt := 42) dX11_put_36 (by decide) ob11 (fun c12 => ?_) (fun c12 => ?_)
      · have H := H.1 c12
        refine r_aload_n dX11_put_42 rfl ?_
        refine r_getR clX11 29 (by decide) s0_85 rfl rfl wX11_90 dX11_put_43 ?_
        refine r_iload_n dX11_put_46 rfl ?_
        obtain ⟨b13, hb14, hb14q⟩ : ∃ q, q = (118 + (x1).toNat) ∧ S0[q]? = some (100, 12, []) := ⟨_, rfl, (el_117 ob5).2⟩
        have H := H b13 hb14 hb14q
        refine r_aaldA (b := b13) s0_117 (by decide) dX11_put_47 ob5 (by rw [hb14]; exact (el_117 ob5).1) ?_
        refine r_iload_n dX11_put_48 rfl ?_
        refine r_iload_n dX11_put_49 rfl ?_
        have ob15 := H.1
        have H := H.2
        refine r_iast hb14q (by decide) dX11_put_50 ob15 r3 ?_
        refine r_iconst dX11_put_51 ?_
        exact r_iret dX11_put_52 rfl ⟨rfl, _, rfl, H⟩
      · have H := H.2 c12
        refine r_bipush (v := (-13)) dX11_put_39 (by decide) ?_
        exact r_iret dX11_put_41 rfl ⟨rfl, _, rfl, H⟩
    · have H := H.2 c7
      refine r_bipush (v := (-11)) dX11_put_18 (by decide) ?_
      exact r_iret dX11_put_20 rfl ⟨rfl, _, rfl, H⟩
  · have H := H.2 c4
    refine r_iconst dX11_put_7 ?_
    exact r_iret dX11_put_8 rfl ⟨rfl, _, rfl, H⟩

theorem vX11_get_0 {d : Nat} {Q : Int → ax_H → Prop} {x1 : Int} {x2 : Int} {I : ax_H} (r2 : ax_R x2) (H :
  cI (d + 1) kX11_isList [ax_i x1] I (fun w2 I1 =>
  ax_R w2 ∧
  ((w2 = 0 →
    Q (-9223372036854775808) I1) ∧
  (¬ w2 = 0 →
    (0 ≤ x1 ∧ x1 < 4) ∧
    (ax_R ((I1 116 x1) - 1) ∧
    (cI (d + 1) kX11_in [ax_l x2, ax_l 0, ax_l ((I1 116 x1) - 1)] I1 (fun w8 I7 =>
    ax_R w8 ∧
    ((w8 = 0 →
      Q (-9223372036854775808) I7) ∧
    (¬ w8 = 0 →
      ∀ b11, b11 = (118 + (x1).toNat) → S0[b11]? = some (100, 12, []) →
      ((0 ≤ x2 ∧ x2 < 12) ∧
      (Q (I7 b11 x2) I7))))))))))) :
  RJ (d + 2) kX11_get 0 [some (ax_r 85), some (ax_i x1), some (ax_i x2)] I Q := by
  show Rn _ _ _ _ _ _ _ _
  refine r_iload_n dX11_get_0 rfl ?_
  refine r_cI (as := [ax_i x1]) (how_S jX11_isList jSX11_isList rfl wX11_267 dX11_get_1) rfl (Nat.le_refl _) (Nat.le_of_ble_eq_true rfl) (fun _ => Nat.le_of_ble_eq_true rfl) H (fun w2 I1 H => ?_)
  have ob3 := H.1
  have H := H.2
  refine r_if_eq (tgt := 37) dX11_get_4 (by decide) ob3 (fun c4 => ?_) (fun c4 => ?_)
  · have H := H.1 c4
    refine r_ldc2 (v := (-9223372036854775808)) dX11_get_37 wX11_149 ?_
    exact r_lret dX11_get_40 rfl ⟨rfl, _, rfl, H⟩
  · have H := H.2 c4
    refine r_iload_n dX11_get_7 rfl ?_
    refine r_i2l dX11_get_8 r2 ?_
    refine r_lconst (v := 0) dX11_get_9 rfl ?_
    refine r_aload_n dX11_get_10 rfl ?_
    refine r_getR clX11 28 (by decide) s0_85 rfl rfl wX11_87 dX11_get_11 ?_
    refine r_iload_n dX11_get_14 rfl ?_
    have ob5 := H.1
    have H := H.2
    refine r_iald s0_116 (by decide) dX11_get_15 ob5 ?_
    refine r_iconst dX11_get_16 ?_
    refine r_isub dX11_get_17 ?_
    have ob6 := H.1
    have H := H.2
    refine r_i2l dX11_get_18 ob6 ?_
    refine r_cI (as := [ax_l x2, ax_l 0, ax_l ((I1 116 x1) - 1)]) (how_S jX11_in jSX11_in rfl wX11_99 dX11_get_19) rfl (Nat.le_refl _) (Nat.le_of_ble_eq_true rfl) (fun _ => Nat.le_of_ble_eq_true rfl) H (fun w8 I7 H => ?_)
    have ob9 := H.1
    have H := H.2
    refine r_if_eq (tgt := 37) dX11_get_22 (by decide) ob9 (fun c10 => ?_) (fun c10 => ?_)
    · have H := H.1 c10
      refine r_ldc2 (v := (-9223372036854775808)) dX11_get_37 wX11_149 ?_
      exact r_lret dX11_get_40 rfl ⟨rfl, _, rfl, H⟩
    · have H := H.2 c10
      refine r_aload_n dX11_get_25 rfl ?_
      refine r_getR clX11 29 (by decide) s0_85 rfl rfl wX11_90 dX11_get_26 ?_
      refine r_iload_n dX11_get_29 rfl ?_
      obtain ⟨b11, hb12, hb12q⟩ : ∃ q, q = (118 + (x1).toNat) ∧ S0[q]? = some (100, 12, []) := ⟨_, rfl, (el_117 ob5).2⟩
      have H := H b11 hb12 hb12q
      refine r_aaldA (b := b11) s0_117 (by decide) dX11_get_30 ob5 (by rw [hb12]; exact (el_117 ob5).1) ?_
      refine r_iload_n dX11_get_31 rfl ?_
      have ob13 := H.1
      have H := H.2
      refine r_iald hb12q (by decide) dX11_get_32 ob13 ?_
      refine r_heapR (fun hI14 => ?_)
      refine r_i2l dX11_get_33 (hI14 _ _) ?_
      refine r_goto (tgt := 40) dX11_get_34 (by decide) ?_
      exact r_lret dX11_get_40 rfl ⟨rfl, _, rfl, H⟩

theorem vX11_image_0 {d : Nat} {Q : Int → ax_H → Prop} {I : ax_H} (H :
  RI d kX11_image 2 [some (ax_r 85), some (ax_i 0)] I Q) :
  RI d kX11_image 0 [some (ax_r 85), none] I Q := by
  show Rn _ _ _ _ _ _ _ _
  refine r_iconst dX11_image_0 ?_
  refine r_istore_n dX11_image_1 (by decide) rfl ?_
  exact H

theorem vX11_image_2 {d : Nat} {Q : Int → ax_H → Prop} {x1 : Int} {I : ax_H} (r1 : ax_R x1) (H :
  (48 ≤ x1 →
    Q ((ax_st I 85 2 1) 86 18) (ax_st I 85 2 1)) ∧
  (¬ 48 ≤ x1 →
    (0 ≤ x1 ∧ x1 < 48) ∧
    (RI d kX11_image 2 [some (ax_r 85), some (ax_i (x1 + 1))] (ax_st I 87 x1 (I 86 x1)) Q))) :
  RI d kX11_image 2 [some (ax_r 85), some (ax_i x1)] I Q := by
  show Rn _ _ _ _ _ _ _ _
  refine r_iload_n dX11_image_2 rfl ?_
  refine r_bipush (v := 48) dX11_image_3 (by decide) ?_
  refine r_icmp_ge (tgt := 26) dX11_image_5 (by decide) r1 (by decide) (fun c1 => ?_) (fun c1 => ?_)
  · have H := H.1 c1
    refine r_aload_n dX11_image_26 rfl ?_
    refine r_iconst dX11_image_27 ?_
    refine r_putI clX11 2 2 (by decide) s0_85 rfl rfl rfl (by decide) (by decide) (by decide) wX11_270 dX11_image_28 ?_
    refine r_aload_n dX11_image_31 rfl ?_
    refine r_getR clX11 0 (by decide) s0_85 rfl rfl wX11_11 dX11_image_32 ?_
    refine r_bipush (v := 18) dX11_image_35 (by decide) ?_
    refine r_iald s0_86 (by decide) dX11_image_37 (by decide) ?_
    exact r_iret dX11_image_38 rfl ⟨rfl, _, rfl, H⟩
  · have H := H.2 c1
    refine r_aload_n dX11_image_8 rfl ?_
    refine r_getR clX11 1 (by decide) s0_85 rfl rfl wX11_15 dX11_image_9 ?_
    refine r_iload_n dX11_image_12 rfl ?_
    refine r_aload_n dX11_image_13 rfl ?_
    refine r_getR clX11 0 (by decide) s0_85 rfl rfl wX11_11 dX11_image_14 ?_
    refine r_iload_n dX11_image_17 rfl ?_
    have ob2 := H.1
    have H := H.2
    refine r_iald s0_86 (by decide) dX11_image_18 ob2 ?_
    refine r_heapR (fun hI3 => ?_)
    refine r_iast s0_87 (by decide) dX11_image_19 ob2 (hI3 _ _) ?_
    refine r_iinc dX11_image_20 (by decide) rfl rfl ?_
    refine r_goto (tgt := 2) dX11_image_23 (by decide) ?_
    exact H

theorem vX11_undo_0 {d : Nat} {Q : Int → ax_H → Prop} {I : ax_H} (H :
  ((I 85 2) ≠ 0 →
    RI d kX11_undo 12 [some (ax_r 85), some (ax_i 0)] I Q) ∧
  ((I 85 2) = 0 →
    Q (-3) I)) :
  RI d kX11_undo 0 [some (ax_r 85), none] I Q := by
  show Rn _ _ _ _ _ _ _ _
  refine r_aload_n dX11_undo_0 rfl ?_
  refine r_getI clX11 2 2 (by decide) s0_85 rfl rfl wX11_270 dX11_undo_1 ?_
  refine r_heapR (fun hI1 => ?_)
  refine r_if_ne (tgt := 10) dX11_undo_4 (by decide) (hI1 _ _) (fun c2 => ?_) (fun c2 => ?_)
  · have H := H.1 c2
    refine r_iconst dX11_undo_10 ?_
    refine r_istore_n dX11_undo_11 (by decide) rfl ?_
    exact H
  · have H := H.2 c2
    refine r_bipush (v := (-3)) dX11_undo_7 (by decide) ?_
    exact r_iret dX11_undo_9 rfl ⟨rfl, _, rfl, H⟩

theorem vX11_undo_12 {d : Nat} {Q : Int → ax_H → Prop} {x1 : Int} {I : ax_H} (r1 : ax_R x1) (H :
  (48 ≤ x1 →
    Q (I 86 18) I) ∧
  (¬ 48 ≤ x1 →
    (0 ≤ x1 ∧ x1 < 48) ∧
    (RI d kX11_undo 12 [some (ax_r 85), some (ax_i (x1 + 1))] (ax_st I 86 x1 (I 87 x1)) Q))) :
  RI d kX11_undo 12 [some (ax_r 85), some (ax_i x1)] I Q := by
  show Rn _ _ _ _ _ _ _ _
  refine r_iload_n dX11_undo_12 rfl ?_
  refine r_bipush (v := 48) dX11_undo_13 (by decide) ?_
  refine r_icmp_ge (tgt := 36) dX11_undo_15 (by decide) r1 (by decide) (fun c1 => ?_) (fun c1 => ?_)
  · have H := H.1 c1
    refine r_aload_n dX11_undo_36 rfl ?_
    refine r_getR clX11 0 (by decide) s0_85 rfl rfl wX11_11 dX11_undo_37 ?_
    refine r_bipush (v := 18) dX11_undo_40 (by decide) ?_
    refine r_iald s0_86 (by decide) dX11_undo_42 (by decide) ?_
    exact r_iret dX11_undo_43 rfl ⟨rfl, _, rfl, H⟩
  · have H := H.2 c1
    refine r_aload_n dX11_undo_18 rfl ?_
    refine r_getR clX11 0 (by decide) s0_85 rfl rfl wX11_11 dX11_undo_19 ?_
    refine r_iload_n dX11_undo_22 rfl ?_
    refine r_aload_n dX11_undo_23 rfl ?_
    refine r_getR clX11 1 (by decide) s0_85 rfl rfl wX11_15 dX11_undo_24 ?_
    refine r_iload_n dX11_undo_27 rfl ?_
    have ob2 := H.1
    have H := H.2
    refine r_iald s0_87 (by decide) dX11_undo_28 ob2 ?_
    refine r_heapR (fun hI3 => ?_)
    refine r_iast s0_86 (by decide) dX11_undo_29 ob2 (hI3 _ _) ?_
    refine r_iinc dX11_undo_30 (by decide) rfl rfl ?_
    refine r_goto (tgt := 12) dX11_undo_33 (by decide) ?_
    exact H

theorem vX11_count_0 {d : Nat} {Q : Int → ax_H → Prop} {x1 : Int} {I : ax_H} (r1 : ax_R x1) (H :
  (x1 = 0 →
    Q (I 86 18) I) ∧
  (x1 = 1 →
    RI d kX11_count 48 [some (ax_r 85), none, some (ax_i 0), some (ax_i 0)] I Q) ∧
  (x1 = 2 →
    Q (I 85 23) I) ∧
  (x1 = 3 →
    Q (I 85 27) I) ∧
  (x1 = 4 →
    Q (I 86 31) I) ∧
  ((x1 < 0 ∨ 4 < x1) →
    Q (-2) I)) :
  RI d kX11_count 0 [some (ax_r 85), some (ax_i x1), none, none] I Q := by
  show Rn _ _ _ _ _ _ _ _
  refine r_iload_n dX11_count_0 rfl ?_
  have hcs : x1 = 0 ∨ x1 = 1 ∨ x1 = 2 ∨ x1 = 3 ∨ x1 = 4 ∨ (x1 < 0 ∨ 4 < x1) := by omega
  rcases hcs with hc | hc | hc | hc | hc | hc
  · have H := H.1 hc
    refine r_tswIn (tgt := 36) dX11_count_1 r1 (by omega) (by omega) (off := 35) (by rw [hc]; rfl) (by decide) ?_
    refine r_aload_n dX11_count_36 rfl ?_
    refine r_getR clX11 0 (by decide) s0_85 rfl rfl wX11_11 dX11_count_37 ?_
    refine r_bipush (v := 18) dX11_count_40 (by decide) ?_
    refine r_iald s0_86 (by decide) dX11_count_42 (by decide) ?_
    exact r_iret dX11_count_43 rfl ⟨rfl, _, rfl, H⟩
  · have H := H.2.1 hc
    refine r_tswIn (tgt := 44) dX11_count_1 r1 (by omega) (by omega) (off := 43) (by rw [hc]; rfl) (by decide) ?_
    refine r_iconst dX11_count_44 ?_
    refine r_istore_n dX11_count_45 (by decide) rfl ?_
    refine r_iconst dX11_count_46 ?_
    refine r_istore_n dX11_count_47 (by decide) rfl ?_
    refine r_drop (ls2 := [some (ax_r 85), none, some (ax_i 0), some (ax_i 0)]) ?_ (ax_leS (ax_leN (ax_leS (ax_leS ax_leE))))
    exact H
  · have H := H.2.2.1 hc
    refine r_tswIn (tgt := 79) dX11_count_1 r1 (by omega) (by omega) (off := 78) (by rw [hc]; rfl) (by decide) ?_
    refine r_aload_n dX11_count_79 rfl ?_
    refine r_getI clX11 23 23 (by decide) s0_85 rfl rfl wX11_237 dX11_count_80 ?_
    exact r_iret dX11_count_83 rfl ⟨rfl, _, rfl, H⟩
  · have H := H.2.2.2.1 hc
    refine r_tswIn (tgt := 84) dX11_count_1 r1 (by omega) (by omega) (off := 83) (by rw [hc]; rfl) (by decide) ?_
    refine r_aload_n dX11_count_84 rfl ?_
    refine r_getI clX11 27 27 (by decide) s0_85 rfl rfl wX11_260 dX11_count_85 ?_
    exact r_iret dX11_count_88 rfl ⟨rfl, _, rfl, H⟩
  · have H := H.2.2.2.2.1 hc
    refine r_tswIn (tgt := 89) dX11_count_1 r1 (by omega) (by omega) (off := 88) (by rw [hc]; rfl) (by decide) ?_
    refine r_aload_n dX11_count_89 rfl ?_
    refine r_getR clX11 0 (by decide) s0_85 rfl rfl wX11_11 dX11_count_90 ?_
    refine r_bipush (v := 31) dX11_count_93 (by decide) ?_
    refine r_iald s0_86 (by decide) dX11_count_95 (by decide) ?_
    exact r_iret dX11_count_96 rfl ⟨rfl, _, rfl, H⟩
  · have H := H.2.2.2.2.2 hc
    refine r_tswOut (tgt := 97) dX11_count_1 r1 hc (by decide) ?_
    refine r_bipush (v := (-2)) dX11_count_97 (by decide) ?_
    exact r_iret dX11_count_99 rfl ⟨rfl, _, rfl, H⟩

theorem vX11_count_48 {d : Nat} {Q : Int → ax_H → Prop} {x2 : Int} {x3 : Int} {I : ax_H} (r3 : ax_R x3) (H :
  (18 ≤ x3 →
    Q x2 I) ∧
  (¬ 18 ≤ x3 →
    (0 ≤ x3 ∧ x3 < 48) ∧
    (((I 86 x3) = 0 →
      ∀ y2_70, y2_70 = (x2 + 0) →
      (RI d kX11_count 48 [some (ax_r 85), none, some (ax_i y2_70), some (ax_i (x3 + 1))] I Q)) ∧
    (¬ (I 86 x3) = 0 →
      ∀ y2_70, y2_70 = (x2 + 1) →
      (RI d kX11_count 48 [some (ax_r 85), none, some (ax_i y2_70), some (ax_i (x3 + 1))] I Q))))) :
  RI d kX11_count 48 [some (ax_r 85), none, some (ax_i x2), some (ax_i x3)] I Q := by
  show Rn _ _ _ _ _ _ _ _
  refine r_iload_n dX11_count_48 rfl ?_
  refine r_bipush (v := 18) dX11_count_49 (by decide) ?_
  refine r_icmp_ge (tgt := 77) dX11_count_51 (by decide) r3 (by decide) (fun c1 => ?_) (fun c1 => ?_)
  · have H := H.1 c1
    refine r_iload_n dX11_count_77 rfl ?_
    exact r_iret dX11_count_78 rfl ⟨rfl, _, rfl, H⟩
  · have H := H.2 c1
    refine r_iload_n dX11_count_54 rfl ?_
    refine r_aload_n dX11_count_55 rfl ?_
    refine r_getR clX11 0 (by decide) s0_85 rfl rfl wX11_11 dX11_count_56 ?_
    refine r_iload_n dX11_count_59 rfl ?_
    have ob2 := H.1
    have H := H.2
    refine r_iald s0_86 (by decide) dX11_count_60 ob2 ?_
    refine r_heapR (fun hI3 => ?_)
    refine r_if_eq (tgt := 68) dX11_count_61 (by decide) (hI3 _ _) (fun c4 => ?_) (fun c4 => ?_)
    · have H := H.1 c4
      refine r_iconst dX11_count_68 ?_
      refine r_iadd dX11_count_69 ?_
      refine r_name (fun y2_70 e5 => ?_)
      have H := H y2_70 e5
      refine r_istore_n dX11_count_70 (by decide) rfl ?_
      refine r_iinc dX11_count_71 (by decide) rfl rfl ?_
      refine r_goto (tgt := 48) dX11_count_74 (by decide) ?_
      exact H
    · have H := H.2 c4
      refine r_iconst dX11_count_64 ?_
      refine r_goto (tgt := 69) dX11_count_65 (by decide) ?_
      refine r_iadd dX11_count_69 ?_
      refine r_name (fun y2_70 e6 => ?_)
      have H := H y2_70 e6
      refine r_istore_n dX11_count_70 (by decide) rfl ?_
      refine r_iinc dX11_count_71 (by decide) rfl rfl ?_
      refine r_goto (tgt := 48) dX11_count_74 (by decide) ?_
      exact H
