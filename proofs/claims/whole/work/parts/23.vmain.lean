theorem vX10_set_0 {d : Nat} {Q : Int → ax_H → Prop} {x1 : Int} {x2 : Int} {x3 : Int} {x4 : Int} {I : ax_H} (H :
  cI (d + 1) kX10_isPower [ax_i x1, ax_i x2, ax_i x3] I (fun w2 I1 =>
  ax_R w2 ∧
  ((w2 ≠ 0 →
    cI (d + 1) kX10_isNumber [ax_i x4] I1 (fun w6 I5 =>
    ax_R w6 ∧
    ((w6 ≠ 0 →
      cI (d + 1) kX9_numberAt [ax_r 2, ax_i x1, ax_i x2, ax_i x3] I5 (fun w10 I9 =>
      cV (d + 1) kX1_change [ax_r 1, ax_i x1, ax_i x2, ax_i x3, ax_i x4] I9 (fun I11 =>
      Q w10 I11))) ∧
    (w6 = 0 →
      Q (-2) I5)))) ∧
  (w2 = 0 →
    Q (-1) I1)))) :
  RI (d + 2) kX10_set 0 [some (ax_r 0), some (ax_i x1), some (ax_i x2), some (ax_i x3), some (ax_i x4), none] I Q := by
  show Rn _ _ _ _ _ _ _ _
  refine r_iload_n dX10_set_0 rfl ?_
  refine r_iload_n dX10_set_1 rfl ?_
  refine r_iload_n dX10_set_2 rfl ?_
  refine r_cI (as := [ax_i x1, ax_i x2, ax_i x3]) (how_S jX10_isPower jSX10_isPower rfl wX10_87 dX10_set_3) rfl (Nat.le_refl _) (Nat.le_of_ble_eq_true rfl) (fun _ => Nat.le_of_ble_eq_true rfl) H (fun w2 I1 H => ?_)
  have ob3 := H.1
  have H := H.2
  refine r_if_ne (tgt := 11) dX10_set_6 (by decide) ob3 (fun c4 => ?_) (fun c4 => ?_)
  · have H := H.1 c4
    refine r_iload dX10_set_11 rfl ?_
    refine r_cI (as := [ax_i x4]) (how_S jX10_isNumber jSX10_isNumber rfl wX10_91 dX10_set_13) rfl (Nat.le_refl _) (Nat.le_of_ble_eq_true rfl) (fun _ => Nat.le_of_ble_eq_true rfl) H (fun w6 I5 H => ?_)
    have ob7 := H.1
    have H := H.2
    refine r_if_ne (tgt := 22) dX10_set_16 (by decide) ob7 (fun c8 => ?_) (fun c8 => ?_)
    · have H := H.1 c8
      refine r_aload_n dX10_set_22 rfl ?_
      refine r_getR clX10 0 (by decide) s0_0 rfl rfl wX10_14 dX10_set_23 ?_
      refine r_getR clX1 0 (by decide) s0_1 rfl rfl wX10_95 dX10_set_26 ?_
      refine r_iload_n dX10_set_29 rfl ?_
      refine r_iload_n dX10_set_30 rfl ?_
      refine r_iload_n dX10_set_31 rfl ?_
      refine r_cI (as := [ax_r 2, ax_i x1, ax_i x2, ax_i x3]) (how_V (ci := 9) jX9_numberAt jIX9_numberAt jVX9_numberAt rfl s0_2 (by decide) rfl rfl wX10_98 dX10_set_32) rfl (Nat.le_refl _) (Nat.le_of_ble_eq_true rfl) (fun _ => Nat.le_of_ble_eq_true rfl) H (fun w10 I9 H => ?_)
      refine r_istore dX10_set_35 (by decide) rfl ?_
      refine r_aload_n dX10_set_37 rfl ?_
      refine r_getR clX10 0 (by decide) s0_0 rfl rfl wX10_14 dX10_set_38 ?_
      refine r_iload_n dX10_set_41 rfl ?_
      refine r_iload_n dX10_set_42 rfl ?_
      refine r_iload_n dX10_set_43 rfl ?_
      refine r_iload dX10_set_44 rfl ?_
      refine r_cV (as := [ax_r 1, ax_i x1, ax_i x2, ax_i x3, ax_i x4]) (how_V (ci := 1) jX1_change jIX1_change jVX1_change rfl s0_1 (by decide) rfl rfl wX10_102 dX10_set_46) rfl (Nat.le_refl _) (Nat.le_of_ble_eq_true rfl) (fun _ => Nat.le_of_ble_eq_true rfl) H (fun I11 H => ?_)
      refine r_iload dX10_set_49 rfl ?_
      exact r_iret dX10_set_51 rfl ⟨rfl, _, rfl, H⟩
    · have H := H.2 c8
      refine r_bipush (v := (-2)) dX10_set_19 (by decide) ?_
      exact r_iret dX10_set_21 rfl ⟨rfl, _, rfl, H⟩
  · have H := H.2 c4
    refine r_iconst dX10_set_9 ?_
    exact r_iret dX10_set_10 rfl ⟨rfl, _, rfl, H⟩

theorem vX10_of_0 {d : Nat} {Q : Int → ax_H → Prop} {x1 : Int} {x2 : Int} {x3 : Int} {I : ax_H} (H :
  cI (d + 1) kX10_isPower [ax_i x1, ax_i x2, ax_i x3] I (fun w2 I1 =>
  ax_R w2 ∧
  ((w2 = 0 →
    Q (-1) I1) ∧
  (¬ w2 = 0 →
    cI (d + 1) kX9_numberAt [ax_r 2, ax_i x1, ax_i x2, ax_i x3] I1 (fun w6 I5 =>
    Q w6 I5))))) :
  RI (d + 2) kX10_of 0 [some (ax_r 0), some (ax_i x1), some (ax_i x2), some (ax_i x3)] I Q := by
  show Rn _ _ _ _ _ _ _ _
  refine r_iload_n dX10_of_0 rfl ?_
  refine r_iload_n dX10_of_1 rfl ?_
  refine r_iload_n dX10_of_2 rfl ?_
  refine r_cI (as := [ax_i x1, ax_i x2, ax_i x3]) (how_S jX10_isPower jSX10_isPower rfl wX10_87 dX10_of_3) rfl (Nat.le_refl _) (Nat.le_of_ble_eq_true rfl) (fun _ => Nat.le_of_ble_eq_true rfl) H (fun w2 I1 H => ?_)
  have ob3 := H.1
  have H := H.2
  refine r_if_eq (tgt := 25) dX10_of_6 (by decide) ob3 (fun c4 => ?_) (fun c4 => ?_)
  · have H := H.1 c4
    refine r_iconst dX10_of_25 ?_
    exact r_iret dX10_of_26 rfl ⟨rfl, _, rfl, H⟩
  · have H := H.2 c4
    refine r_aload_n dX10_of_9 rfl ?_
    refine r_getR clX10 0 (by decide) s0_0 rfl rfl wX10_14 dX10_of_10 ?_
    refine r_getR clX1 0 (by decide) s0_1 rfl rfl wX10_95 dX10_of_13 ?_
    refine r_iload_n dX10_of_16 rfl ?_
    refine r_iload_n dX10_of_17 rfl ?_
    refine r_iload_n dX10_of_18 rfl ?_
    refine r_cI (as := [ax_r 2, ax_i x1, ax_i x2, ax_i x3]) (how_V (ci := 9) jX9_numberAt jIX9_numberAt jVX9_numberAt rfl s0_2 (by decide) rfl rfl wX10_98 dX10_of_19) rfl (Nat.le_refl _) (Nat.le_of_ble_eq_true rfl) (fun _ => Nat.le_of_ble_eq_true rfl) H (fun w6 I5 H => ?_)
    refine r_goto (tgt := 26) dX10_of_22 (by decide) ?_
    exact r_iret dX10_of_26 rfl ⟨rfl, _, rfl, H⟩

theorem vX10_feed_0 {d : Nat} {Q : Int → ax_H → Prop} {x1 : Int} {I : ax_H} (r1 : ax_R x1) (H :
  (x1 < 1 →
    Q (-2) I) ∧
  (¬ x1 < 1 →
    (x1 ≤ 127 →
      ((I 70 1) < 60 →
        cV d kX0_append [ax_r 70, ax_i x1] I (fun I5 =>
        Q (I5 70 1) I5)) ∧
      (¬ (I 70 1) < 60 →
        Q (-4) I)) ∧
    (¬ x1 ≤ 127 →
      Q (-2) I))) :
  RI (d + 1) kX10_feed 0 [some (ax_r 0), some (ax_i x1)] I Q := by
  show Rn _ _ _ _ _ _ _ _
  refine r_iload_n dX10_feed_0 rfl ?_
  refine r_iconst dX10_feed_1 ?_
  refine r_icmp_lt (tgt := 11) dX10_feed_2 (by decide) r1 (by decide) (fun c1 => ?_) (fun c1 => ?_)
  · have H := H.1 c1
    refine r_bipush (v := (-2)) dX10_feed_11 (by decide) ?_
    exact r_iret dX10_feed_13 rfl ⟨rfl, _, rfl, H⟩
  · have H := H.2 c1
    refine r_iload_n dX10_feed_5 rfl ?_
    refine r_bipush (v := 127) dX10_feed_6 (by decide) ?_
    refine r_icmp_le (tgt := 14) dX10_feed_8 (by decide) r1 (by decide) (fun c2 => ?_) (fun c2 => ?_)
    · have H := H.1 c2
      refine r_aload_n dX10_feed_14 rfl ?_
      refine r_getR clX10 6 (by decide) s0_0 rfl rfl wX10_52 dX10_feed_15 ?_
      refine r_getI clX0 1 1 (by decide) s0_70 rfl rfl wX10_106 dX10_feed_18 ?_
      refine r_bipush (v := 60) dX10_feed_21 (by decide) ?_
      refine r_heapR (fun hI3 => ?_)
      refine r_icmp_lt (tgt := 29) dX10_feed_23 (by decide) (hI3 _ _) (by decide) (fun c4 => ?_) (fun c4 => ?_)
      · have H := H.1 c4
        refine r_aload_n dX10_feed_29 rfl ?_
        refine r_getR clX10 6 (by decide) s0_0 rfl rfl wX10_52 dX10_feed_30 ?_
        refine r_iload_n dX10_feed_33 rfl ?_
        refine r_cV (as := [ax_r 70, ax_i x1]) (how_V (ci := 0) jX0_append jIX0_append jVX0_append rfl s0_70 (by decide) rfl rfl wX10_110 dX10_feed_34) rfl (Nat.le_refl _) (Nat.le_of_ble_eq_true rfl) (fun _ => Nat.le_of_ble_eq_true rfl) H (fun I5 H => ?_)
        refine r_aload_n dX10_feed_37 rfl ?_
        refine r_getR clX10 6 (by decide) s0_0 rfl rfl wX10_52 dX10_feed_38 ?_
        refine r_getI clX0 1 1 (by decide) s0_70 rfl rfl wX10_106 dX10_feed_41 ?_
        exact r_iret dX10_feed_44 rfl ⟨rfl, _, rfl, H⟩
      · have H := H.2 c4
        refine r_bipush (v := (-4)) dX10_feed_26 (by decide) ?_
        exact r_iret dX10_feed_28 rfl ⟨rfl, _, rfl, H⟩
    · have H := H.2 c2
      refine r_bipush (v := (-2)) dX10_feed_11 (by decide) ?_
      exact r_iret dX10_feed_13 rfl ⟨rfl, _, rfl, H⟩

theorem vX10_table_0 {d : Nat} {Q : Int → ax_H → Prop} {x1 : Int} {I : ax_H} (H :
  cI (d + 3) kX10_isTable [ax_i x1] I (fun w2 I1 =>
  ax_R w2 ∧
  ((w2 ≠ 0 →
    cI (d + 3) kX0_readTerms [ax_r 70, ax_r 77] I1 (fun w6 I5 =>
    ax_R w6 ∧
    ((w6 < 0 →
      Q w6 (ax_st I5 70 1 0)) ∧
    (¬ w6 < 0 →
      cV (d + 3) kX1_changeAll [ax_r 1, ax_i x1, ax_r 77] (ax_st I5 70 1 0) (fun I9 =>
      Q w6 I9))))) ∧
  (w2 = 0 →
    Q (-1) I1)))) :
  RI (d + 4) kX10_table 0 [some (ax_r 0), some (ax_i x1), none] I Q := by
  show Rn _ _ _ _ _ _ _ _
  refine r_iload_n dX10_table_0 rfl ?_
  refine r_cI (as := [ax_i x1]) (how_S jX10_isTable jSX10_isTable rfl wX10_114 dX10_table_1) rfl (Nat.le_refl _) (Nat.le_of_ble_eq_true rfl) (fun _ => Nat.le_of_ble_eq_true rfl) H (fun w2 I1 H => ?_)
  have ob3 := H.1
  have H := H.2
  refine r_if_ne (tgt := 9) dX10_table_4 (by decide) ob3 (fun c4 => ?_) (fun c4 => ?_)
  · have H := H.1 c4
    refine r_aload_n dX10_table_9 rfl ?_
    refine r_getR clX10 6 (by decide) s0_0 rfl rfl wX10_52 dX10_table_10 ?_
    refine r_aload_n dX10_table_13 rfl ?_
    refine r_getR clX10 9 (by decide) s0_0 rfl rfl wX10_66 dX10_table_14 ?_
    refine r_cI (as := [ax_r 70, ax_r 77]) (how_V (ci := 0) jX0_readTerms jIX0_readTerms jVX0_readTerms rfl s0_70 (by decide) rfl rfl wX10_117 dX10_table_17) rfl (Nat.le_refl _) (Nat.le_of_ble_eq_true rfl) (fun _ => Nat.le_of_ble_eq_true rfl) H (fun w6 I5 H => ?_)
    refine r_istore_n dX10_table_20 (by decide) rfl ?_
    refine r_aload_n dX10_table_21 rfl ?_
    refine r_getR clX10 6 (by decide) s0_0 rfl rfl wX10_52 dX10_table_22 ?_
    refine r_iconst dX10_table_25 ?_
    refine r_putI clX0 1 1 (by decide) s0_70 rfl rfl rfl (by decide) rfl rfl wX10_106 dX10_table_26 ?_
    refine r_iload_n dX10_table_29 rfl ?_
    have ob7 := H.1
    have H := H.2
    refine r_if_lt (tgt := 45) dX10_table_30 (by decide) ob7 (fun c8 => ?_) (fun c8 => ?_)
    · have H := H.1 c8
      refine r_iload_n dX10_table_45 rfl ?_
      exact r_iret dX10_table_46 rfl ⟨rfl, _, rfl, H⟩
    · have H := H.2 c8
      refine r_aload_n dX10_table_33 rfl ?_
      refine r_getR clX10 0 (by decide) s0_0 rfl rfl wX10_14 dX10_table_34 ?_
      refine r_iload_n dX10_table_37 rfl ?_
      refine r_aload_n dX10_table_38 rfl ?_
      refine r_getR clX10 9 (by decide) s0_0 rfl rfl wX10_66 dX10_table_39 ?_
      refine r_cV (as := [ax_r 1, ax_i x1, ax_r 77]) (how_V (ci := 1) jX1_changeAll jIX1_changeAll jVX1_changeAll rfl s0_1 (by decide) rfl rfl wX10_121 dX10_table_42) rfl (Nat.le_refl _) (Nat.le_of_ble_eq_true rfl) (fun _ => Nat.le_of_ble_eq_true rfl) H (fun I9 H => ?_)
      refine r_iload_n dX10_table_45 rfl ?_
      exact r_iret dX10_table_46 rfl ⟨rfl, _, rfl, H⟩
  · have H := H.2 c4
    refine r_iconst dX10_table_7 ?_
    exact r_iret dX10_table_8 rfl ⟨rfl, _, rfl, H⟩

theorem vX10_value_0 {d : Nat} {Q : Int → ax_H → Prop} {x1 : Int} {x2 : Int} {x3 : Int} {I : ax_H} (H :
  cI (d + 2) kX10_isTable [ax_i x1] I (fun w2 I1 =>
  ax_R w2 ∧
  ((w2 = 0 →
    Q (-1) I1) ∧
  (¬ w2 = 0 →
    cI (d + 2) kX10_isSpot [ax_i x2, ax_i x3] I1 (fun w6 I5 =>
    ax_R w6 ∧
    ((w6 = 0 →
      Q (-1) I5) ∧
    (¬ w6 = 0 →
      cI (d + 2) kX9_valueAt [ax_r 2, ax_i x1, ax_i x2, ax_i x3] I5 (fun w10 I9 =>
      Q w10 I9)))))))) :
  RI (d + 3) kX10_value 0 [some (ax_r 0), some (ax_i x1), some (ax_i x2), some (ax_i x3)] I Q := by
  show Rn _ _ _ _ _ _ _ _
  refine r_iload_n dX10_value_0 rfl ?_
  refine r_cI (as := [ax_i x1]) (how_S jX10_isTable jSX10_isTable rfl wX10_114 dX10_value_1) rfl (Nat.le_refl _) (Nat.le_of_ble_eq_true rfl) (fun _ => Nat.le_of_ble_eq_true rfl) H (fun w2 I1 H => ?_)
  have ob3 := H.1
  have H := H.2
  refine r_if_eq (tgt := 31) dX10_value_4 (by decide) ob3 (fun c4 => ?_) (fun c4 => ?_)
  · have H := H.1 c4
    refine r_iconst dX10_value_31 ?_
    exact r_iret dX10_value_32 rfl ⟨rfl, _, rfl, H⟩
  · have H := H.2 c4
    refine r_iload_n dX10_value_7 rfl ?_
    refine r_iload_n dX10_value_8 rfl ?_
    refine r_cI (as := [ax_i x2, ax_i x3]) (how_S jX10_isSpot jSX10_isSpot rfl wX10_125 dX10_value_9) rfl (Nat.le_refl _) (Nat.le_of_ble_eq_true rfl) (fun _ => Nat.le_of_ble_eq_true rfl) H (fun w6 I5 H => ?_)
    have ob7 := H.1
    have H := H.2
    refine r_if_eq (tgt := 31) dX10_value_12 (by decide) ob7 (fun c8 => ?_) (fun c8 => ?_)
    · have H := H.1 c8
      refine r_iconst dX10_value_31 ?_
      exact r_iret dX10_value_32 rfl ⟨rfl, _, rfl, H⟩
    · have H := H.2 c8
      refine r_aload_n dX10_value_15 rfl ?_
      refine r_getR clX10 0 (by decide) s0_0 rfl rfl wX10_14 dX10_value_16 ?_
      refine r_getR clX1 0 (by decide) s0_1 rfl rfl wX10_95 dX10_value_19 ?_
      refine r_iload_n dX10_value_22 rfl ?_
      refine r_iload_n dX10_value_23 rfl ?_
      refine r_iload_n dX10_value_24 rfl ?_
      refine r_cI (as := [ax_r 2, ax_i x1, ax_i x2, ax_i x3]) (how_V (ci := 9) jX9_valueAt jIX9_valueAt jVX9_valueAt rfl s0_2 (by decide) rfl rfl wX10_129 dX10_value_25) rfl (Nat.le_refl _) (Nat.le_of_ble_eq_true rfl) (fun _ => Nat.le_of_ble_eq_true rfl) H (fun w10 I9 H => ?_)
      refine r_goto (tgt := 32) dX10_value_28 (by decide) ?_
      exact r_iret dX10_value_32 rfl ⟨rfl, _, rfl, H⟩

theorem vX10_kept_0 {d : Nat} {Q : Int → ax_H → Prop} {x1 : Int} {x2 : Int} {I : ax_H} (H :
  cI (d + 3) kX10_isSpot [ax_i x1, ax_i x2] I (fun w2 I1 =>
  ax_R w2 ∧
  ((w2 = 0 →
    Q (-1) I1) ∧
  (¬ w2 = 0 →
    cI (d + 3) kX9_quotientAt [ax_r 2, ax_i x1, ax_i x2] I1 (fun w6 I5 =>
    Q w6 I5))))) :
  RI (d + 4) kX10_kept 0 [some (ax_r 0), some (ax_i x1), some (ax_i x2)] I Q := by
  show Rn _ _ _ _ _ _ _ _
  refine r_iload_n dX10_kept_0 rfl ?_
  refine r_iload_n dX10_kept_1 rfl ?_
  refine r_cI (as := [ax_i x1, ax_i x2]) (how_S jX10_isSpot jSX10_isSpot rfl wX10_125 dX10_kept_2) rfl (Nat.le_refl _) (Nat.le_of_ble_eq_true rfl) (fun _ => Nat.le_of_ble_eq_true rfl) H (fun w2 I1 H => ?_)
  have ob3 := H.1
  have H := H.2
  refine r_if_eq (tgt := 23) dX10_kept_5 (by decide) ob3 (fun c4 => ?_) (fun c4 => ?_)
  · have H := H.1 c4
    refine r_iconst dX10_kept_23 ?_
    exact r_iret dX10_kept_24 rfl ⟨rfl, _, rfl, H⟩
  · have H := H.2 c4
    refine r_aload_n dX10_kept_8 rfl ?_
    refine r_getR clX10 0 (by decide) s0_0 rfl rfl wX10_14 dX10_kept_9 ?_
    refine r_getR clX1 0 (by decide) s0_1 rfl rfl wX10_95 dX10_kept_12 ?_
    refine r_iload_n dX10_kept_15 rfl ?_
    refine r_iload_n dX10_kept_16 rfl ?_
    refine r_cI (as := [ax_r 2, ax_i x1, ax_i x2]) (how_V (ci := 9) jX9_quotientAt jIX9_quotientAt jVX9_quotientAt rfl s0_2 (by decide) rfl rfl wX10_132 dX10_kept_17) rfl (Nat.le_refl _) (Nat.le_of_ble_eq_true rfl) (fun _ => Nat.le_of_ble_eq_true rfl) H (fun w6 I5 H => ?_)
    refine r_goto (tgt := 24) dX10_kept_20 (by decide) ?_
    exact r_iret dX10_kept_24 rfl ⟨rfl, _, rfl, H⟩

theorem vX10_swap_0 {d : Nat} {Q : Int → ax_H → Prop} {x1 : Int} {x2 : Int} {x3 : Int} {I : ax_H} (r1 : ax_R x1) (H :
  cI (d + 3) kX10_isAxis [ax_i x1] I (fun w2 I1 =>
  ax_R w2 ∧
  ((w2 = 0 →
    Q (-1) I1) ∧
  (¬ w2 = 0 →
    cI (d + 3) kX10_isSpot [ax_i x2, ax_i x3] I1 (fun w6 I5 =>
    ax_R w6 ∧
    ((w6 ≠ 0 →
      (x1 ≠ 0 →
        cI (d + 3) kX1_swapOf [ax_r 1, ax_i 1, ax_i x3, ax_i x2] I5 (fun w11 I10 =>
        Q w11 I10)) ∧
      (x1 = 0 →
        cI (d + 3) kX1_swapOf [ax_r 1, ax_i 0, ax_i x2, ax_i x3] I5 (fun w13 I12 =>
        Q w13 I12))) ∧
    (w6 = 0 →
      Q (-1) I5))))))) :
  RI (d + 4) kX10_swap 0 [some (ax_r 0), some (ax_i x1), some (ax_i x2), some (ax_i x3)] I Q := by
  show Rn _ _ _ _ _ _ _ _
  refine r_iload_n dX10_swap_0 rfl ?_
  refine r_cI (as := [ax_i x1]) (how_S jX10_isAxis jSX10_isAxis rfl wX10_136 dX10_swap_1) rfl (Nat.le_refl _) (Nat.le_of_ble_eq_true rfl) (fun _ => Nat.le_of_ble_eq_true rfl) H (fun w2 I1 H => ?_)
  have ob3 := H.1
  have H := H.2
  refine r_if_eq (tgt := 15) dX10_swap_4 (by decide) ob3 (fun c4 => ?_) (fun c4 => ?_)
  · have H := H.1 c4
    refine r_iconst dX10_swap_15 ?_
    exact r_iret dX10_swap_16 rfl ⟨rfl, _, rfl, H⟩
  · have H := H.2 c4
    refine r_iload_n dX10_swap_7 rfl ?_
    refine r_iload_n dX10_swap_8 rfl ?_
    refine r_cI (as := [ax_i x2, ax_i x3]) (how_S jX10_isSpot jSX10_isSpot rfl wX10_125 dX10_swap_9) rfl (Nat.le_refl _) (Nat.le_of_ble_eq_true rfl) (fun _ => Nat.le_of_ble_eq_true rfl) H (fun w6 I5 H => ?_)
    have ob7 := H.1
    have H := H.2
    refine r_if_ne (tgt := 17) dX10_swap_12 (by decide) ob7 (fun c8 => ?_) (fun c8 => ?_)
    · have H := H.1 c8
      refine r_iload_n dX10_swap_17 rfl ?_
      refine r_if_ne (tgt := 34) dX10_swap_18 (by decide) r1 (fun c9 => ?_) (fun c9 => ?_)
      · have H := H.1 c9
        refine r_aload_n dX10_swap_34 rfl ?_
        refine r_getR clX10 0 (by decide) s0_0 rfl rfl wX10_14 dX10_swap_35 ?_
        refine r_iconst dX10_swap_38 ?_
        refine r_iload_n dX10_swap_39 rfl ?_
        refine r_iload_n dX10_swap_40 rfl ?_
        refine r_cI (as := [ax_r 1, ax_i 1, ax_i x3, ax_i x2]) (how_V (ci := 1) jX1_swapOf jIX1_swapOf jVX1_swapOf rfl s0_1 (by decide) rfl rfl wX10_139 dX10_swap_41) rfl (Nat.le_refl _) (Nat.le_of_ble_eq_true rfl) (fun _ => Nat.le_of_ble_eq_true rfl) H (fun w11 I10 H => ?_)
        exact r_iret dX10_swap_44 rfl ⟨rfl, _, rfl, H⟩
      · have H := H.2 c9
        refine r_aload_n dX10_swap_21 rfl ?_
        refine r_getR clX10 0 (by decide) s0_0 rfl rfl wX10_14 dX10_swap_22 ?_
        refine r_iconst dX10_swap_25 ?_
        refine r_iload_n dX10_swap_26 rfl ?_
        refine r_iload_n dX10_swap_27 rfl ?_
        refine r_cI (as := [ax_r 1, ax_i 0, ax_i x2, ax_i x3]) (how_V (ci := 1) jX1_swapOf jIX1_swapOf jVX1_swapOf rfl s0_1 (by decide) rfl rfl wX10_139 dX10_swap_28) rfl (Nat.le_refl _) (Nat.le_of_ble_eq_true rfl) (fun _ => Nat.le_of_ble_eq_true rfl) H (fun w13 I12 H => ?_)
        refine r_goto (tgt := 44) dX10_swap_31 (by decide) ?_
        exact r_iret dX10_swap_44 rfl ⟨rfl, _, rfl, H⟩
    · have H := H.2 c8
      refine r_iconst dX10_swap_15 ?_
      exact r_iret dX10_swap_16 rfl ⟨rfl, _, rfl, H⟩

theorem vX10_row_0 {d : Nat} {Q : Int → ax_H → Prop} {x1 : Int} {x2 : Int} {x3 : Int} {I : ax_H} (r3 : ax_R x3) (H :
  cI (d + 3) kX10_isAxis [ax_i x1] I (fun w2 I1 =>
  ax_R w2 ∧
  ((w2 = 0 →
    Q (-1) I1) ∧
  (¬ w2 = 0 →
    cI (d + 3) kX10_isCoordinate [ax_i x2] I1 (fun w6 I5 =>
    ax_R w6 ∧
    ((w6 = 0 →
      Q (-1) I5) ∧
    (¬ w6 = 0 →
      (x3 < 0 →
        Q (-1) I5) ∧
      (¬ x3 < 0 →
        (x3 ≤ 2 →
          cI (d + 3) kX1_rowOf [ax_r 1, ax_i x1, ax_i x2, ax_i x3] I5 (fun w12 I11 =>
          Q w12 I11)) ∧
        (¬ x3 ≤ 2 →
          Q (-1) I5))))))))) :
  RI (d + 4) kX10_row 0 [some (ax_r 0), some (ax_i x1), some (ax_i x2), some (ax_i x3)] I Q := by
  show Rn _ _ _ _ _ _ _ _
  refine r_iload_n dX10_row_0 rfl ?_
  refine r_cI (as := [ax_i x1]) (how_S jX10_isAxis jSX10_isAxis rfl wX10_136 dX10_row_1) rfl (Nat.le_refl _) (Nat.le_of_ble_eq_true rfl) (fun _ => Nat.le_of_ble_eq_true rfl) H (fun w2 I1 H => ?_)
  have ob3 := H.1
  have H := H.2
  refine r_if_eq (tgt := 23) dX10_row_4 (by decide) ob3 (fun c4 => ?_) (fun c4 => ?_)
  · have H := H.1 c4
    refine r_iconst dX10_row_23 ?_
    exact r_iret dX10_row_24 rfl ⟨rfl, _, rfl, H⟩
  · have H := H.2 c4
    refine r_iload_n dX10_row_7 rfl ?_
    refine r_cI (as := [ax_i x2]) (how_S jX10_isCoordinate jSX10_isCoordinate rfl wX10_142 dX10_row_8) rfl (Nat.le_refl _) (Nat.le_of_ble_eq_true rfl) (fun _ => Nat.le_of_ble_eq_true rfl) H (fun w6 I5 H => ?_)
    have ob7 := H.1
    have H := H.2
    refine r_if_eq (tgt := 23) dX10_row_11 (by decide) ob7 (fun c8 => ?_) (fun c8 => ?_)
    · have H := H.1 c8
      refine r_iconst dX10_row_23 ?_
      exact r_iret dX10_row_24 rfl ⟨rfl, _, rfl, H⟩
    · have H := H.2 c8
      refine r_iload_n dX10_row_14 rfl ?_
      refine r_if_lt (tgt := 23) dX10_row_15 (by decide) r3 (fun c9 => ?_) (fun c9 => ?_)
      · have H := H.1 c9
        refine r_iconst dX10_row_23 ?_
        exact r_iret dX10_row_24 rfl ⟨rfl, _, rfl, H⟩
      · have H := H.2 c9
        refine r_iload_n dX10_row_18 rfl ?_
        refine r_iconst dX10_row_19 ?_
        refine r_icmp_le (tgt := 25) dX10_row_20 (by decide) r3 (by decide) (fun c10 => ?_) (fun c10 => ?_)
        · have H := H.1 c10
          refine r_aload_n dX10_row_25 rfl ?_
          refine r_getR clX10 0 (by decide) s0_0 rfl rfl wX10_14 dX10_row_26 ?_
          refine r_iload_n dX10_row_29 rfl ?_
          refine r_iload_n dX10_row_30 rfl ?_
          refine r_iload_n dX10_row_31 rfl ?_
          refine r_cI (as := [ax_r 1, ax_i x1, ax_i x2, ax_i x3]) (how_V (ci := 1) jX1_rowOf jIX1_rowOf jVX1_rowOf rfl s0_1 (by decide) rfl rfl wX10_145 dX10_row_32) rfl (Nat.le_refl _) (Nat.le_of_ble_eq_true rfl) (fun _ => Nat.le_of_ble_eq_true rfl) H (fun w12 I11 H => ?_)
          exact r_iret dX10_row_35 rfl ⟨rfl, _, rfl, H⟩
        · have H := H.2 c10
          refine r_iconst dX10_row_23 ?_
          exact r_iret dX10_row_24 rfl ⟨rfl, _, rfl, H⟩

theorem vX10_pinched_0 {d : Nat} {Q : Int → ax_H → Prop} {x1 : Int} {I : ax_H} (H :
  cI (d + 3) kX10_isAxis [ax_i x1] I (fun w2 I1 =>
  ax_R w2 ∧
  ((w2 = 0 →
    Q (-9223372036854775808) I1) ∧
  (¬ w2 = 0 →
    cJ (d + 3) kX1_pinchedLines [ax_r 1, ax_i x1] I1 (fun w6 I5 =>
    Q w6 I5))))) :
  RJ (d + 4) kX10_pinched 0 [some (ax_r 0), some (ax_i x1)] I Q := by
  show Rn _ _ _ _ _ _ _ _
  refine r_iload_n dX10_pinched_0 rfl ?_
  refine r_cI (as := [ax_i x1]) (how_S jX10_isAxis jSX10_isAxis rfl wX10_136 dX10_pinched_1) rfl (Nat.le_refl _) (Nat.le_of_ble_eq_true rfl) (fun _ => Nat.le_of_ble_eq_true rfl) H (fun w2 I1 H => ?_)
  have ob3 := H.1
  have H := H.2
  refine r_if_eq (tgt := 18) dX10_pinched_4 (by decide) ob3 (fun c4 => ?_) (fun c4 => ?_)
  · have H := H.1 c4
    refine r_ldc2 (v := (-9223372036854775808)) dX10_pinched_18 wX10_152 ?_
    exact r_lret dX10_pinched_21 rfl ⟨rfl, _, rfl, H⟩
  · have H := H.2 c4
    refine r_aload_n dX10_pinched_7 rfl ?_
    refine r_getR clX10 0 (by decide) s0_0 rfl rfl wX10_14 dX10_pinched_8 ?_
    refine r_iload_n dX10_pinched_11 rfl ?_
    refine r_cJ (as := [ax_r 1, ax_i x1]) (how_V (ci := 1) jX1_pinchedLines jIX1_pinchedLines jVX1_pinchedLines rfl s0_1 (by decide) rfl rfl wX10_148 dX10_pinched_12) rfl (Nat.le_refl _) (Nat.le_of_ble_eq_true rfl) (fun _ => Nat.le_of_ble_eq_true rfl) H (fun w6 I5 H => ?_)
    refine r_goto (tgt := 21) dX10_pinched_15 (by decide) ?_
    exact r_lret dX10_pinched_21 rfl ⟨rfl, _, rfl, H⟩

theorem vX10_behind_0 {d : Nat} {Q : Int → ax_H → Prop} {x1 : Int} {x2 : Int} {x3 : Int} {I : ax_H} (r3 : ax_R x3) (H :
  cI (d + 4) kX10_isSpot [ax_i x1, ax_i x2] I (fun w2 I1 =>
  ax_R w2 ∧
  ((w2 ≠ 0 →
    (x3 < (-99) →
      Q (-2) I1) ∧
    (¬ x3 < (-99) →
      (x3 ≤ 99 →
        ∀ y4_31, y4_31 = ((x1 * 32) + x2) →
        ((0 ≤ x3 →
          cI (d + 4) kX1_walk [ax_r 1, ax_i y4_31, ax_i x3] I1 (fun w10 I9 =>
          Q w10 I9)) ∧
        (¬ 0 ≤ x3 →
          cI (d + 4) kX1_walkBack [ax_r 1, ax_i y4_31, ax_i (-x3)] I1 (fun w12 I11 =>
          Q w12 I11)))) ∧
      (¬ x3 ≤ 99 →
        Q (-2) I1))) ∧
  (w2 = 0 →
    Q (-1) I1)))) :
  RI (d + 5) kX10_behind 0 [some (ax_r 0), some (ax_i x1), some (ax_i x2), some (ax_i x3), none] I Q := by
  show Rn _ _ _ _ _ _ _ _
  refine r_iload_n dX10_behind_0 rfl ?_
  refine r_iload_n dX10_behind_1 rfl ?_
  refine r_cI (as := [ax_i x1, ax_i x2]) (how_S jX10_isSpot jSX10_isSpot rfl wX10_125 dX10_behind_2) rfl (Nat.le_refl _) (Nat.le_of_ble_eq_true rfl) (fun _ => Nat.le_of_ble_eq_true rfl) H (fun w2 I1 H => ?_)
  have ob3 := H.1
  have H := H.2
  refine r_if_ne (tgt := 10) dX10_behind_5 (by decide) ob3 (fun c4 => ?_) (fun c4 => ?_)
  · have H := H.1 c4
    refine r_iload_n dX10_behind_10 rfl ?_
    refine r_bipush (v := (-99)) dX10_behind_11 (by decide) ?_
    refine r_icmp_lt (tgt := 22) dX10_behind_13 (by decide) r3 (by decide) (fun c5 => ?_) (fun c5 => ?_)
    · have H := H.1 c5
      refine r_bipush (v := (-2)) dX10_behind_22 (by decide) ?_
      exact r_iret dX10_behind_24 rfl ⟨rfl, _, rfl, H⟩
    · have H := H.2 c5
      refine r_iload_n dX10_behind_16 rfl ?_
      refine r_bipush (v := 99) dX10_behind_17 (by decide) ?_
      refine r_icmp_le (tgt := 25) dX10_behind_19 (by decide) r3 (by decide) (fun c6 => ?_) (fun c6 => ?_)
      · have H := H.1 c6
        refine r_iload_n dX10_behind_25 rfl ?_
        refine r_bipush (v := 32) dX10_behind_26 (by decide) ?_
        refine r_imul dX10_behind_28 ?_
        refine r_iload_n dX10_behind_29 rfl ?_
        refine r_iadd dX10_behind_30 ?_
        refine r_name (fun y4_31 e7 => ?_)
        have H := H y4_31 e7
        refine r_istore dX10_behind_31 (by decide) rfl ?_
        refine r_iload_n dX10_behind_33 rfl ?_
        refine r_if_ge (tgt := 51) dX10_behind_34 (by decide) r3 (fun c8 => ?_) (fun c8 => ?_)
        · have H := H.1 c8
          refine r_aload_n dX10_behind_51 rfl ?_
          refine r_getR clX10 0 (by decide) s0_0 rfl rfl wX10_14 dX10_behind_52 ?_
          refine r_iload dX10_behind_55 rfl ?_
          refine r_iload_n dX10_behind_57 rfl ?_
          refine r_cI (as := [ax_r 1, ax_i y4_31, ax_i x3]) (how_V (ci := 1) jX1_walk jIX1_walk jVX1_walk rfl s0_1 (by decide) rfl rfl wX10_157 dX10_behind_58) rfl (Nat.le_refl _) (Nat.le_of_ble_eq_true rfl) (fun _ => Nat.le_of_ble_eq_true rfl) H (fun w10 I9 H => ?_)
          exact r_iret dX10_behind_61 rfl ⟨rfl, _, rfl, H⟩
        · have H := H.2 c8
          refine r_aload_n dX10_behind_37 rfl ?_
          refine r_getR clX10 0 (by decide) s0_0 rfl rfl wX10_14 dX10_behind_38 ?_
          refine r_iload dX10_behind_41 rfl ?_
          refine r_iload_n dX10_behind_43 rfl ?_
          refine r_ineg dX10_behind_44 ?_
          refine r_cI (as := [ax_r 1, ax_i y4_31, ax_i (-x3)]) (how_V (ci := 1) jX1_walkBack jIX1_walkBack jVX1_walkBack rfl s0_1 (by decide) rfl rfl wX10_154 dX10_behind_45) rfl (Nat.le_refl _) (Nat.le_of_ble_eq_true rfl) (fun _ => Nat.le_of_ble_eq_true rfl) H (fun w12 I11 H => ?_)
          refine r_goto (tgt := 61) dX10_behind_48 (by decide) ?_
          exact r_iret dX10_behind_61 rfl ⟨rfl, _, rfl, H⟩
      · have H := H.2 c6
        refine r_bipush (v := (-2)) dX10_behind_22 (by decide) ?_
        exact r_iret dX10_behind_24 rfl ⟨rfl, _, rfl, H⟩
  · have H := H.2 c4
    refine r_iconst dX10_behind_8 ?_
    exact r_iret dX10_behind_9 rfl ⟨rfl, _, rfl, H⟩

theorem vX10_period_0 {d : Nat} {Q : Int → ax_H → Prop} {x1 : Int} {x2 : Int} {I : ax_H} (H :
  cI (d + 4) kX10_isSpot [ax_i x1, ax_i x2] I (fun w2 I1 =>
  ax_R w2 ∧
  ((w2 = 0 →
    Q (-1) I1) ∧
  (¬ w2 = 0 →
    cI (d + 4) kX1_periodOf [ax_r 1, ax_i ((x1 * 32) + x2)] I1 (fun w6 I5 =>
    Q w6 I5))))) :
  RI (d + 5) kX10_period 0 [some (ax_r 0), some (ax_i x1), some (ax_i x2)] I Q := by
  show Rn _ _ _ _ _ _ _ _
  refine r_iload_n dX10_period_0 rfl ?_
  refine r_iload_n dX10_period_1 rfl ?_
  refine r_cI (as := [ax_i x1, ax_i x2]) (how_S jX10_isSpot jSX10_isSpot rfl wX10_125 dX10_period_2) rfl (Nat.le_refl _) (Nat.le_of_ble_eq_true rfl) (fun _ => Nat.le_of_ble_eq_true rfl) H (fun w2 I1 H => ?_)
  have ob3 := H.1
  have H := H.2
  refine r_if_eq (tgt := 24) dX10_period_5 (by decide) ob3 (fun c4 => ?_) (fun c4 => ?_)
  · have H := H.1 c4
    refine r_iconst dX10_period_24 ?_
    exact r_iret dX10_period_25 rfl ⟨rfl, _, rfl, H⟩
  · have H := H.2 c4
    refine r_aload_n dX10_period_8 rfl ?_
    refine r_getR clX10 0 (by decide) s0_0 rfl rfl wX10_14 dX10_period_9 ?_
    refine r_iload_n dX10_period_12 rfl ?_
    refine r_bipush (v := 32) dX10_period_13 (by decide) ?_
    refine r_imul dX10_period_15 ?_
    refine r_iload_n dX10_period_16 rfl ?_
    refine r_iadd dX10_period_17 ?_
    refine r_cI (as := [ax_r 1, ax_i ((x1 * 32) + x2)]) (how_V (ci := 1) jX1_periodOf jIX1_periodOf jVX1_periodOf rfl s0_1 (by decide) rfl rfl wX10_160 dX10_period_18) rfl (Nat.le_refl _) (Nat.le_of_ble_eq_true rfl) (fun _ => Nat.le_of_ble_eq_true rfl) H (fun w6 I5 H => ?_)
    refine r_goto (tgt := 25) dX10_period_21 (by decide) ?_
    exact r_iret dX10_period_25 rfl ⟨rfl, _, rfl, H⟩

theorem vX10_fibre_0 {d : Nat} {Q : Int → ax_H → Prop} {x1 : Int} {x2 : Int} {I : ax_H} (H :
  cI (d + 3) kX10_isCoordinate [ax_i x1] I (fun w2 I1 =>
  ax_R w2 ∧
  ((w2 = 0 →
    Q (-1) I1) ∧
  (¬ w2 = 0 →
    cI (d + 3) kX1_spotWhereKept [ax_r 1, ax_i x1, ax_i x2] I1 (fun w6 I5 =>
    Q w6 I5))))) :
  RI (d + 4) kX10_fibre 0 [some (ax_r 0), some (ax_i x1), some (ax_i x2)] I Q := by
  show Rn _ _ _ _ _ _ _ _
  refine r_iload_n dX10_fibre_0 rfl ?_
  refine r_cI (as := [ax_i x1]) (how_S jX10_isCoordinate jSX10_isCoordinate rfl wX10_142 dX10_fibre_1) rfl (Nat.le_refl _) (Nat.le_of_ble_eq_true rfl) (fun _ => Nat.le_of_ble_eq_true rfl) H (fun w2 I1 H => ?_)
  have ob3 := H.1
  have H := H.2
  refine r_if_eq (tgt := 19) dX10_fibre_4 (by decide) ob3 (fun c4 => ?_) (fun c4 => ?_)
  · have H := H.1 c4
    refine r_iconst dX10_fibre_19 ?_
    exact r_iret dX10_fibre_20 rfl ⟨rfl, _, rfl, H⟩
  · have H := H.2 c4
    refine r_aload_n dX10_fibre_7 rfl ?_
    refine r_getR clX10 0 (by decide) s0_0 rfl rfl wX10_14 dX10_fibre_8 ?_
    refine r_iload_n dX10_fibre_11 rfl ?_
    refine r_iload_n dX10_fibre_12 rfl ?_
    refine r_cI (as := [ax_r 1, ax_i x1, ax_i x2]) (how_V (ci := 1) jX1_spotWhereKept jIX1_spotWhereKept jVX1_spotWhereKept rfl s0_1 (by decide) rfl rfl wX10_164 dX10_fibre_13) rfl (Nat.le_refl _) (Nat.le_of_ble_eq_true rfl) (fun _ => Nat.le_of_ble_eq_true rfl) H (fun w6 I5 H => ?_)
    refine r_goto (tgt := 20) dX10_fibre_16 (by decide) ?_
    exact r_iret dX10_fibre_20 rfl ⟨rfl, _, rfl, H⟩

theorem vX10_base_0 {d : Nat} {Q : Int → ax_H → Prop} {x1 : Int} {I : ax_H} (H :
  cI (d + 3) kX1_spotWhereKept [ax_r 1, ax_i (-6), ax_i x1] I (fun w2 I1 =>
  Q w2 I1)) :
  RI (d + 4) kX10_base 0 [some (ax_r 0), some (ax_i x1)] I Q := by
  show Rn _ _ _ _ _ _ _ _
  refine r_aload_n dX10_base_0 rfl ?_
  refine r_getR clX10 0 (by decide) s0_0 rfl rfl wX10_14 dX10_base_1 ?_
  refine r_bipush (v := (-6)) dX10_base_4 (by decide) ?_
  refine r_iload_n dX10_base_6 rfl ?_
  refine r_cI (as := [ax_r 1, ax_i (-6), ax_i x1]) (how_V (ci := 1) jX1_spotWhereKept jIX1_spotWhereKept jVX1_spotWhereKept rfl s0_1 (by decide) rfl rfl wX10_164 dX10_base_7) rfl (Nat.le_refl _) (Nat.le_of_ble_eq_true rfl) (fun _ => Nat.le_of_ble_eq_true rfl) H (fun w2 I1 H => ?_)
  exact r_iret dX10_base_10 rfl ⟨rfl, _, rfl, H⟩

theorem vX10_rank_0 {d : Nat} {Q : Int → ax_H → Prop} {x1 : Int} {I : ax_H} (H :
  cI (d + 3) kX10_isCoordinate [ax_i x1] I (fun w2 I1 =>
  ax_R w2 ∧
  ((w2 = 0 →
    Q (-1) I1) ∧
  (¬ w2 = 0 →
    cI (d + 3) kX1_ranked [ax_r 1, ax_i x1] I1 (fun w6 I5 =>
    Q w6 I5))))) :
  RI (d + 4) kX10_rank 0 [some (ax_r 0), some (ax_i x1)] I Q := by
  show Rn _ _ _ _ _ _ _ _
  refine r_iload_n dX10_rank_0 rfl ?_
  refine r_cI (as := [ax_i x1]) (how_S jX10_isCoordinate jSX10_isCoordinate rfl wX10_142 dX10_rank_1) rfl (Nat.le_refl _) (Nat.le_of_ble_eq_true rfl) (fun _ => Nat.le_of_ble_eq_true rfl) H (fun w2 I1 H => ?_)
  have ob3 := H.1
  have H := H.2
  refine r_if_eq (tgt := 18) dX10_rank_4 (by decide) ob3 (fun c4 => ?_) (fun c4 => ?_)
  · have H := H.1 c4
    refine r_iconst dX10_rank_18 ?_
    exact r_iret dX10_rank_19 rfl ⟨rfl, _, rfl, H⟩
  · have H := H.2 c4
    refine r_aload_n dX10_rank_7 rfl ?_
    refine r_getR clX10 0 (by decide) s0_0 rfl rfl wX10_14 dX10_rank_8 ?_
    refine r_iload_n dX10_rank_11 rfl ?_
    refine r_cI (as := [ax_r 1, ax_i x1]) (how_V (ci := 1) jX1_ranked jIX1_ranked jVX1_ranked rfl s0_1 (by decide) rfl rfl wX10_167 dX10_rank_12) rfl (Nat.le_refl _) (Nat.le_of_ble_eq_true rfl) (fun _ => Nat.le_of_ble_eq_true rfl) H (fun w6 I5 H => ?_)
    refine r_goto (tgt := 19) dX10_rank_15 (by decide) ?_
    exact r_iret dX10_rank_19 rfl ⟨rfl, _, rfl, H⟩

theorem vX10_cycles_0 {d : Nat} {Q : Int → ax_H → Prop} {x1 : Int} {x2 : Int} {I : ax_H} (r2 : ax_R x2) (H :
  (x2 < 0 →
    (x2 < 10 →
      cI (d + 5) kX10_isCoordinate [ax_i x1] I (fun w4 I3 =>
      ax_R w4 ∧
      ((w4 = 0 →
        Q (-1) I3) ∧
      (¬ w4 = 0 →
        Q (-1) I3)))) ∧
    (¬ x2 < 10 →
      (90 ≤ x2 →
        cI (d + 5) kX10_isCoordinate [ax_i x1] I (fun w10 I9 =>
        ax_R w10 ∧
        ((w10 = 0 →
          Q (-1) I9) ∧
        (¬ w10 = 0 →
          Q (-1) I9)))) ∧
      (¬ 90 ≤ x2 →
        cI (d + 5) kX10_isCoordinate [ax_i x1] I (fun w15 I14 =>
        ax_R w15 ∧
        ((w15 = 0 →
          Q (-1) I14) ∧
        (¬ w15 = 0 →
          cV (d + 5) kX5_learn [ax_r 10, ax_r 1] I14 (fun I19 =>
          cV (d + 5) kX5_countThrough [ax_r 10, ax_r 1, ax_i x1] I19 (fun I20 =>
          (2 < x2 →
            cI (d + 5) kX5_ofLength [ax_r 10, ax_i x2] I20 (fun w23 I22 =>
            Q w23 I22)) ∧
          (¬ 2 < x2 →
            cI (d + 5) kX5_total [ax_r 10, ax_i x2] I20 (fun w25 I24 =>
            Q w25 I24)))))))))) ∧
  (¬ x2 < 0 →
    (x2 ≤ 2 →
      cI (d + 5) kX10_isCoordinate [ax_i x1] I (fun w28 I27 =>
      ax_R w28 ∧
      ((w28 = 0 →
        Q (-1) I27) ∧
      (¬ w28 = 0 →
        cV (d + 5) kX5_learn [ax_r 10, ax_r 1] I27 (fun I32 =>
        cV (d + 5) kX5_countThrough [ax_r 10, ax_r 1, ax_i x1] I32 (fun I33 =>
        (2 < x2 →
          cI (d + 5) kX5_ofLength [ax_r 10, ax_i x2] I33 (fun w36 I35 =>
          Q w36 I35)) ∧
        (¬ 2 < x2 →
          cI (d + 5) kX5_total [ax_r 10, ax_i x2] I33 (fun w38 I37 =>
          Q w38 I37)))))))) ∧
    (¬ x2 ≤ 2 →
      (x2 < 10 →
        cI (d + 5) kX10_isCoordinate [ax_i x1] I (fun w41 I40 =>
        ax_R w41 ∧
        ((w41 = 0 →
          Q (-1) I40) ∧
        (¬ w41 = 0 →
          Q (-1) I40)))) ∧
      (¬ x2 < 10 →
        (90 ≤ x2 →
          cI (d + 5) kX10_isCoordinate [ax_i x1] I (fun w47 I46 =>
          ax_R w47 ∧
          ((w47 = 0 →
            Q (-1) I46) ∧
          (¬ w47 = 0 →
            Q (-1) I46)))) ∧
        (¬ 90 ≤ x2 →
          cI (d + 5) kX10_isCoordinate [ax_i x1] I (fun w52 I51 =>
          ax_R w52 ∧
          ((w52 = 0 →
            Q (-1) I51) ∧
          (¬ w52 = 0 →
            cV (d + 5) kX5_learn [ax_r 10, ax_r 1] I51 (fun I56 =>
            cV (d + 5) kX5_countThrough [ax_r 10, ax_r 1, ax_i x1] I56 (fun I57 =>
            (2 < x2 →
              cI (d + 5) kX5_ofLength [ax_r 10, ax_i x2] I57 (fun w60 I59 =>
              Q w60 I59)) ∧
            (¬ 2 < x2 →
              cI (d + 5) kX5_total [ax_r 10, ax_i x2] I57 (fun w62 I61 =>
              Q w62 I61)))))))))))) :
  RI (d + 6) kX10_cycles 0 [some (ax_r 0), some (ax_i x1), some (ax_i x2), none] I Q := by
  show Rn _ _ _ _ _ _ _ _
  refine r_iload_n dX10_cycles_0 rfl ?_
  refine r_if_lt (tgt := 9) dX10_cycles_1 (by decide) r2 (fun c1 => ?_) (fun c1 => ?_)
  · have H := H.1 c1
    refine r_iload_n dX10_cycles_9 rfl ?_
    refine r_bipush (v := 10) dX10_cycles_10 (by decide) ?_
    refine r_icmp_lt (tgt := 25) dX10_cycles_12 (by decide) r2 (by decide) (fun c2 => ?_) (fun c2 => ?_)
    · have H := H.1 c2
      refine r_iconst dX10_cycles_25 ?_
      refine r_istore_n dX10_cycles_26 (by decide) rfl ?_
      refine r_iload_n dX10_cycles_27 rfl ?_
      refine r_cI (as := [ax_i x1]) (how_S jX10_isCoordinate jSX10_isCoordinate rfl wX10_142 dX10_cycles_28) rfl (Nat.le_refl _) (Nat.le_of_ble_eq_true rfl) (fun _ => Nat.le_of_ble_eq_true rfl) H (fun w4 I3 H => ?_)
      have ob5 := H.1
      have H := H.2
      refine r_if_eq (tgt := 38) dX10_cycles_31 (by decide) ob5 (fun c6 => ?_) (fun c6 => ?_)
      · have H := H.1 c6
        refine r_iconst dX10_cycles_38 ?_
        exact r_iret dX10_cycles_39 rfl ⟨rfl, _, rfl, H⟩
      · have H := H.2 c6
        refine r_iload_n dX10_cycles_34 rfl ?_
        refine r_if_ne (tgt := 40) dX10_cycles_35 (by decide) (by decide) (fun c7 => absurd c7 (by decide)) (fun c7 => ?_)
        refine r_iconst dX10_cycles_38 ?_
        exact r_iret dX10_cycles_39 rfl ⟨rfl, _, rfl, H⟩
    · have H := H.2 c2
      refine r_iload_n dX10_cycles_15 rfl ?_
      refine r_bipush (v := 90) dX10_cycles_16 (by decide) ?_
      refine r_icmp_ge (tgt := 25) dX10_cycles_18 (by decide) r2 (by decide) (fun c8 => ?_) (fun c8 => ?_)
      · have H := H.1 c8
        refine r_iconst dX10_cycles_25 ?_
        refine r_istore_n dX10_cycles_26 (by decide) rfl ?_
        refine r_iload_n dX10_cycles_27 rfl ?_
        refine r_cI (as := [ax_i x1]) (how_S jX10_isCoordinate jSX10_isCoordinate rfl wX10_142 dX10_cycles_28) rfl (Nat.le_refl _) (Nat.le_of_ble_eq_true rfl) (fun _ => Nat.le_of_ble_eq_true rfl) H (fun w10 I9 H => ?_)
        have ob11 := H.1
        have H := H.2
        refine r_if_eq (tgt := 38) dX10_cycles_31 (by decide) ob11 (fun c12 => ?_) (fun c12 => ?_)
        · have H := H.1 c12
          refine r_iconst dX10_cycles_38 ?_
          exact r_iret dX10_cycles_39 rfl ⟨rfl, _, rfl, H⟩
        · have H := H.2 c12
          refine r_iload_n dX10_cycles_34 rfl ?_
          refine r_if_ne (tgt := 40) dX10_cycles_35 (by decide) (by decide) (fun c13 => absurd c13 (by decide)) (fun c13 => ?_)
          refine r_iconst dX10_cycles_38 ?_
          exact r_iret dX10_cycles_39 rfl ⟨rfl, _, rfl, H⟩
      · have H := H.2 c8
        refine r_iconst dX10_cycles_21 ?_
        refine r_goto (tgt := 26) dX10_cycles_22 (by decide) ?_
        refine r_istore_n dX10_cycles_26 (by decide) rfl ?_
        refine r_iload_n dX10_cycles_27 rfl ?_
        refine r_cI (as := [ax_i x1]) (how_S jX10_isCoordinate jSX10_isCoordinate rfl wX10_142 dX10_cycles_28) rfl (Nat.le_refl _) (Nat.le_of_ble_eq_true rfl) (fun _ => Nat.le_of_ble_eq_true rfl) H (fun w15 I14 H => ?_)
        have ob16 := H.1
        have H := H.2
        refine r_if_eq (tgt := 38) dX10_cycles_31 (by decide) ob16 (fun c17 => ?_) (fun c17 => ?_)
        · have H := H.1 c17
          refine r_iconst dX10_cycles_38 ?_
          exact r_iret dX10_cycles_39 rfl ⟨rfl, _, rfl, H⟩
        · have H := H.2 c17
          refine r_iload_n dX10_cycles_34 rfl ?_
          refine r_if_ne (tgt := 40) dX10_cycles_35 (by decide) (by decide) (fun c18 => ?_) (fun c18 => absurd c18 (by decide))
          refine r_aload_n dX10_cycles_40 rfl ?_
          refine r_getR clX10 1 (by decide) s0_0 rfl rfl wX10_21 dX10_cycles_41 ?_
          refine r_aload_n dX10_cycles_44 rfl ?_
          refine r_getR clX10 0 (by decide) s0_0 rfl rfl wX10_14 dX10_cycles_45 ?_
          refine r_cV (as := [ax_r 10, ax_r 1]) (how_V (ci := 5) jX5_learn jIX5_learn jVX5_learn rfl s0_10 (by decide) rfl rfl wX10_170 dX10_cycles_48) rfl (Nat.le_refl _) (Nat.le_of_ble_eq_true rfl) (fun _ => Nat.le_of_ble_eq_true rfl) H (fun I19 H => ?_)
          refine r_aload_n dX10_cycles_51 rfl ?_
          refine r_getR clX10 1 (by decide) s0_0 rfl rfl wX10_21 dX10_cycles_52 ?_
          refine r_aload_n dX10_cycles_55 rfl ?_
          refine r_getR clX10 0 (by decide) s0_0 rfl rfl wX10_14 dX10_cycles_56 ?_
          refine r_iload_n dX10_cycles_59 rfl ?_
          refine r_cV (as := [ax_r 10, ax_r 1, ax_i x1]) (how_V (ci := 5) jX5_countThrough jIX5_countThrough jVX5_countThrough rfl s0_10 (by decide) rfl rfl wX10_174 dX10_cycles_60) rfl (Nat.le_refl _) (Nat.le_of_ble_eq_true rfl) (fun _ => Nat.le_of_ble_eq_true rfl) H (fun I20 H => ?_)
          refine r_iload_n dX10_cycles_63 rfl ?_
          refine r_iconst dX10_cycles_64 ?_
          refine r_icmp_gt (tgt := 79) dX10_cycles_65 (by decide) r2 (by decide) (fun c21 => ?_) (fun c21 => ?_)
          · have H := H.1 c21
            refine r_aload_n dX10_cycles_79 rfl ?_
            refine r_getR clX10 1 (by decide) s0_0 rfl rfl wX10_21 dX10_cycles_80 ?_
            refine r_iload_n dX10_cycles_83 rfl ?_
            refine r_cI (as := [ax_r 10, ax_i x2]) (how_V (ci := 5) jX5_ofLength jIX5_ofLength jVX5_ofLength rfl s0_10 (by decide) rfl rfl wX10_181 dX10_cycles_84) rfl (Nat.le_refl _) (Nat.le_of_ble_eq_true rfl) (fun _ => Nat.le_of_ble_eq_true rfl) H (fun w23 I22 H => ?_)
            exact r_iret dX10_cycles_87 rfl ⟨rfl, _, rfl, H⟩
          · have H := H.2 c21
            refine r_aload_n dX10_cycles_68 rfl ?_
            refine r_getR clX10 1 (by decide) s0_0 rfl rfl wX10_21 dX10_cycles_69 ?_
            refine r_iload_n dX10_cycles_72 rfl ?_
            refine r_cI (as := [ax_r 10, ax_i x2]) (how_V (ci := 5) jX5_total jIX5_total jVX5_total rfl s0_10 (by decide) rfl rfl wX10_178 dX10_cycles_73) rfl (Nat.le_refl _) (Nat.le_of_ble_eq_true rfl) (fun _ => Nat.le_of_ble_eq_true rfl) H (fun w25 I24 H => ?_)
            refine r_goto (tgt := 87) dX10_cycles_76 (by decide) ?_
            exact r_iret dX10_cycles_87 rfl ⟨rfl, _, rfl, H⟩
  · have H := H.2 c1
    refine r_iload_n dX10_cycles_4 rfl ?_
    refine r_iconst dX10_cycles_5 ?_
    refine r_icmp_le (tgt := 21) dX10_cycles_6 (by decide) r2 (by decide) (fun c26 => ?_) (fun c26 => ?_)
    · have H := H.1 c26
      refine r_iconst dX10_cycles_21 ?_
      refine r_goto (tgt := 26) dX10_cycles_22 (by decide) ?_
      refine r_istore_n dX10_cycles_26 (by decide) rfl ?_
      refine r_iload_n dX10_cycles_27 rfl ?_
      refine r_cI (as := [ax_i x1]) (how_S jX10_isCoordinate jSX10_isCoordinate rfl wX10_142 dX10_cycles_28) rfl (Nat.le_refl _) (Nat.le_of_ble_eq_true rfl) (fun _ => Nat.le_of_ble_eq_true rfl) H (fun w28 I27 H => ?_)
      have ob29 := H.1
      have H := H.2
      refine r_if_eq (tgt := 38) dX10_cycles_31 (by decide) ob29 (fun c30 => ?_) (fun c30 => ?_)
      · have H := H.1 c30
        refine r_iconst dX10_cycles_38 ?_
        exact r_iret dX10_cycles_39 rfl ⟨rfl, _, rfl, H⟩
      · have H := H.2 c30
        refine r_iload_n dX10_cycles_34 rfl ?_
        refine r_if_ne (tgt := 40) dX10_cycles_35 (by decide) (by decide) (fun c31 => ?_) (fun c31 => absurd c31 (by decide))
        refine r_aload_n dX10_cycles_40 rfl ?_
        refine r_getR clX10 1 (by decide) s0_0 rfl rfl wX10_21 dX10_cycles_41 ?_
        refine r_aload_n dX10_cycles_44 rfl ?_
        refine r_getR clX10 0 (by decide) s0_0 rfl rfl wX10_14 dX10_cycles_45 ?_
        refine r_cV (as := [ax_r 10, ax_r 1]) (how_V (ci := 5) jX5_learn jIX5_learn jVX5_learn rfl s0_10 (by decide) rfl rfl wX10_170 dX10_cycles_48) rfl (Nat.le_refl _) (Nat.le_of_ble_eq_true rfl) (fun _ => Nat.le_of_ble_eq_true rfl) H (fun I32 H => ?_)
        refine r_aload_n dX10_cycles_51 rfl ?_
        refine r_getR clX10 1 (by decide) s0_0 rfl rfl wX10_21 dX10_cycles_52 ?_
        refine r_aload_n dX10_cycles_55 rfl ?_
        refine r_getR clX10 0 (by decide) s0_0 rfl rfl wX10_14 dX10_cycles_56 ?_
        refine r_iload_n dX10_cycles_59 rfl ?_
        refine r_cV (as := [ax_r 10, ax_r 1, ax_i x1]) (how_V (ci := 5) jX5_countThrough jIX5_countThrough jVX5_countThrough rfl s0_10 (by decide) rfl rfl wX10_174 dX10_cycles_60) rfl (Nat.le_refl _) (Nat.le_of_ble_eq_true rfl) (fun _ => Nat.le_of_ble_eq_true rfl) H (fun I33 H => ?_)
        refine r_iload_n dX10_cycles_63 rfl ?_
        refine r_iconst dX10_cycles_64 ?_
        refine r_icmp_gt (tgt := 79) dX10_cycles_65 (by decide) r2 (by decide) (fun c34 => ?_) (fun c34 => ?_)
        · have H := H.1 c34
          refine r_aload_n dX10_cycles_79 rfl ?_
          refine r_getR clX10 1 (by decide) s0_0 rfl rfl wX10_21 dX10_cycles_80 ?_
          refine r_iload_n dX10_cycles_83 rfl ?_
          refine r_cI (as := [ax_r 10, ax_i x2]) (how_V (ci := 5) jX5_ofLength jIX5_ofLength jVX5_ofLength rfl s0_10 (by decide) rfl rfl wX10_181 dX10_cycles_84) rfl (Nat.le_refl _) (Nat.le_of_ble_eq_true rfl) (fun _ => Nat.le_of_ble_eq_true rfl) H (fun w36 I35 H => ?_)
          exact r_iret dX10_cycles_87 rfl ⟨rfl, _, rfl, H⟩
        · have H := H.2 c34
          refine r_aload_n dX10_cycles_68 rfl ?_
          refine r_getR clX10 1 (by decide) s0_0 rfl rfl wX10_21 dX10_cycles_69 ?_
          refine r_iload_n dX10_cycles_72 rfl ?_
          refine r_cI (as := [ax_r 10, ax_i x2]) (how_V (ci := 5) jX5_total jIX5_total jVX5_total rfl s0_10 (by decide) rfl rfl wX10_178 dX10_cycles_73) rfl (Nat.le_refl _) (Nat.le_of_ble_eq_true rfl) (fun _ => Nat.le_of_ble_eq_true rfl) H (fun w38 I37 H => ?_)
          refine r_goto (tgt := 87) dX10_cycles_76 (by decide) ?_
          exact r_iret dX10_cycles_87 rfl ⟨rfl, _, rfl, H⟩
    · have H := H.2 c26
      refine r_iload_n dX10_cycles_9 rfl ?_
      refine r_bipush (v := 10) dX10_cycles_10 (by decide) ?_
      refine r_icmp_lt (tgt := 25) dX10_cycles_12 (by decide) r2 (by decide) (fun c39 => ?_) (fun c39 => ?_)
      · have H := H.1 c39
        refine r_iconst dX10_cycles_25 ?_
        refine r_istore_n dX10_cycles_26 (by decide) rfl ?_
        refine r_iload_n dX10_cycles_27 rfl ?_
        refine r_cI (as := [ax_i x1]) (how_S jX10_isCoordinate jSX10_isCoordinate rfl wX10_142 dX10_cycles_28) rfl (Nat.le_refl _) (Nat.le_of_ble_eq_true rfl) (fun _ => Nat.le_of_ble_eq_true rfl) H (fun w41 I40 H => ?_)
        have ob42 := H.1
        have H := H.2
        refine r_if_eq (tgt := 38) dX10_cycles_31 (by decide) ob42 (fun c43 => ?_) (fun c43 => ?_)
        · have H := H.1 c43
          refine r_iconst dX10_cycles_38 ?_
          exact r_iret dX10_cycles_39 rfl ⟨rfl, _, rfl, H⟩
        · have H := H.2 c43
          refine r_iload_n dX10_cycles_34 rfl ?_
          refine r_if_ne (tgt := 40) dX10_cycles_35 (by decide) (by decide) (fun c44 => absurd c44 (by decide)) (fun c44 => ?_)
          refine r_iconst dX10_cycles_38 ?_
          exact r_iret dX10_cycles_39 rfl ⟨rfl, _, rfl, H⟩
      · have H := H.2 c39
        refine r_iload_n dX10_cycles_15 rfl ?_
        refine r_bipush (v := 90) dX10_cycles_16 (by decide) ?_
        refine r_icmp_ge (tgt := 25) dX10_cycles_18 (by decide) r2 (by decide) (fun c45 => ?_) (fun c45 => ?_)
        · have H := H.1 c45
          refine r_iconst dX10_cycles_25 ?_
          refine r_istore_n dX10_cycles_26 (by decide) rfl ?_
          refine r_iload_n dX10_cycles_27 rfl ?_
          refine r_cI (as := [ax_i x1]) (how_S jX10_isCoordinate jSX10_isCoordinate rfl wX10_142 dX10_cycles_28) rfl (Nat.le_refl _) (Nat.le_of_ble_eq_true rfl) (fun _ => Nat.le_of_ble_eq_true rfl) H (fun w47 I46 H => ?_)
          have ob48 := H.1
          have H := H.2
          refine r_if_eq (tgt := 38) dX10_cycles_31 (by decide) ob48 (fun c49 => ?_) (fun c49 => ?_)
          · have H := H.1 c49
            refine r_iconst dX10_cycles_38 ?_
            exact r_iret dX10_cycles_39 rfl ⟨rfl, _, rfl, H⟩
          · have H := H.2 c49
            refine r_iload_n dX10_cycles_34 rfl ?_
            refine r_if_ne (tgt := 40) dX10_cycles_35 (by decide) (by decide) (fun c50 => absurd c50 (by decide)) (fun c50 => ?_)
            refine r_iconst dX10_cycles_38 ?_
            exact r_iret dX10_cycles_39 rfl ⟨rfl, _, rfl, H⟩
        · have H := H.2 c45
          refine r_iconst dX10_cycles_21 ?_
          refine r_goto (tgt := 26) dX10_cycles_22 (by decide) ?_
          refine r_istore_n dX10_cycles_26 (by decide) rfl ?_
          refine r_iload_n dX10_cycles_27 rfl ?_
          refine r_cI (as := [ax_i x1]) (how_S jX10_isCoordinate jSX10_isCoordinate rfl wX10_142 dX10_cycles_28) rfl (Nat.le_refl _) (Nat.le_of_ble_eq_true rfl) (fun _ => Nat.le_of_ble_eq_true rfl) H (fun w52 I51 H => ?_)
          have ob53 := H.1
          have H := H.2
          refine r_if_eq (tgt := 38) dX10_cycles_31 (by decide) ob53 (fun c54 => ?_) (fun c54 => ?_)
          · have H := H.1 c54
            refine r_iconst dX10_cycles_38 ?_
            exact r_iret dX10_cycles_39 rfl ⟨rfl, _, rfl, H⟩
          · have H := H.2 c54
            refine r_iload_n dX10_cycles_34 rfl ?_
            refine r_if_ne (tgt := 40) dX10_cycles_35 (by decide) (by decide) (fun c55 => ?_) (fun c55 => absurd c55 (by decide))
            refine r_aload_n dX10_cycles_40 rfl ?_
            refine r_getR clX10 1 (by decide) s0_0 rfl rfl wX10_21 dX10_cycles_41 ?_
            refine r_aload_n dX10_cycles_44 rfl ?_
            refine r_getR clX10 0 (by decide) s0_0 rfl rfl wX10_14 dX10_cycles_45 ?_
            refine r_cV (as := [ax_r 10, ax_r 1]) (how_V (ci := 5) jX5_learn jIX5_learn jVX5_learn rfl s0_10 (by decide) rfl rfl wX10_170 dX10_cycles_48) rfl (Nat.le_refl _) (Nat.le_of_ble_eq_true rfl) (fun _ => Nat.le_of_ble_eq_true rfl) H (fun I56 H => ?_)
            refine r_aload_n dX10_cycles_51 rfl ?_
            refine r_getR clX10 1 (by decide) s0_0 rfl rfl wX10_21 dX10_cycles_52 ?_
            refine r_aload_n dX10_cycles_55 rfl ?_
            refine r_getR clX10 0 (by decide) s0_0 rfl rfl wX10_14 dX10_cycles_56 ?_
            refine r_iload_n dX10_cycles_59 rfl ?_
            refine r_cV (as := [ax_r 10, ax_r 1, ax_i x1]) (how_V (ci := 5) jX5_countThrough jIX5_countThrough jVX5_countThrough rfl s0_10 (by decide) rfl rfl wX10_174 dX10_cycles_60) rfl (Nat.le_refl _) (Nat.le_of_ble_eq_true rfl) (fun _ => Nat.le_of_ble_eq_true rfl) H (fun I57 H => ?_)
            refine r_iload_n dX10_cycles_63 rfl ?_
            refine r_iconst dX10_cycles_64 ?_
            refine r_icmp_gt (tgt := 79) dX10_cycles_65 (by decide) r2 (by decide) (fun c58 => ?_) (fun c58 => ?_)
            · have H := H.1 c58
              refine r_aload_n dX10_cycles_79 rfl ?_
              refine r_getR clX10 1 (by decide) s0_0 rfl rfl wX10_21 dX10_cycles_80 ?_
              refine r_iload_n dX10_cycles_83 rfl ?_
              refine r_cI (as := [ax_r 10, ax_i x2]) (how_V (ci := 5) jX5_ofLength jIX5_ofLength jVX5_ofLength rfl s0_10 (by decide) rfl rfl wX10_181 dX10_cycles_84) rfl (Nat.le_refl _) (Nat.le_of_ble_eq_true rfl) (fun _ => Nat.le_of_ble_eq_true rfl) H (fun w60 I59 H => ?_)
              exact r_iret dX10_cycles_87 rfl ⟨rfl, _, rfl, H⟩
            · have H := H.2 c58
              refine r_aload_n dX10_cycles_68 rfl ?_
              refine r_getR clX10 1 (by decide) s0_0 rfl rfl wX10_21 dX10_cycles_69 ?_
              refine r_iload_n dX10_cycles_72 rfl ?_
              refine r_cI (as := [ax_r 10, ax_i x2]) (how_V (ci := 5) jX5_total jIX5_total jVX5_total rfl s0_10 (by decide) rfl rfl wX10_178 dX10_cycles_73) rfl (Nat.le_refl _) (Nat.le_of_ble_eq_true rfl) (fun _ => Nat.le_of_ble_eq_true rfl) H (fun w62 I61 H => ?_)
              refine r_goto (tgt := 87) dX10_cycles_76 (by decide) ?_
              exact r_iret dX10_cycles_87 rfl ⟨rfl, _, rfl, H⟩

theorem vX10_degree_0 {d : Nat} {Q : Int → ax_H → Prop} {x1 : Int} {x2 : Int} {x3 : Int} {I : ax_H} (r1 : ax_R x1) (H :
  cI (d + 5) kX10_isAxis [ax_i x3] I (fun w2 I1 =>
  ax_R w2 ∧
  ((w2 = 0 →
    Q (-1) I1) ∧
  (¬ w2 = 0 →
    cI (d + 5) kX10_isNumber [ax_i x2] I1 (fun w6 I5 =>
    ax_R w6 ∧
    ((w6 ≠ 0 →
      (x1 < 0 →
        Q (-2) I5) ∧
      (¬ x1 < 0 →
        (x1 ≤ 3 →
          cI (d + 5) kX2_behindSteps [ax_r 15, ax_r 2, ax_i x1, ax_i x2, ax_i x3] I5 (fun w12 I11 =>
          Q w12 I11)) ∧
        (¬ x1 ≤ 3 →
          Q (-2) I5))) ∧
    (w6 = 0 →
      Q (-1) I5))))))) :
  RI (d + 6) kX10_degree 0 [some (ax_r 0), some (ax_i x1), some (ax_i x2), some (ax_i x3)] I Q := by
  show Rn _ _ _ _ _ _ _ _
  refine r_iload_n dX10_degree_0 rfl ?_
  refine r_cI (as := [ax_i x3]) (how_S jX10_isAxis jSX10_isAxis rfl wX10_136 dX10_degree_1) rfl (Nat.le_refl _) (Nat.le_of_ble_eq_true rfl) (fun _ => Nat.le_of_ble_eq_true rfl) H (fun w2 I1 H => ?_)
  have ob3 := H.1
  have H := H.2
  refine r_if_eq (tgt := 14) dX10_degree_4 (by decide) ob3 (fun c4 => ?_) (fun c4 => ?_)
  · have H := H.1 c4
    refine r_iconst dX10_degree_14 ?_
    exact r_iret dX10_degree_15 rfl ⟨rfl, _, rfl, H⟩
  · have H := H.2 c4
    refine r_iload_n dX10_degree_7 rfl ?_
    refine r_cI (as := [ax_i x2]) (how_S jX10_isNumber jSX10_isNumber rfl wX10_91 dX10_degree_8) rfl (Nat.le_refl _) (Nat.le_of_ble_eq_true rfl) (fun _ => Nat.le_of_ble_eq_true rfl) H (fun w6 I5 H => ?_)
    have ob7 := H.1
    have H := H.2
    refine r_if_ne (tgt := 16) dX10_degree_11 (by decide) ob7 (fun c8 => ?_) (fun c8 => ?_)
    · have H := H.1 c8
      refine r_iload_n dX10_degree_16 rfl ?_
      refine r_if_lt (tgt := 25) dX10_degree_17 (by decide) r1 (fun c9 => ?_) (fun c9 => ?_)
      · have H := H.1 c9
        refine r_bipush (v := (-2)) dX10_degree_25 (by decide) ?_
        exact r_iret dX10_degree_27 rfl ⟨rfl, _, rfl, H⟩
      · have H := H.2 c9
        refine r_iload_n dX10_degree_20 rfl ?_
        refine r_iconst dX10_degree_21 ?_
        refine r_icmp_le (tgt := 28) dX10_degree_22 (by decide) r1 (by decide) (fun c10 => ?_) (fun c10 => ?_)
        · have H := H.1 c10
          refine r_aload_n dX10_degree_28 rfl ?_
          refine r_getR clX10 2 (by decide) s0_0 rfl rfl wX10_28 dX10_degree_29 ?_
          refine r_aload_n dX10_degree_32 rfl ?_
          refine r_getR clX10 0 (by decide) s0_0 rfl rfl wX10_14 dX10_degree_33 ?_
          refine r_getR clX1 0 (by decide) s0_1 rfl rfl wX10_95 dX10_degree_36 ?_
          refine r_iload_n dX10_degree_39 rfl ?_
          refine r_iload_n dX10_degree_40 rfl ?_
          refine r_iload_n dX10_degree_41 rfl ?_
          refine r_cI (as := [ax_r 15, ax_r 2, ax_i x1, ax_i x2, ax_i x3]) (how_V (ci := 2) jX2_behindSteps jIX2_behindSteps jVX2_behindSteps rfl s0_15 (by decide) rfl rfl wX10_184 dX10_degree_42) rfl (Nat.le_refl _) (Nat.le_of_ble_eq_true rfl) (fun _ => Nat.le_of_ble_eq_true rfl) H (fun w12 I11 H => ?_)
          exact r_iret dX10_degree_45 rfl ⟨rfl, _, rfl, H⟩
        · have H := H.2 c10
          refine r_bipush (v := (-2)) dX10_degree_25 (by decide) ?_
          exact r_iret dX10_degree_27 rfl ⟨rfl, _, rfl, H⟩
    · have H := H.2 c8
      refine r_iconst dX10_degree_14 ?_
      exact r_iret dX10_degree_15 rfl ⟨rfl, _, rfl, H⟩

theorem vX10_tell_0 {d : Nat} {Q : Int → ax_H → Prop} {x1 : Int} {x2 : Int} {I : ax_H} (H :
  cI (d + 1) kX10_isSpot [ax_i x1, ax_i x2] I (fun w2 I1 =>
  ax_R w2 ∧
  ((w2 ≠ 0 →
    cI (d + 1) kX8_holds [ax_r 63, ax_i ((x1 * 32) + x2)] I1 (fun w6 I5 =>
    ax_R w6 ∧
    ((w6 = 0 →
      cI (d + 1) kX8_isFull [ax_r 63] I5 (fun w10 I9 =>
      ax_R w10 ∧
      ((w10 = 0 →
        cV (d + 1) kX8_add [ax_r 63, ax_i ((x1 * 32) + x2)] I9 (fun I13 =>
        Q (I13 63 1) I13)) ∧
      (¬ w10 = 0 →
        Q (-4) I9)))) ∧
    (¬ w6 = 0 →
      Q (-3) I5)))) ∧
  (w2 = 0 →
    Q (-1) I1)))) :
  RI (d + 2) kX10_tell 0 [some (ax_r 0), some (ax_i x1), some (ax_i x2)] I Q := by
  show Rn _ _ _ _ _ _ _ _
  refine r_iload_n dX10_tell_0 rfl ?_
  refine r_iload_n dX10_tell_1 rfl ?_
  refine r_cI (as := [ax_i x1, ax_i x2]) (how_S jX10_isSpot jSX10_isSpot rfl wX10_125 dX10_tell_2) rfl (Nat.le_refl _) (Nat.le_of_ble_eq_true rfl) (fun _ => Nat.le_of_ble_eq_true rfl) H (fun w2 I1 H => ?_)
  have ob3 := H.1
  have H := H.2
  refine r_if_ne (tgt := 10) dX10_tell_5 (by decide) ob3 (fun c4 => ?_) (fun c4 => ?_)
  · have H := H.1 c4
    refine r_aload_n dX10_tell_10 rfl ?_
    refine r_getR clX10 3 (by decide) s0_0 rfl rfl wX10_35 dX10_tell_11 ?_
    refine r_iload_n dX10_tell_14 rfl ?_
    refine r_bipush (v := 32) dX10_tell_15 (by decide) ?_
    refine r_imul dX10_tell_17 ?_
    refine r_iload_n dX10_tell_18 rfl ?_
    refine r_iadd dX10_tell_19 ?_
    refine r_cI (as := [ax_r 63, ax_i ((x1 * 32) + x2)]) (how_V (ci := 8) jX8_holds jIX8_holds jVX8_holds rfl s0_63 (by decide) rfl rfl wX10_188 dX10_tell_20) rfl (Nat.le_refl _) (Nat.le_of_ble_eq_true rfl) (fun _ => Nat.le_of_ble_eq_true rfl) H (fun w6 I5 H => ?_)
    have ob7 := H.1
    have H := H.2
    refine r_if_eq (tgt := 29) dX10_tell_23 (by decide) ob7 (fun c8 => ?_) (fun c8 => ?_)
    · have H := H.1 c8
      refine r_aload_n dX10_tell_29 rfl ?_
      refine r_getR clX10 3 (by decide) s0_0 rfl rfl wX10_35 dX10_tell_30 ?_
      refine r_cI (as := [ax_r 63]) (how_V (ci := 8) jX8_isFull jIX8_isFull jVX8_isFull rfl s0_63 (by decide) rfl rfl wX10_191 dX10_tell_33) rfl (Nat.le_refl _) (Nat.le_of_ble_eq_true rfl) (fun _ => Nat.le_of_ble_eq_true rfl) H (fun w10 I9 H => ?_)
      have ob11 := H.1
      have H := H.2
      refine r_if_eq (tgt := 42) dX10_tell_36 (by decide) ob11 (fun c12 => ?_) (fun c12 => ?_)
      · have H := H.1 c12
        refine r_aload_n dX10_tell_42 rfl ?_
        refine r_getR clX10 3 (by decide) s0_0 rfl rfl wX10_35 dX10_tell_43 ?_
        refine r_iload_n dX10_tell_46 rfl ?_
        refine r_bipush (v := 32) dX10_tell_47 (by decide) ?_
        refine r_imul dX10_tell_49 ?_
        refine r_iload_n dX10_tell_50 rfl ?_
        refine r_iadd dX10_tell_51 ?_
        refine r_cV (as := [ax_r 63, ax_i ((x1 * 32) + x2)]) (how_V (ci := 8) jX8_add jIX8_add jVX8_add rfl s0_63 (by decide) rfl rfl wX10_195 dX10_tell_52) rfl (Nat.le_refl _) (Nat.le_of_ble_eq_true rfl) (fun _ => Nat.le_of_ble_eq_true rfl) H (fun I13 H => ?_)
        refine r_aload_n dX10_tell_55 rfl ?_
        refine r_getR clX10 3 (by decide) s0_0 rfl rfl wX10_35 dX10_tell_56 ?_
        refine r_getI clX8 1 1 (by decide) s0_63 rfl rfl wX10_198 dX10_tell_59 ?_
        exact r_iret dX10_tell_62 rfl ⟨rfl, _, rfl, H⟩
      · have H := H.2 c12
        refine r_bipush (v := (-4)) dX10_tell_39 (by decide) ?_
        exact r_iret dX10_tell_41 rfl ⟨rfl, _, rfl, H⟩
    · have H := H.2 c8
      refine r_bipush (v := (-3)) dX10_tell_26 (by decide) ?_
      exact r_iret dX10_tell_28 rfl ⟨rfl, _, rfl, H⟩
  · have H := H.2 c4
    refine r_iconst dX10_tell_8 ?_
    exact r_iret dX10_tell_9 rfl ⟨rfl, _, rfl, H⟩

theorem vX10_forget_0 {d : Nat} {Q : Int → ax_H → Prop} {x1 : Int} {x2 : Int} {I : ax_H} (H :
  cI (d + 1) kX10_isSpot [ax_i x1, ax_i x2] I (fun w2 I1 =>
  ax_R w2 ∧
  ((w2 ≠ 0 →
    cI (d + 1) kX8_holds [ax_r 63, ax_i ((x1 * 32) + x2)] I1 (fun w6 I5 =>
    ax_R w6 ∧
    ((w6 ≠ 0 →
      cV (d + 1) kX8_remove [ax_r 63, ax_i ((x1 * 32) + x2)] I5 (fun I9 =>
      Q (I9 63 1) I9)) ∧
    (w6 = 0 →
      Q (-3) I5)))) ∧
  (w2 = 0 →
    Q (-1) I1)))) :
  RI (d + 2) kX10_forget 0 [some (ax_r 0), some (ax_i x1), some (ax_i x2)] I Q := by
  show Rn _ _ _ _ _ _ _ _
  refine r_iload_n dX10_forget_0 rfl ?_
  refine r_iload_n dX10_forget_1 rfl ?_
  refine r_cI (as := [ax_i x1, ax_i x2]) (how_S jX10_isSpot jSX10_isSpot rfl wX10_125 dX10_forget_2) rfl (Nat.le_refl _) (Nat.le_of_ble_eq_true rfl) (fun _ => Nat.le_of_ble_eq_true rfl) H (fun w2 I1 H => ?_)
  have ob3 := H.1
  have H := H.2
  refine r_if_ne (tgt := 10) dX10_forget_5 (by decide) ob3 (fun c4 => ?_) (fun c4 => ?_)
  · have H := H.1 c4
    refine r_aload_n dX10_forget_10 rfl ?_
    refine r_getR clX10 3 (by decide) s0_0 rfl rfl wX10_35 dX10_forget_11 ?_
    refine r_iload_n dX10_forget_14 rfl ?_
    refine r_bipush (v := 32) dX10_forget_15 (by decide) ?_
    refine r_imul dX10_forget_17 ?_
    refine r_iload_n dX10_forget_18 rfl ?_
    refine r_iadd dX10_forget_19 ?_
    refine r_cI (as := [ax_r 63, ax_i ((x1 * 32) + x2)]) (how_V (ci := 8) jX8_holds jIX8_holds jVX8_holds rfl s0_63 (by decide) rfl rfl wX10_188 dX10_forget_20) rfl (Nat.le_refl _) (Nat.le_of_ble_eq_true rfl) (fun _ => Nat.le_of_ble_eq_true rfl) H (fun w6 I5 H => ?_)
    have ob7 := H.1
    have H := H.2
    refine r_if_ne (tgt := 29) dX10_forget_23 (by decide) ob7 (fun c8 => ?_) (fun c8 => ?_)
    · have H := H.1 c8
      refine r_aload_n dX10_forget_29 rfl ?_
      refine r_getR clX10 3 (by decide) s0_0 rfl rfl wX10_35 dX10_forget_30 ?_
      refine r_iload_n dX10_forget_33 rfl ?_
      refine r_bipush (v := 32) dX10_forget_34 (by decide) ?_
      refine r_imul dX10_forget_36 ?_
      refine r_iload_n dX10_forget_37 rfl ?_
      refine r_iadd dX10_forget_38 ?_
      refine r_cV (as := [ax_r 63, ax_i ((x1 * 32) + x2)]) (how_V (ci := 8) jX8_remove jIX8_remove jVX8_remove rfl s0_63 (by decide) rfl rfl wX10_199 dX10_forget_39) rfl (Nat.le_refl _) (Nat.le_of_ble_eq_true rfl) (fun _ => Nat.le_of_ble_eq_true rfl) H (fun I9 H => ?_)
      refine r_aload_n dX10_forget_42 rfl ?_
      refine r_getR clX10 3 (by decide) s0_0 rfl rfl wX10_35 dX10_forget_43 ?_
      refine r_getI clX8 1 1 (by decide) s0_63 rfl rfl wX10_198 dX10_forget_46 ?_
      exact r_iret dX10_forget_49 rfl ⟨rfl, _, rfl, H⟩
    · have H := H.2 c8
      refine r_bipush (v := (-3)) dX10_forget_26 (by decide) ?_
      exact r_iret dX10_forget_28 rfl ⟨rfl, _, rfl, H⟩
  · have H := H.2 c4
    refine r_iconst dX10_forget_8 ?_
    exact r_iret dX10_forget_9 rfl ⟨rfl, _, rfl, H⟩

theorem vX10_told_0 {d : Nat} {Q : Int → ax_H → Prop} {x1 : Int} {I : ax_H} (H :
  cI d kX8_spotAt [ax_r 63, ax_i x1] I (fun w2 I1 =>
  Q w2 I1)) :
  RI (d + 1) kX10_told 0 [some (ax_r 0), some (ax_i x1)] I Q := by
  show Rn _ _ _ _ _ _ _ _
  refine r_aload_n dX10_told_0 rfl ?_
  refine r_getR clX10 3 (by decide) s0_0 rfl rfl wX10_35 dX10_told_1 ?_
  refine r_iload_n dX10_told_4 rfl ?_
  refine r_cI (as := [ax_r 63, ax_i x1]) (how_V (ci := 8) jX8_spotAt jIX8_spotAt jVX8_spotAt rfl s0_63 (by decide) rfl rfl wX10_202 dX10_told_5) rfl (Nat.le_refl _) (Nat.le_of_ble_eq_true rfl) (fun _ => Nat.le_of_ble_eq_true rfl) H (fun w2 I1 H => ?_)
  exact r_iret dX10_told_8 rfl ⟨rfl, _, rfl, H⟩

theorem vX10_moved_0 {d : Nat} {Q : Int → ax_H → Prop} {x1 : Int} {I : ax_H} (r1 : ax_R x1) (H :
  cV (d + 4) kX8_becomeSteps [ax_r 65, ax_r 63, ax_r 1] I (fun I1 =>
  (x1 ≠ (-1) →
    cI (d + 4) kX8_spotAt [ax_r 65, ax_i x1] I1 (fun w4 I3 =>
    Q w4 I3)) ∧
  (x1 = (-1) →
    Q (I1 65 1) I1))) :
  RI (d + 5) kX10_moved 0 [some (ax_r 0), some (ax_i x1)] I Q := by
  show Rn _ _ _ _ _ _ _ _
  refine r_aload_n dX10_moved_0 rfl ?_
  refine r_getR clX10 4 (by decide) s0_0 rfl rfl wX10_39 dX10_moved_1 ?_
  refine r_aload_n dX10_moved_4 rfl ?_
  refine r_getR clX10 3 (by decide) s0_0 rfl rfl wX10_35 dX10_moved_5 ?_
  refine r_aload_n dX10_moved_8 rfl ?_
  refine r_getR clX10 0 (by decide) s0_0 rfl rfl wX10_14 dX10_moved_9 ?_
  refine r_cV (as := [ax_r 65, ax_r 63, ax_r 1]) (how_V (ci := 8) jX8_becomeSteps jIX8_becomeSteps jVX8_becomeSteps rfl s0_65 (by decide) rfl rfl wX10_205 dX10_moved_12) rfl (Nat.le_refl _) (Nat.le_of_ble_eq_true rfl) (fun _ => Nat.le_of_ble_eq_true rfl) H (fun I1 H => ?_)
  refine r_iload_n dX10_moved_15 rfl ?_
  refine r_iconst dX10_moved_16 ?_
  refine r_icmp_ne (tgt := 30) dX10_moved_17 (by decide) r1 (by decide) (fun c2 => ?_) (fun c2 => ?_)
  · have H := H.1 c2
    refine r_aload_n dX10_moved_30 rfl ?_
    refine r_getR clX10 4 (by decide) s0_0 rfl rfl wX10_39 dX10_moved_31 ?_
    refine r_iload_n dX10_moved_34 rfl ?_
    refine r_cI (as := [ax_r 65, ax_i x1]) (how_V (ci := 8) jX8_spotAt jIX8_spotAt jVX8_spotAt rfl s0_65 (by decide) rfl rfl wX10_202 dX10_moved_35) rfl (Nat.le_refl _) (Nat.le_of_ble_eq_true rfl) (fun _ => Nat.le_of_ble_eq_true rfl) H (fun w4 I3 H => ?_)
    exact r_iret dX10_moved_38 rfl ⟨rfl, _, rfl, H⟩
  · have H := H.2 c2
    refine r_aload_n dX10_moved_20 rfl ?_
    refine r_getR clX10 4 (by decide) s0_0 rfl rfl wX10_39 dX10_moved_21 ?_
    refine r_getI clX8 1 1 (by decide) s0_65 rfl rfl wX10_198 dX10_moved_24 ?_
    refine r_goto (tgt := 38) dX10_moved_27 (by decide) ?_
    exact r_iret dX10_moved_38 rfl ⟨rfl, _, rfl, H⟩

theorem vX10_move_0 {d : Nat} {Q : Int → ax_H → Prop} {I : ax_H} (H :
  cV (d + 4) kX8_becomeSteps [ax_r 65, ax_r 63, ax_r 1] I (fun I1 =>
  cV (d + 4) kX8_copyFrom [ax_r 63, ax_r 65] I1 (fun I2 =>
  Q (I2 63 1) I2))) :
  RI (d + 5) kX10_move 0 [some (ax_r 0)] I Q := by
  show Rn _ _ _ _ _ _ _ _
  refine r_aload_n dX10_move_0 rfl ?_
  refine r_getR clX10 4 (by decide) s0_0 rfl rfl wX10_39 dX10_move_1 ?_
  refine r_aload_n dX10_move_4 rfl ?_
  refine r_getR clX10 3 (by decide) s0_0 rfl rfl wX10_35 dX10_move_5 ?_
  refine r_aload_n dX10_move_8 rfl ?_
  refine r_getR clX10 0 (by decide) s0_0 rfl rfl wX10_14 dX10_move_9 ?_
  refine r_cV (as := [ax_r 65, ax_r 63, ax_r 1]) (how_V (ci := 8) jX8_becomeSteps jIX8_becomeSteps jVX8_becomeSteps rfl s0_65 (by decide) rfl rfl wX10_205 dX10_move_12) rfl (Nat.le_refl _) (Nat.le_of_ble_eq_true rfl) (fun _ => Nat.le_of_ble_eq_true rfl) H (fun I1 H => ?_)
  refine r_aload_n dX10_move_15 rfl ?_
  refine r_getR clX10 3 (by decide) s0_0 rfl rfl wX10_35 dX10_move_16 ?_
  refine r_aload_n dX10_move_19 rfl ?_
  refine r_getR clX10 4 (by decide) s0_0 rfl rfl wX10_39 dX10_move_20 ?_
  refine r_cV (as := [ax_r 63, ax_r 65]) (how_V (ci := 8) jX8_copyFrom jIX8_copyFrom jVX8_copyFrom rfl s0_63 (by decide) rfl rfl wX10_209 dX10_move_23) rfl (Nat.le_refl _) (Nat.le_of_ble_eq_true rfl) (fun _ => Nat.le_of_ble_eq_true rfl) H (fun I2 H => ?_)
  refine r_aload_n dX10_move_26 rfl ?_
  refine r_getR clX10 3 (by decide) s0_0 rfl rfl wX10_35 dX10_move_27 ?_
  refine r_getI clX8 1 1 (by decide) s0_63 rfl rfl wX10_198 dX10_move_30 ?_
  exact r_iret dX10_move_33 rfl ⟨rfl, _, rfl, H⟩

theorem vX10_grows_0 {d : Nat} {Q : Int → ax_H → Prop} {x1 : Int} {I : ax_H} (r1 : ax_R x1) (H :
  (x1 < 0 →
    Q (-2) I) ∧
  (¬ x1 < 0 →
    (x1 ≤ 40 →
      cI (d + 4) kX1_reachOf [ax_r 1, ax_r 63, ax_i x1] I (fun w4 I3 =>
      Q w4 I3)) ∧
    (¬ x1 ≤ 40 →
      Q (-2) I))) :
  RI (d + 5) kX10_grows 0 [some (ax_r 0), some (ax_i x1)] I Q := by
  show Rn _ _ _ _ _ _ _ _
  refine r_iload_n dX10_grows_0 rfl ?_
  refine r_if_lt (tgt := 10) dX10_grows_1 (by decide) r1 (fun c1 => ?_) (fun c1 => ?_)
  · have H := H.1 c1
    refine r_bipush (v := (-2)) dX10_grows_10 (by decide) ?_
    refine r_goto (tgt := 27) dX10_grows_12 (by decide) ?_
    exact r_iret dX10_grows_27 rfl ⟨rfl, _, rfl, H⟩
  · have H := H.2 c1
    refine r_iload_n dX10_grows_4 rfl ?_
    refine r_bipush (v := 40) dX10_grows_5 (by decide) ?_
    refine r_icmp_le (tgt := 15) dX10_grows_7 (by decide) r1 (by decide) (fun c2 => ?_) (fun c2 => ?_)
    · have H := H.1 c2
      refine r_aload_n dX10_grows_15 rfl ?_
      refine r_getR clX10 0 (by decide) s0_0 rfl rfl wX10_14 dX10_grows_16 ?_
      refine r_aload_n dX10_grows_19 rfl ?_
      refine r_getR clX10 3 (by decide) s0_0 rfl rfl wX10_35 dX10_grows_20 ?_
      refine r_iload_n dX10_grows_23 rfl ?_
      refine r_cI (as := [ax_r 1, ax_r 63, ax_i x1]) (how_V (ci := 1) jX1_reachOf jIX1_reachOf jVX1_reachOf rfl s0_1 (by decide) rfl rfl wX10_213 dX10_grows_24) rfl (Nat.le_refl _) (Nat.le_of_ble_eq_true rfl) (fun _ => Nat.le_of_ble_eq_true rfl) H (fun w4 I3 H => ?_)
      exact r_iret dX10_grows_27 rfl ⟨rfl, _, rfl, H⟩
    · have H := H.2 c2
      refine r_bipush (v := (-2)) dX10_grows_10 (by decide) ?_
      refine r_goto (tgt := 27) dX10_grows_12 (by decide) ?_
      exact r_iret dX10_grows_27 rfl ⟨rfl, _, rfl, H⟩

theorem vX10_were_0 {d : Nat} {Q : Int → ax_H → Prop} {x1 : Int} {x2 : Int} {x3 : Int} {x4 : Int} {x5 : Int} {x6 : Int} {I : ax_H} (H :
  cI (d + 3) kX10_isPower [ax_i x1, ax_i x2, ax_i x3] I (fun w2 I1 =>
  ax_R w2 ∧
  ((w2 = 0 →
    Q (-9223372036854775808) I1) ∧
  (¬ w2 = 0 →
    cI (d + 3) kX10_isSpot [ax_i x4, ax_i x5] I1 (fun w6 I5 =>
    ax_R w6 ∧
    ((w6 = 0 →
      Q (-9223372036854775808) I5) ∧
    (¬ w6 = 0 →
      cI (d + 3) kX10_isCoordinate [ax_i x6] I5 (fun w10 I9 =>
      ax_R w10 ∧
      ((w10 ≠ 0 →
        cJ (d + 3) kX9_numbersKeeping [ax_r 2, ax_i x1, ax_i x2, ax_i x3, ax_i x4, ax_i x5, ax_i x6] I9 (fun w14 I13 =>
        Q w14 I13)) ∧
      (w10 = 0 →
        Q (-9223372036854775808) I9)))))))))) :
  RJ (d + 4) kX10_were 0 [some (ax_r 0), some (ax_i x1), some (ax_i x2), some (ax_i x3), some (ax_i x4), some (ax_i x5), some (ax_i x6)] I Q := by
  show Rn _ _ _ _ _ _ _ _
  refine r_iload_n dX10_were_0 rfl ?_
  refine r_iload_n dX10_were_1 rfl ?_
  refine r_iload_n dX10_were_2 rfl ?_
  refine r_cI (as := [ax_i x1, ax_i x2, ax_i x3]) (how_S jX10_isPower jSX10_isPower rfl wX10_87 dX10_were_3) rfl (Nat.le_refl _) (Nat.le_of_ble_eq_true rfl) (fun _ => Nat.le_of_ble_eq_true rfl) H (fun w2 I1 H => ?_)
  have ob3 := H.1
  have H := H.2
  refine r_if_eq (tgt := 27) dX10_were_6 (by decide) ob3 (fun c4 => ?_) (fun c4 => ?_)
  · have H := H.1 c4
    refine r_ldc2 (v := (-9223372036854775808)) dX10_were_27 wX10_152 ?_
    exact r_lret dX10_were_30 rfl ⟨rfl, _, rfl, H⟩
  · have H := H.2 c4
    refine r_iload dX10_were_9 rfl ?_
    refine r_iload dX10_were_11 rfl ?_
    refine r_cI (as := [ax_i x4, ax_i x5]) (how_S jX10_isSpot jSX10_isSpot rfl wX10_125 dX10_were_13) rfl (Nat.le_refl _) (Nat.le_of_ble_eq_true rfl) (fun _ => Nat.le_of_ble_eq_true rfl) H (fun w6 I5 H => ?_)
    have ob7 := H.1
    have H := H.2
    refine r_if_eq (tgt := 27) dX10_were_16 (by decide) ob7 (fun c8 => ?_) (fun c8 => ?_)
    · have H := H.1 c8
      refine r_ldc2 (v := (-9223372036854775808)) dX10_were_27 wX10_152 ?_
      exact r_lret dX10_were_30 rfl ⟨rfl, _, rfl, H⟩
    · have H := H.2 c8
      refine r_iload dX10_were_19 rfl ?_
      refine r_cI (as := [ax_i x6]) (how_S jX10_isCoordinate jSX10_isCoordinate rfl wX10_142 dX10_were_21) rfl (Nat.le_refl _) (Nat.le_of_ble_eq_true rfl) (fun _ => Nat.le_of_ble_eq_true rfl) H (fun w10 I9 H => ?_)
      have ob11 := H.1
      have H := H.2
      refine r_if_ne (tgt := 31) dX10_were_24 (by decide) ob11 (fun c12 => ?_) (fun c12 => ?_)
      · have H := H.1 c12
        refine r_aload_n dX10_were_31 rfl ?_
        refine r_getR clX10 0 (by decide) s0_0 rfl rfl wX10_14 dX10_were_32 ?_
        refine r_getR clX1 0 (by decide) s0_1 rfl rfl wX10_95 dX10_were_35 ?_
        refine r_iload_n dX10_were_38 rfl ?_
        refine r_iload_n dX10_were_39 rfl ?_
        refine r_iload_n dX10_were_40 rfl ?_
        refine r_iload dX10_were_41 rfl ?_
        refine r_iload dX10_were_43 rfl ?_
        refine r_iload dX10_were_45 rfl ?_
        refine r_cJ (as := [ax_r 2, ax_i x1, ax_i x2, ax_i x3, ax_i x4, ax_i x5, ax_i x6]) (how_V (ci := 9) jX9_numbersKeeping jIX9_numbersKeeping jVX9_numbersKeeping rfl s0_2 (by decide) rfl rfl wX10_217 dX10_were_47) rfl (Nat.le_refl _) (Nat.le_of_ble_eq_true rfl) (fun _ => Nat.le_of_ble_eq_true rfl) H (fun w14 I13 H => ?_)
        exact r_lret dX10_were_50 rfl ⟨rfl, _, rfl, H⟩
      · have H := H.2 c12
        refine r_ldc2 (v := (-9223372036854775808)) dX10_were_27 wX10_152 ?_
        exact r_lret dX10_were_30 rfl ⟨rfl, _, rfl, H⟩

theorem vX10_odds_0 {d : Nat} {Q : Int → ax_H → Prop} {x1 : Int} {x2 : Int} {x3 : Int} {x4 : Int} {I : ax_H} (r3 : ax_R x3) (r4 : ax_R x4) (H :
  cI (d + 3) kX10_isCoordinate [ax_i x1] I (fun w2 I1 =>
  ax_R w2 ∧
  ((w2 = 0 →
    Q (-9223372036854775808) I1) ∧
  (¬ w2 = 0 →
    (x3 < 1 →
      Q (-9223372036854775808) I1) ∧
    (¬ x3 < 1 →
      (30 < x3 →
        Q (-9223372036854775808) I1) ∧
      (¬ 30 < x3 →
        (x4 < 0 →
          Q (-9223372036854775808) I1) ∧
        (¬ x4 < 0 →
          (x4 ≤ 1 →
            RJ (d + 4) kX10_odds 39 [some (ax_r 0), some (ax_i x1), some (ax_i x2), some (ax_i x3), some (ax_i x4), some (ax_i 0), some (ax_i 0), none, none] I1 Q) ∧
          (¬ x4 ≤ 1 →
            Q (-9223372036854775808) I1)))))))) :
  RJ (d + 4) kX10_odds 0 [some (ax_r 0), some (ax_i x1), some (ax_i x2), some (ax_i x3), some (ax_i x4), none, none, none, none] I Q := by
  show Rn _ _ _ _ _ _ _ _
  refine r_iload_n dX10_odds_0 rfl ?_
  refine r_cI (as := [ax_i x1]) (how_S jX10_isCoordinate jSX10_isCoordinate rfl wX10_142 dX10_odds_1) rfl (Nat.le_refl _) (Nat.le_of_ble_eq_true rfl) (fun _ => Nat.le_of_ble_eq_true rfl) H (fun w2 I1 H => ?_)
  have ob3 := H.1
  have H := H.2
  refine r_if_eq (tgt := 29) dX10_odds_4 (by decide) ob3 (fun c4 => ?_) (fun c4 => ?_)
  · have H := H.1 c4
    refine r_ldc2 (v := (-9223372036854775808)) dX10_odds_29 wX10_152 ?_
    exact r_lret dX10_odds_32 rfl ⟨rfl, _, rfl, H⟩
  · have H := H.2 c4
    refine r_iload_n dX10_odds_7 rfl ?_
    refine r_iconst dX10_odds_8 ?_
    refine r_icmp_lt (tgt := 29) dX10_odds_9 (by decide) r3 (by decide) (fun c5 => ?_) (fun c5 => ?_)
    · have H := H.1 c5
      refine r_ldc2 (v := (-9223372036854775808)) dX10_odds_29 wX10_152 ?_
      exact r_lret dX10_odds_32 rfl ⟨rfl, _, rfl, H⟩
    · have H := H.2 c5
      refine r_iload_n dX10_odds_12 rfl ?_
      refine r_bipush (v := 30) dX10_odds_13 (by decide) ?_
      refine r_icmp_gt (tgt := 29) dX10_odds_15 (by decide) r3 (by decide) (fun c6 => ?_) (fun c6 => ?_)
      · have H := H.1 c6
        refine r_ldc2 (v := (-9223372036854775808)) dX10_odds_29 wX10_152 ?_
        exact r_lret dX10_odds_32 rfl ⟨rfl, _, rfl, H⟩
      · have H := H.2 c6
        refine r_iload dX10_odds_18 rfl ?_
        refine r_if_lt (tgt := 29) dX10_odds_20 (by decide) r4 (fun c7 => ?_) (fun c7 => ?_)
        · have H := H.1 c7
          refine r_ldc2 (v := (-9223372036854775808)) dX10_odds_29 wX10_152 ?_
          exact r_lret dX10_odds_32 rfl ⟨rfl, _, rfl, H⟩
        · have H := H.2 c7
          refine r_iload dX10_odds_23 rfl ?_
          refine r_iconst dX10_odds_25 ?_
          refine r_icmp_le (tgt := 33) dX10_odds_26 (by decide) r4 (by decide) (fun c8 => ?_) (fun c8 => ?_)
          · have H := H.1 c8
            refine r_iconst dX10_odds_33 ?_
            refine r_istore dX10_odds_34 (by decide) rfl ?_
            refine r_iconst dX10_odds_36 ?_
            refine r_istore dX10_odds_37 (by decide) rfl ?_
            exact H
          · have H := H.2 c8
            refine r_ldc2 (v := (-9223372036854775808)) dX10_odds_29 wX10_152 ?_
            exact r_lret dX10_odds_32 rfl ⟨rfl, _, rfl, H⟩

theorem vX10_odds_39 {d : Nat} {Q : Int → ax_H → Prop} {x1 : Int} {x2 : Int} {x3 : Int} {x4 : Int} {x5 : Int} {x6 : Int} {I : ax_H} (r1 : ax_R x1) (r3 : ax_R x3) (r4 : ax_R x4) (r6 : ax_R x6) (H :
  (x3 ≤ x6 →
    cI (d + 3) kX10_commonDivisor [ax_i x5, ax_i x3] I (fun w3 I2 =>
    (x4 ≠ 0 →
      (0 ≤ x3 ∧ x3 < 2147483648) ∧
      ((0 < w3 ∧ w3 < 2147483648) ∧
      (ax_R (x3 / w3) ∧
      (Q (x3 / w3) I2)))) ∧
    (x4 = 0 →
      (0 ≤ x5 ∧ x5 < 2147483648) ∧
      ((0 < w3 ∧ w3 < 2147483648) ∧
      (ax_R (x5 / w3) ∧
      (Q (x5 / w3) I2)))))) ∧
  (¬ x3 ≤ x6 →
    cI (d + 3) kX10_drawn [ax_i (x2 + x6)] I (fun w12 I11 =>
    cI (d + 3) kX10_drawn [ax_i w12] I11 (fun w14 I13 =>
    (0 ≤ (w12 % 4294967296 / 65536) ∧ (w12 % 4294967296 / 65536) < 2147483648) ∧
    ((0 ≤ (w14 % 4294967296 / 65536) ∧ (w14 % 4294967296 / 65536) < 2147483648) ∧
    (cI (d + 3) kX9_quotientAt [ax_r 2, ax_i ((w12 % 4294967296 / 65536) % 32), ax_i ((w14 % 4294967296 / 65536) % 32)] I13 (fun w18 I17 =>
    ax_R w18 ∧
    ((w18 ≠ x1 →
      RJ (d + 4) kX10_odds 39 [some (ax_r 0), some (ax_i x1), some (ax_i x2), some (ax_i x3), some (ax_i x4), some (ax_i x5), some (ax_i (x6 + 1)), none, none] I17 Q) ∧
    (w18 = x1 →
      RJ (d + 4) kX10_odds 39 [some (ax_r 0), some (ax_i x1), some (ax_i x2), some (ax_i x3), some (ax_i x4), some (ax_i (x5 + 1)), some (ax_i (x6 + 1)), none, none] I17 Q))))))))) :
  RJ (d + 4) kX10_odds 39 [some (ax_r 0), some (ax_i x1), some (ax_i x2), some (ax_i x3), some (ax_i x4), some (ax_i x5), some (ax_i x6), none, none] I Q := by
  show Rn _ _ _ _ _ _ _ _
  refine r_iload dX10_odds_39 rfl ?_
  refine r_iload_n dX10_odds_41 rfl ?_
  refine r_icmp_ge (tgt := 100) dX10_odds_42 (by decide) r6 r3 (fun c1 => ?_) (fun c1 => ?_)
  · have H := H.1 c1
    refine r_iload dX10_odds_100 rfl ?_
    refine r_iload_n dX10_odds_102 rfl ?_
    refine r_cI (as := [ax_i x5, ax_i x3]) (how_S jX10_commonDivisor jSX10_commonDivisor rfl wX10_224 dX10_odds_103) rfl (Nat.le_refl _) (Nat.le_of_ble_eq_true rfl) (fun _ => Nat.le_of_ble_eq_true rfl) H (fun w3 I2 H => ?_)
    refine r_istore dX10_odds_106 (by decide) rfl ?_
    refine r_iload dX10_odds_108 rfl ?_
    refine r_if_ne (tgt := 122) dX10_odds_110 (by decide) r4 (fun c4 => ?_) (fun c4 => ?_)
    · have H := H.1 c4
      refine r_iload_n dX10_odds_122 rfl ?_
      refine r_iload dX10_odds_123 rfl ?_
      have ob5 := H.1
      have H := H.2
      have ob6 := H.1
      have H := H.2
      refine r_idivp dX10_odds_125 ob5 ob6 ?_
      have ob7 := H.1
      have H := H.2
      refine r_i2l dX10_odds_126 ob7 ?_
      exact r_lret dX10_odds_127 rfl ⟨rfl, _, rfl, H⟩
    · have H := H.2 c4
      refine r_iload dX10_odds_113 rfl ?_
      refine r_iload dX10_odds_115 rfl ?_
      have ob8 := H.1
      have H := H.2
      have ob9 := H.1
      have H := H.2
      refine r_idivp dX10_odds_117 ob8 ob9 ?_
      have ob10 := H.1
      have H := H.2
      refine r_i2l dX10_odds_118 ob10 ?_
      refine r_goto (tgt := 127) dX10_odds_119 (by decide) ?_
      exact r_lret dX10_odds_127 rfl ⟨rfl, _, rfl, H⟩
  · have H := H.2 c1
    refine r_iload_n dX10_odds_45 rfl ?_
    refine r_iload dX10_odds_46 rfl ?_
    refine r_iadd dX10_odds_48 ?_
    refine r_cI (as := [ax_i (x2 + x6)]) (how_S jX10_drawn jSX10_drawn rfl wX10_221 dX10_odds_49) rfl (Nat.le_refl _) (Nat.le_of_ble_eq_true rfl) (fun _ => Nat.le_of_ble_eq_true rfl) H (fun w12 I11 H => ?_)
    refine r_istore dX10_odds_52 (by decide) rfl ?_
    refine r_iload dX10_odds_54 rfl ?_
    refine r_cI (as := [ax_i w12]) (how_S jX10_drawn jSX10_drawn rfl wX10_221 dX10_odds_56) rfl (Nat.le_refl _) (Nat.le_of_ble_eq_true rfl) (fun _ => Nat.le_of_ble_eq_true rfl) H (fun w14 I13 H => ?_)
    refine r_istore dX10_odds_59 (by decide) rfl ?_
    refine r_aload_n dX10_odds_61 rfl ?_
    refine r_getR clX10 0 (by decide) s0_0 rfl rfl wX10_14 dX10_odds_62 ?_
    refine r_getR clX1 0 (by decide) s0_1 rfl rfl wX10_95 dX10_odds_65 ?_
    refine r_iload dX10_odds_68 rfl ?_
    refine r_bipush (v := 16) dX10_odds_70 (by decide) ?_
    refine r_iushr dX10_odds_72 ?_
    refine r_bipush (v := 32) dX10_odds_73 (by decide) ?_
    have ob15 := H.1
    have H := H.2
    refine r_iremp dX10_odds_75 ob15 (by decide) ?_
    refine r_iload dX10_odds_76 rfl ?_
    refine r_bipush (v := 16) dX10_odds_78 (by decide) ?_
    refine r_iushr dX10_odds_80 ?_
    refine r_bipush (v := 32) dX10_odds_81 (by decide) ?_
    have ob16 := H.1
    have H := H.2
    refine r_iremp dX10_odds_83 ob16 (by decide) ?_
    refine r_cI (as := [ax_r 2, ax_i ((w12 % 4294967296 / 65536) % 32), ax_i ((w14 % 4294967296 / 65536) % 32)]) (how_V (ci := 9) jX9_quotientAt jIX9_quotientAt jVX9_quotientAt rfl s0_2 (by decide) rfl rfl wX10_132 dX10_odds_84) rfl (Nat.le_refl _) (Nat.le_of_ble_eq_true rfl) (fun _ => Nat.le_of_ble_eq_true rfl) H (fun w18 I17 H => ?_)
    refine r_iload_n dX10_odds_87 rfl ?_
    have ob19 := H.1
    have H := H.2
    refine r_icmp_ne (tgt := 94) dX10_odds_88 (by decide) ob19 r1 (fun c20 => ?_) (fun c20 => ?_)
    · have H := H.1 c20
      refine r_iinc dX10_odds_94 (by decide) rfl rfl ?_
      refine r_goto (tgt := 39) dX10_odds_97 (by decide) ?_
      refine r_drop (ls2 := [some (ax_r 0), some (ax_i x1), some (ax_i x2), some (ax_i x3), some (ax_i x4), some (ax_i x5), some (ax_i (x6 + 1)), none, none]) ?_ (ax_leS (ax_leS (ax_leS (ax_leS (ax_leS (ax_leS (ax_leS (ax_leN (ax_leN ax_leE)))))))))
      exact H
    · have H := H.2 c20
      refine r_iinc dX10_odds_91 (by decide) rfl rfl ?_
      refine r_iinc dX10_odds_94 (by decide) rfl rfl ?_
      refine r_goto (tgt := 39) dX10_odds_97 (by decide) ?_
      refine r_drop (ls2 := [some (ax_r 0), some (ax_i x1), some (ax_i x2), some (ax_i x3), some (ax_i x4), some (ax_i (x5 + 1)), some (ax_i (x6 + 1)), none, none]) ?_ (ax_leS (ax_leS (ax_leS (ax_leS (ax_leS (ax_leS (ax_leS (ax_leN (ax_leN ax_leE)))))))))
      exact H

theorem vX10_plan_0 {d : Nat} {Q : Int → ax_H → Prop} {x1 : Int} {x2 : Int} {I : ax_H} (r1 : ax_R x1) (H :
  (x1 ≠ (-1) →
    (x1 < 0 →
      Q (-1) I) ∧
    (¬ x1 < 0 →
      (x1 ≤ 3 →
        cI d kX6_takes [ax_r 67, ax_i x1, ax_i x2] I (fun w5 I4 =>
        ax_R w5 ∧
        ((w5 ≠ 0 →
          cI d kX6_isFull [ax_r 67] I4 (fun w9 I8 =>
          ax_R w9 ∧
          ((w9 = 0 →
            cV d kX6_add [ax_r 67, ax_i x1, ax_i x2] I8 (fun I12 =>
            Q (I12 67 2) I12)) ∧
          (¬ w9 = 0 →
            Q (-4) I8)))) ∧
        (w5 = 0 →
          Q (-2) I4)))) ∧
      (¬ x1 ≤ 3 →
        Q (-1) I))) ∧
  (x1 = (-1) →
    Q 0 (ax_st I 67 2 0))) :
  RI (d + 1) kX10_plan 0 [some (ax_r 0), some (ax_i x1), some (ax_i x2)] I Q := by
  show Rn _ _ _ _ _ _ _ _
  refine r_iload_n dX10_plan_0 rfl ?_
  refine r_iconst dX10_plan_1 ?_
  refine r_icmp_ne (tgt := 15) dX10_plan_2 (by decide) r1 (by decide) (fun c1 => ?_) (fun c1 => ?_)
  · have H := H.1 c1
    refine r_iload_n dX10_plan_15 rfl ?_
    refine r_if_lt (tgt := 24) dX10_plan_16 (by decide) r1 (fun c2 => ?_) (fun c2 => ?_)
    · have H := H.1 c2
      refine r_iconst dX10_plan_24 ?_
      exact r_iret dX10_plan_25 rfl ⟨rfl, _, rfl, H⟩
    · have H := H.2 c2
      refine r_iload_n dX10_plan_19 rfl ?_
      refine r_iconst dX10_plan_20 ?_
      refine r_icmp_le (tgt := 26) dX10_plan_21 (by decide) r1 (by decide) (fun c3 => ?_) (fun c3 => ?_)
      · have H := H.1 c3
        refine r_aload_n dX10_plan_26 rfl ?_
        refine r_getR clX10 5 (by decide) s0_0 rfl rfl wX10_45 dX10_plan_27 ?_
        refine r_iload_n dX10_plan_30 rfl ?_
        refine r_iload_n dX10_plan_31 rfl ?_
        refine r_cI (as := [ax_r 67, ax_i x1, ax_i x2]) (how_V (ci := 6) jX6_takes jIX6_takes jVX6_takes rfl s0_67 (by decide) rfl rfl wX10_228 dX10_plan_32) rfl (Nat.le_refl _) (Nat.le_of_ble_eq_true rfl) (fun _ => Nat.le_of_ble_eq_true rfl) H (fun w5 I4 H => ?_)
        have ob6 := H.1
        have H := H.2
        refine r_if_ne (tgt := 41) dX10_plan_35 (by decide) ob6 (fun c7 => ?_) (fun c7 => ?_)
        · have H := H.1 c7
          refine r_aload_n dX10_plan_41 rfl ?_
          refine r_getR clX10 5 (by decide) s0_0 rfl rfl wX10_45 dX10_plan_42 ?_
          refine r_cI (as := [ax_r 67]) (how_V (ci := 6) jX6_isFull jIX6_isFull jVX6_isFull rfl s0_67 (by decide) rfl rfl wX10_231 dX10_plan_45) rfl (Nat.le_refl _) (Nat.le_of_ble_eq_true rfl) (fun _ => Nat.le_of_ble_eq_true rfl) H (fun w9 I8 H => ?_)
          have ob10 := H.1
          have H := H.2
          refine r_if_eq (tgt := 54) dX10_plan_48 (by decide) ob10 (fun c11 => ?_) (fun c11 => ?_)
          · have H := H.1 c11
            refine r_aload_n dX10_plan_54 rfl ?_
            refine r_getR clX10 5 (by decide) s0_0 rfl rfl wX10_45 dX10_plan_55 ?_
            refine r_iload_n dX10_plan_58 rfl ?_
            refine r_iload_n dX10_plan_59 rfl ?_
            refine r_cV (as := [ax_r 67, ax_i x1, ax_i x2]) (how_V (ci := 6) jX6_add jIX6_add jVX6_add rfl s0_67 (by decide) rfl rfl wX10_232 dX10_plan_60) rfl (Nat.le_refl _) (Nat.le_of_ble_eq_true rfl) (fun _ => Nat.le_of_ble_eq_true rfl) H (fun I12 H => ?_)
            refine r_aload_n dX10_plan_63 rfl ?_
            refine r_getR clX10 5 (by decide) s0_0 rfl rfl wX10_45 dX10_plan_64 ?_
            refine r_getI clX6 2 2 (by decide) s0_67 rfl rfl wX10_227 dX10_plan_67 ?_
            exact r_iret dX10_plan_70 rfl ⟨rfl, _, rfl, H⟩
          · have H := H.2 c11
            refine r_bipush (v := (-4)) dX10_plan_51 (by decide) ?_
            exact r_iret dX10_plan_53 rfl ⟨rfl, _, rfl, H⟩
        · have H := H.2 c7
          refine r_bipush (v := (-2)) dX10_plan_38 (by decide) ?_
          exact r_iret dX10_plan_40 rfl ⟨rfl, _, rfl, H⟩
      · have H := H.2 c3
        refine r_iconst dX10_plan_24 ?_
        exact r_iret dX10_plan_25 rfl ⟨rfl, _, rfl, H⟩
  · have H := H.2 c1
    refine r_aload_n dX10_plan_5 rfl ?_
    refine r_getR clX10 5 (by decide) s0_0 rfl rfl wX10_45 dX10_plan_6 ?_
    refine r_iconst dX10_plan_9 ?_
    refine r_putI clX6 2 2 (by decide) s0_67 rfl rfl rfl (by decide) rfl rfl wX10_227 dX10_plan_10 ?_
    refine r_iconst dX10_plan_13 ?_
    exact r_iret dX10_plan_14 rfl ⟨rfl, _, rfl, H⟩

theorem vX10_ends_0 {d : Nat} {Q : Int → ax_H → Prop} {x1 : Int} {x2 : Int} {I : ax_H} (H :
  cI (d + 5) kX10_isSpot [ax_i x1, ax_i x2] I (fun w2 I1 =>
  ax_R w2 ∧
  ((w2 = 0 →
    Q (-1) I1) ∧
  (¬ w2 = 0 →
    cI (d + 5) kX6_endOf [ax_r 67, ax_r 1, ax_i ((x1 * 32) + x2)] I1 (fun w6 I5 =>
    Q w6 I5))))) :
  RI (d + 6) kX10_ends 0 [some (ax_r 0), some (ax_i x1), some (ax_i x2)] I Q := by
  show Rn _ _ _ _ _ _ _ _
  refine r_iload_n dX10_ends_0 rfl ?_
  refine r_iload_n dX10_ends_1 rfl ?_
  refine r_cI (as := [ax_i x1, ax_i x2]) (how_S jX10_isSpot jSX10_isSpot rfl wX10_125 dX10_ends_2) rfl (Nat.le_refl _) (Nat.le_of_ble_eq_true rfl) (fun _ => Nat.le_of_ble_eq_true rfl) H (fun w2 I1 H => ?_)
  have ob3 := H.1
  have H := H.2
  refine r_if_eq (tgt := 28) dX10_ends_5 (by decide) ob3 (fun c4 => ?_) (fun c4 => ?_)
  · have H := H.1 c4
    refine r_iconst dX10_ends_28 ?_
    exact r_iret dX10_ends_29 rfl ⟨rfl, _, rfl, H⟩
  · have H := H.2 c4
    refine r_aload_n dX10_ends_8 rfl ?_
    refine r_getR clX10 5 (by decide) s0_0 rfl rfl wX10_45 dX10_ends_9 ?_
    refine r_aload_n dX10_ends_12 rfl ?_
    refine r_getR clX10 0 (by decide) s0_0 rfl rfl wX10_14 dX10_ends_13 ?_
    refine r_iload_n dX10_ends_16 rfl ?_
    refine r_bipush (v := 32) dX10_ends_17 (by decide) ?_
    refine r_imul dX10_ends_19 ?_
    refine r_iload_n dX10_ends_20 rfl ?_
    refine r_iadd dX10_ends_21 ?_
    refine r_cI (as := [ax_r 67, ax_r 1, ax_i ((x1 * 32) + x2)]) (how_V (ci := 6) jX6_endOf jIX6_endOf jVX6_endOf rfl s0_67 (by decide) rfl rfl wX10_235 dX10_ends_22) rfl (Nat.le_refl _) (Nat.le_of_ble_eq_true rfl) (fun _ => Nat.le_of_ble_eq_true rfl) H (fun w6 I5 H => ?_)
    refine r_goto (tgt := 29) dX10_ends_25 (by decide) ?_
    exact r_iret dX10_ends_29 rfl ⟨rfl, _, rfl, H⟩

theorem vX10_write_0 {d : Nat} {Q : Int → ax_H → Prop} {x1 : Int} {I : ax_H} (H :
  cI (d + 2) kX10_isTable [ax_i x1] I (fun w2 I1 =>
  ax_R w2 ∧
  ((w2 ≠ 0 →
    cV (d + 2) kX0_writeTerms [ax_r 72, ax_r 2, ax_i x1] I1 (fun I5 =>
    Q (I5 72 1) I5)) ∧
  (w2 = 0 →
    Q (-1) I1)))) :
  RI (d + 3) kX10_write 0 [some (ax_r 0), some (ax_i x1)] I Q := by
  show Rn _ _ _ _ _ _ _ _
  refine r_iload_n dX10_write_0 rfl ?_
  refine r_cI (as := [ax_i x1]) (how_S jX10_isTable jSX10_isTable rfl wX10_114 dX10_write_1) rfl (Nat.le_refl _) (Nat.le_of_ble_eq_true rfl) (fun _ => Nat.le_of_ble_eq_true rfl) H (fun w2 I1 H => ?_)
  have ob3 := H.1
  have H := H.2
  refine r_if_ne (tgt := 9) dX10_write_4 (by decide) ob3 (fun c4 => ?_) (fun c4 => ?_)
  · have H := H.1 c4
    refine r_aload_n dX10_write_9 rfl ?_
    refine r_getR clX10 7 (by decide) s0_0 rfl rfl wX10_56 dX10_write_10 ?_
    refine r_aload_n dX10_write_13 rfl ?_
    refine r_getR clX10 0 (by decide) s0_0 rfl rfl wX10_14 dX10_write_14 ?_
    refine r_getR clX1 0 (by decide) s0_1 rfl rfl wX10_95 dX10_write_17 ?_
    refine r_iload_n dX10_write_20 rfl ?_
    refine r_cV (as := [ax_r 72, ax_r 2, ax_i x1]) (how_V (ci := 0) jX0_writeTerms jIX0_writeTerms jVX0_writeTerms rfl s0_72 (by decide) rfl rfl wX10_239 dX10_write_21) rfl (Nat.le_refl _) (Nat.le_of_ble_eq_true rfl) (fun _ => Nat.le_of_ble_eq_true rfl) H (fun I5 H => ?_)
    refine r_aload_n dX10_write_24 rfl ?_
    refine r_getR clX10 7 (by decide) s0_0 rfl rfl wX10_56 dX10_write_25 ?_
    refine r_getI clX0 1 1 (by decide) s0_72 rfl rfl wX10_106 dX10_write_28 ?_
    exact r_iret dX10_write_31 rfl ⟨rfl, _, rfl, H⟩
  · have H := H.2 c4
    refine r_iconst dX10_write_7 ?_
    exact r_iret dX10_write_8 rfl ⟨rfl, _, rfl, H⟩

theorem vX10_paper_0 {d : Nat} {Q : Int → ax_H → Prop} {x1 : Int} {I : ax_H} (r1 : ax_R x1) (H :
  (x1 < 0 →
    Q (-1) I) ∧
  (¬ x1 < 0 →
    ((I 72 1) ≤ x1 →
      Q (-1) I) ∧
    (¬ (I 72 1) ≤ x1 →
      cI d kX0_byteAt [ax_r 72, ax_i x1] I (fun w5 I4 =>
      Q w5 I4)))) :
  RI (d + 1) kX10_paper 0 [some (ax_r 0), some (ax_i x1)] I Q := by
  show Rn _ _ _ _ _ _ _ _
  refine r_iload_n dX10_paper_0 rfl ?_
  refine r_if_lt (tgt := 26) dX10_paper_1 (by decide) r1 (fun c1 => ?_) (fun c1 => ?_)
  · have H := H.1 c1
    refine r_iconst dX10_paper_26 ?_
    exact r_iret dX10_paper_27 rfl ⟨rfl, _, rfl, H⟩
  · have H := H.2 c1
    refine r_iload_n dX10_paper_4 rfl ?_
    refine r_aload_n dX10_paper_5 rfl ?_
    refine r_getR clX10 7 (by decide) s0_0 rfl rfl wX10_56 dX10_paper_6 ?_
    refine r_getI clX0 1 1 (by decide) s0_72 rfl rfl wX10_106 dX10_paper_9 ?_
    refine r_heapR (fun hI2 => ?_)
    refine r_icmp_ge (tgt := 26) dX10_paper_12 (by decide) r1 (hI2 _ _) (fun c3 => ?_) (fun c3 => ?_)
    · have H := H.1 c3
      refine r_iconst dX10_paper_26 ?_
      exact r_iret dX10_paper_27 rfl ⟨rfl, _, rfl, H⟩
    · have H := H.2 c3
      refine r_aload_n dX10_paper_15 rfl ?_
      refine r_getR clX10 7 (by decide) s0_0 rfl rfl wX10_56 dX10_paper_16 ?_
      refine r_iload_n dX10_paper_19 rfl ?_
      refine r_cI (as := [ax_r 72, ax_i x1]) (how_V (ci := 0) jX0_byteAt jIX0_byteAt jVX0_byteAt rfl s0_72 (by decide) rfl rfl wX10_243 dX10_paper_20) rfl (Nat.le_refl _) (Nat.le_of_ble_eq_true rfl) (fun _ => Nat.le_of_ble_eq_true rfl) H (fun w5 I4 H => ?_)
      refine r_goto (tgt := 27) dX10_paper_23 (by decide) ?_
      exact r_iret dX10_paper_27 rfl ⟨rfl, _, rfl, H⟩

theorem vX10_judge_0 {d : Nat} {Q : Int → ax_H → Prop} {x1 : Int} {x2 : Int} {x3 : Int} {I : ax_H} (H :
  cI (d + 3) kX4_isList [ax_r 74, ax_i x1] I (fun w2 I1 =>
  ax_R w2 ∧
  ((w2 = 0 →
    Q (-1) I1) ∧
  (¬ w2 = 0 →
    cI (d + 3) kX10_isSpot [ax_i x2, ax_i x3] I1 (fun w6 I5 =>
    ax_R w6 ∧
    ((w6 ≠ 0 →
      cI (d + 3) kX4_sizeOf [ax_r 74, ax_i x1] I5 (fun w10 I9 =>
      ax_R w10 ∧
      ((0 ≤ w10 →
        ∀ y5_45, y5_45 = ((x2 * 32) + x3) →
        (RI (d + 4) kX10_judge 50 [some (ax_r 0), some (ax_i x1), none, none, some (ax_i w10), some (ax_i y5_45), some (ax_i 0), none, none] I9 Q)) ∧
      (¬ 0 ≤ w10 →
        Q (-11) I9)))) ∧
    (w6 = 0 →
      Q (-1) I5))))))) :
  RI (d + 4) kX10_judge 0 [some (ax_r 0), some (ax_i x1), some (ax_i x2), some (ax_i x3), none, none, none, none, none] I Q := by
  show Rn _ _ _ _ _ _ _ _
  refine r_aload_n dX10_judge_0 rfl ?_
  refine r_getR clX10 8 (by decide) s0_0 rfl rfl wX10_62 dX10_judge_1 ?_
  refine r_iload_n dX10_judge_4 rfl ?_
  refine r_cI (as := [ax_r 74, ax_i x1]) (how_V (ci := 4) jX4_isList jIX4_isList jVX4_isList rfl s0_74 (by decide) rfl rfl wX10_246 dX10_judge_5) rfl (Nat.le_refl _) (Nat.le_of_ble_eq_true rfl) (fun _ => Nat.le_of_ble_eq_true rfl) H (fun w2 I1 H => ?_)
  have ob3 := H.1
  have H := H.2
  refine r_if_eq (tgt := 19) dX10_judge_8 (by decide) ob3 (fun c4 => ?_) (fun c4 => ?_)
  · have H := H.1 c4
    refine r_iconst dX10_judge_19 ?_
    exact r_iret dX10_judge_20 rfl ⟨rfl, _, rfl, H⟩
  · have H := H.2 c4
    refine r_iload_n dX10_judge_11 rfl ?_
    refine r_iload_n dX10_judge_12 rfl ?_
    refine r_cI (as := [ax_i x2, ax_i x3]) (how_S jX10_isSpot jSX10_isSpot rfl wX10_125 dX10_judge_13) rfl (Nat.le_refl _) (Nat.le_of_ble_eq_true rfl) (fun _ => Nat.le_of_ble_eq_true rfl) H (fun w6 I5 H => ?_)
    have ob7 := H.1
    have H := H.2
    refine r_if_ne (tgt := 21) dX10_judge_16 (by decide) ob7 (fun c8 => ?_) (fun c8 => ?_)
    · have H := H.1 c8
      refine r_aload_n dX10_judge_21 rfl ?_
      refine r_getR clX10 8 (by decide) s0_0 rfl rfl wX10_62 dX10_judge_22 ?_
      refine r_iload_n dX10_judge_25 rfl ?_
      refine r_cI (as := [ax_r 74, ax_i x1]) (how_V (ci := 4) jX4_sizeOf jIX4_sizeOf jVX4_sizeOf rfl s0_74 (by decide) rfl rfl wX10_249 dX10_judge_26) rfl (Nat.le_refl _) (Nat.le_of_ble_eq_true rfl) (fun _ => Nat.le_of_ble_eq_true rfl) H (fun w10 I9 H => ?_)
      refine r_istore dX10_judge_29 (by decide) rfl ?_
      refine r_iload dX10_judge_31 rfl ?_
      have ob11 := H.1
      have H := H.2
      refine r_if_ge (tgt := 39) dX10_judge_33 (by decide) ob11 (fun c12 => ?_) (fun c12 => ?_)
      · have H := H.1 c12
        refine r_iload_n dX10_judge_39 rfl ?_
        refine r_bipush (v := 32) dX10_judge_40 (by decide) ?_
        refine r_imul dX10_judge_42 ?_
        refine r_iload_n dX10_judge_43 rfl ?_
        refine r_iadd dX10_judge_44 ?_
        refine r_name (fun y5_45 e13 => ?_)
        have H := H y5_45 e13
        refine r_istore dX10_judge_45 (by decide) rfl ?_
        refine r_iconst dX10_judge_47 ?_
        refine r_istore dX10_judge_48 (by decide) rfl ?_
        refine r_drop (ls2 := [some (ax_r 0), some (ax_i x1), none, none, some (ax_i w10), some (ax_i y5_45), some (ax_i 0), none, none]) ?_ (ax_leS (ax_leS (ax_leN (ax_leN (ax_leS (ax_leS (ax_leS (ax_leN (ax_leN ax_leE)))))))))
        exact H
      · have H := H.2 c12
        refine r_bipush (v := (-11)) dX10_judge_36 (by decide) ?_
        exact r_iret dX10_judge_38 rfl ⟨rfl, _, rfl, H⟩
    · have H := H.2 c8
      refine r_iconst dX10_judge_19 ?_
      exact r_iret dX10_judge_20 rfl ⟨rfl, _, rfl, H⟩

theorem vX10_judge_50 {d : Nat} {Q : Int → ax_H → Prop} {x1 : Int} {x4 : Int} {x5 : Int} {x6 : Int} {I : ax_H} (r4 : ax_R x4) (r5 : ax_R x5) (r6 : ax_R x6) (H :
  (x4 ≤ x6 →
    Q (-5) I) ∧
  (¬ x4 ≤ x6 →
    (0 ≤ x6 ∧ x6 < 2147483648) ∧
    (((x6 % 2) ≠ 0 →
      (0 ≤ x5 →
        (0 ≤ x5 ∧ x5 < 2147483648) ∧
        (∀ y8_119, y8_119 = (x5 % 32) →
        (cI (d + 3) kX4_numberAt [ax_r 74, ax_i x1, ax_i x6] I (fun w10 I9 =>
        ax_R w10 ∧
        (ax_R y8_119 ∧
        ((w10 = y8_119 →
          RI (d + 4) kX10_judge 50 [some (ax_r 0), some (ax_i x1), none, none, some (ax_i x4), some (ax_i x5), some (ax_i (x6 + 1)), none, none] I9 Q) ∧
        (¬ w10 = y8_119 →
          Q x6 I9))))))) ∧
      (¬ 0 ≤ x5 →
        cI (d + 3) kX4_numberAt [ax_r 74, ax_i x1, ax_i x6] I (fun w15 I14 =>
        ax_R w15 ∧
        ((w15 = (-1) →
          RI (d + 4) kX10_judge 50 [some (ax_r 0), some (ax_i x1), none, none, some (ax_i x4), some (ax_i x5), some (ax_i (x6 + 1)), none, none] I14 Q) ∧
        (¬ w15 = (-1) →
          Q x6 I14))))) ∧
    ((x6 % 2) = 0 →
      cI (d + 3) kX1_stepFrom [ax_r 1, ax_i x5] I (fun w20 I19 =>
      ax_R w20 ∧
      ((0 ≤ w20 →
        (0 ≤ w20 ∧ w20 < 2147483648) ∧
        (∀ y8_119, y8_119 = (w20 / 32) →
        (cI (d + 3) kX4_numberAt [ax_r 74, ax_i x1, ax_i x6] I19 (fun w27 I26 =>
        ax_R w27 ∧
        (ax_R y8_119 ∧
        ((w27 = y8_119 →
          RI (d + 4) kX10_judge 50 [some (ax_r 0), some (ax_i x1), none, none, some (ax_i x4), some (ax_i w20), some (ax_i (x6 + 1)), none, none] I26 Q) ∧
        (¬ w27 = y8_119 →
          Q x6 I26))))))) ∧
      (¬ 0 ≤ w20 →
        cI (d + 3) kX4_numberAt [ax_r 74, ax_i x1, ax_i x6] I19 (fun w32 I31 =>
        ax_R w32 ∧
        ((w32 = (-1) →
          RI (d + 4) kX10_judge 50 [some (ax_r 0), some (ax_i x1), none, none, some (ax_i x4), some (ax_i w20), some (ax_i (x6 + 1)), none, none] I31 Q) ∧
        (¬ w32 = (-1) →
          Q x6 I31)))))))))) :
  RI (d + 4) kX10_judge 50 [some (ax_r 0), some (ax_i x1), none, none, some (ax_i x4), some (ax_i x5), some (ax_i x6), none, none] I Q := by
  show Rn _ _ _ _ _ _ _ _
  refine r_iload dX10_judge_50 rfl ?_
  refine r_iload dX10_judge_52 rfl ?_
  refine r_icmp_ge (tgt := 145) dX10_judge_54 (by decide) r6 r4 (fun c1 => ?_) (fun c1 => ?_)
  · have H := H.1 c1
    refine r_bipush (v := (-5)) dX10_judge_145 (by decide) ?_
    exact r_iret dX10_judge_147 rfl ⟨rfl, _, rfl, H⟩
  · have H := H.2 c1
    refine r_iload dX10_judge_57 rfl ?_
    refine r_iconst dX10_judge_59 ?_
    have ob2 := H.1
    have H := H.2
    refine r_iremp dX10_judge_60 ob2 (by decide) ?_
    refine r_if_ne (tgt := 68) dX10_judge_61 (by decide) ⟨by omega, by omega⟩ (fun c3 => ?_) (fun c3 => ?_)
    · have H := H.1 c3
      refine r_iconst dX10_judge_68 ?_
      refine r_istore dX10_judge_69 (by decide) rfl ?_
      refine r_iload dX10_judge_71 rfl ?_
      refine r_if_eq (tgt := 88) dX10_judge_73 (by decide) (by decide) (fun c4 => ?_) (fun c4 => absurd c4 (by decide))
      refine r_iload dX10_judge_88 rfl ?_
      refine r_istore dX10_judge_90 (by decide) rfl ?_
      refine r_iload dX10_judge_92 rfl ?_
      refine r_if_ge (tgt := 101) dX10_judge_94 (by decide) r5 (fun c5 => ?_) (fun c5 => ?_)
      · have H := H.1 c5
        refine r_iload dX10_judge_101 rfl ?_
        refine r_if_eq (tgt := 114) dX10_judge_103 (by decide) (by decide) (fun c6 => ?_) (fun c6 => absurd c6 (by decide))
        refine r_iload dX10_judge_114 rfl ?_
        refine r_bipush (v := 32) dX10_judge_116 (by decide) ?_
        have ob7 := H.1
        have H := H.2
        refine r_iremp dX10_judge_118 ob7 (by decide) ?_
        refine r_name (fun y8_119 e8 => ?_)
        have H := H y8_119 e8
        refine r_istore dX10_judge_119 (by decide) rfl ?_
        refine r_aload_n dX10_judge_121 rfl ?_
        refine r_getR clX10 8 (by decide) s0_0 rfl rfl wX10_62 dX10_judge_122 ?_
        refine r_iload_n dX10_judge_125 rfl ?_
        refine r_iload dX10_judge_126 rfl ?_
        refine r_cI (as := [ax_r 74, ax_i x1, ax_i x6]) (how_V (ci := 4) jX4_numberAt jIX4_numberAt jVX4_numberAt rfl s0_74 (by decide) rfl rfl wX10_255 dX10_judge_128) rfl (Nat.le_refl _) (Nat.le_of_ble_eq_true rfl) (fun _ => Nat.le_of_ble_eq_true rfl) H (fun w10 I9 H => ?_)
        refine r_iload dX10_judge_131 rfl ?_
        have ob11 := H.1
        have H := H.2
        have ob12 := H.1
        have H := H.2
        refine r_icmp_eq (tgt := 139) dX10_judge_133 (by decide) ob11 ob12 (fun c13 => ?_) (fun c13 => ?_)
        · have H := H.1 c13
          refine r_iinc dX10_judge_139 (by decide) rfl rfl ?_
          refine r_goto (tgt := 50) dX10_judge_142 (by decide) ?_
          refine r_drop (ls2 := [some (ax_r 0), some (ax_i x1), none, none, some (ax_i x4), some (ax_i x5), some (ax_i (x6 + 1)), none, none]) ?_ (ax_leS (ax_leS (ax_leN (ax_leN (ax_leS (ax_leS (ax_leS (ax_leN (ax_leN ax_leE)))))))))
          exact H
        · have H := H.2 c13
          refine r_iload dX10_judge_136 rfl ?_
          exact r_iret dX10_judge_138 rfl ⟨rfl, _, rfl, H⟩
      · have H := H.2 c5
        refine r_iconst dX10_judge_97 ?_
        refine r_goto (tgt := 119) dX10_judge_98 (by decide) ?_
        refine r_istore dX10_judge_119 (by decide) rfl ?_
        refine r_aload_n dX10_judge_121 rfl ?_
        refine r_getR clX10 8 (by decide) s0_0 rfl rfl wX10_62 dX10_judge_122 ?_
        refine r_iload_n dX10_judge_125 rfl ?_
        refine r_iload dX10_judge_126 rfl ?_
        refine r_cI (as := [ax_r 74, ax_i x1, ax_i x6]) (how_V (ci := 4) jX4_numberAt jIX4_numberAt jVX4_numberAt rfl s0_74 (by decide) rfl rfl wX10_255 dX10_judge_128) rfl (Nat.le_refl _) (Nat.le_of_ble_eq_true rfl) (fun _ => Nat.le_of_ble_eq_true rfl) H (fun w15 I14 H => ?_)
        refine r_iload dX10_judge_131 rfl ?_
        have ob16 := H.1
        have H := H.2
        refine r_icmp_eq (tgt := 139) dX10_judge_133 (by decide) ob16 (by decide) (fun c17 => ?_) (fun c17 => ?_)
        · have H := H.1 c17
          refine r_iinc dX10_judge_139 (by decide) rfl rfl ?_
          refine r_goto (tgt := 50) dX10_judge_142 (by decide) ?_
          refine r_drop (ls2 := [some (ax_r 0), some (ax_i x1), none, none, some (ax_i x4), some (ax_i x5), some (ax_i (x6 + 1)), none, none]) ?_ (ax_leS (ax_leS (ax_leN (ax_leN (ax_leS (ax_leS (ax_leS (ax_leN (ax_leN ax_leE)))))))))
          exact H
        · have H := H.2 c17
          refine r_iload dX10_judge_136 rfl ?_
          exact r_iret dX10_judge_138 rfl ⟨rfl, _, rfl, H⟩
    · have H := H.2 c3
      refine r_iconst dX10_judge_64 ?_
      refine r_goto (tgt := 69) dX10_judge_65 (by decide) ?_
      refine r_istore dX10_judge_69 (by decide) rfl ?_
      refine r_iload dX10_judge_71 rfl ?_
      refine r_if_eq (tgt := 88) dX10_judge_73 (by decide) (by decide) (fun c18 => absurd c18 (by decide)) (fun c18 => ?_)
      refine r_aload_n dX10_judge_76 rfl ?_
      refine r_getR clX10 0 (by decide) s0_0 rfl rfl wX10_14 dX10_judge_77 ?_
      refine r_iload dX10_judge_80 rfl ?_
      refine r_cI (as := [ax_r 1, ax_i x5]) (how_V (ci := 1) jX1_stepFrom jIX1_stepFrom jVX1_stepFrom rfl s0_1 (by decide) rfl rfl wX10_252 dX10_judge_82) rfl (Nat.le_refl _) (Nat.le_of_ble_eq_true rfl) (fun _ => Nat.le_of_ble_eq_true rfl) H (fun w20 I19 H => ?_)
      refine r_goto (tgt := 90) dX10_judge_85 (by decide) ?_
      refine r_istore dX10_judge_90 (by decide) rfl ?_
      refine r_iload dX10_judge_92 rfl ?_
      have ob21 := H.1
      have H := H.2
      refine r_if_ge (tgt := 101) dX10_judge_94 (by decide) ob21 (fun c22 => ?_) (fun c22 => ?_)
      · have H := H.1 c22
        refine r_iload dX10_judge_101 rfl ?_
        refine r_if_eq (tgt := 114) dX10_judge_103 (by decide) (by decide) (fun c23 => absurd c23 (by decide)) (fun c23 => ?_)
        refine r_iload dX10_judge_106 rfl ?_
        refine r_bipush (v := 32) dX10_judge_108 (by decide) ?_
        have ob24 := H.1
        have H := H.2
        refine r_idivp dX10_judge_110 ob24 (by decide) ?_
        refine r_goto (tgt := 119) dX10_judge_111 (by decide) ?_
        refine r_name (fun y8_119 e25 => ?_)
        have H := H y8_119 e25
        refine r_istore dX10_judge_119 (by decide) rfl ?_
        refine r_aload_n dX10_judge_121 rfl ?_
        refine r_getR clX10 8 (by decide) s0_0 rfl rfl wX10_62 dX10_judge_122 ?_
        refine r_iload_n dX10_judge_125 rfl ?_
        refine r_iload dX10_judge_126 rfl ?_
        refine r_cI (as := [ax_r 74, ax_i x1, ax_i x6]) (how_V (ci := 4) jX4_numberAt jIX4_numberAt jVX4_numberAt rfl s0_74 (by decide) rfl rfl wX10_255 dX10_judge_128) rfl (Nat.le_refl _) (Nat.le_of_ble_eq_true rfl) (fun _ => Nat.le_of_ble_eq_true rfl) H (fun w27 I26 H => ?_)
        refine r_iload dX10_judge_131 rfl ?_
        have ob28 := H.1
        have H := H.2
        have ob29 := H.1
        have H := H.2
        refine r_icmp_eq (tgt := 139) dX10_judge_133 (by decide) ob28 ob29 (fun c30 => ?_) (fun c30 => ?_)
        · have H := H.1 c30
          refine r_iinc dX10_judge_139 (by decide) rfl rfl ?_
          refine r_goto (tgt := 50) dX10_judge_142 (by decide) ?_
          refine r_drop (ls2 := [some (ax_r 0), some (ax_i x1), none, none, some (ax_i x4), some (ax_i w20), some (ax_i (x6 + 1)), none, none]) ?_ (ax_leS (ax_leS (ax_leN (ax_leN (ax_leS (ax_leS (ax_leS (ax_leN (ax_leN ax_leE)))))))))
          exact H
        · have H := H.2 c30
          refine r_iload dX10_judge_136 rfl ?_
          exact r_iret dX10_judge_138 rfl ⟨rfl, _, rfl, H⟩
      · have H := H.2 c22
        refine r_iconst dX10_judge_97 ?_
        refine r_goto (tgt := 119) dX10_judge_98 (by decide) ?_
        refine r_istore dX10_judge_119 (by decide) rfl ?_
        refine r_aload_n dX10_judge_121 rfl ?_
        refine r_getR clX10 8 (by decide) s0_0 rfl rfl wX10_62 dX10_judge_122 ?_
        refine r_iload_n dX10_judge_125 rfl ?_
        refine r_iload dX10_judge_126 rfl ?_
        refine r_cI (as := [ax_r 74, ax_i x1, ax_i x6]) (how_V (ci := 4) jX4_numberAt jIX4_numberAt jVX4_numberAt rfl s0_74 (by decide) rfl rfl wX10_255 dX10_judge_128) rfl (Nat.le_refl _) (Nat.le_of_ble_eq_true rfl) (fun _ => Nat.le_of_ble_eq_true rfl) H (fun w32 I31 H => ?_)
        refine r_iload dX10_judge_131 rfl ?_
        have ob33 := H.1
        have H := H.2
        refine r_icmp_eq (tgt := 139) dX10_judge_133 (by decide) ob33 (by decide) (fun c34 => ?_) (fun c34 => ?_)
        · have H := H.1 c34
          refine r_iinc dX10_judge_139 (by decide) rfl rfl ?_
          refine r_goto (tgt := 50) dX10_judge_142 (by decide) ?_
          refine r_drop (ls2 := [some (ax_r 0), some (ax_i x1), none, none, some (ax_i x4), some (ax_i w20), some (ax_i (x6 + 1)), none, none]) ?_ (ax_leS (ax_leS (ax_leN (ax_leN (ax_leS (ax_leS (ax_leS (ax_leN (ax_leN ax_leE)))))))))
          exact H
        · have H := H.2 c34
          refine r_iload dX10_judge_136 rfl ?_
          exact r_iret dX10_judge_138 rfl ⟨rfl, _, rfl, H⟩

theorem vX10_list_0 {d : Nat} {Q : Int → ax_H → Prop} {x1 : Int} {x2 : Int} {I : ax_H} (r2 : ax_R x2) (H :
  cI (d + 1) kX4_isList [ax_r 74, ax_i x1] I (fun w2 I1 =>
  ax_R w2 ∧
  ((w2 ≠ 0 →
    (x2 ≤ 12 →
      (0 ≤ x2 →
        cV (d + 1) kX4_renew [ax_r 74, ax_i x1, ax_i x2] I1 (fun I7 =>
        Q 1 I7)) ∧
      (¬ 0 ≤ x2 →
        Q (-14) I1)) ∧
    (¬ x2 ≤ 12 →
      Q (-2) I1)) ∧
  (w2 = 0 →
    Q (-1) I1)))) :
  RI (d + 2) kX10_list 0 [some (ax_r 0), some (ax_i x1), some (ax_i x2)] I Q := by
  show Rn _ _ _ _ _ _ _ _
  refine r_aload_n dX10_list_0 rfl ?_
  refine r_getR clX10 8 (by decide) s0_0 rfl rfl wX10_62 dX10_list_1 ?_
  refine r_iload_n dX10_list_4 rfl ?_
  refine r_cI (as := [ax_r 74, ax_i x1]) (how_V (ci := 4) jX4_isList jIX4_isList jVX4_isList rfl s0_74 (by decide) rfl rfl wX10_246 dX10_list_5) rfl (Nat.le_refl _) (Nat.le_of_ble_eq_true rfl) (fun _ => Nat.le_of_ble_eq_true rfl) H (fun w2 I1 H => ?_)
  have ob3 := H.1
  have H := H.2
  refine r_if_ne (tgt := 13) dX10_list_8 (by decide) ob3 (fun c4 => ?_) (fun c4 => ?_)
  · have H := H.1 c4
    refine r_iload_n dX10_list_13 rfl ?_
    refine r_bipush (v := 12) dX10_list_14 (by decide) ?_
    refine r_icmp_le (tgt := 22) dX10_list_16 (by decide) r2 (by decide) (fun c5 => ?_) (fun c5 => ?_)
    · have H := H.1 c5
      refine r_iload_n dX10_list_22 rfl ?_
      refine r_if_ge (tgt := 29) dX10_list_23 (by decide) r2 (fun c6 => ?_) (fun c6 => ?_)
      · have H := H.1 c6
        refine r_aload_n dX10_list_29 rfl ?_
        refine r_getR clX10 8 (by decide) s0_0 rfl rfl wX10_62 dX10_list_30 ?_
        refine r_iload_n dX10_list_33 rfl ?_
        refine r_iload_n dX10_list_34 rfl ?_
        refine r_cV (as := [ax_r 74, ax_i x1, ax_i x2]) (how_V (ci := 4) jX4_renew jIX4_renew jVX4_renew rfl s0_74 (by decide) rfl rfl wX10_257 dX10_list_35) rfl (Nat.le_refl _) (Nat.le_of_ble_eq_true rfl) (fun _ => Nat.le_of_ble_eq_true rfl) H (fun I7 H => ?_)
        refine r_iconst dX10_list_38 ?_
        exact r_iret dX10_list_39 rfl ⟨rfl, _, rfl, H⟩
      · have H := H.2 c6
        refine r_bipush (v := (-14)) dX10_list_26 (by decide) ?_
        exact r_iret dX10_list_28 rfl ⟨rfl, _, rfl, H⟩
    · have H := H.2 c5
      refine r_bipush (v := (-2)) dX10_list_19 (by decide) ?_
      exact r_iret dX10_list_21 rfl ⟨rfl, _, rfl, H⟩
  · have H := H.2 c4
    refine r_iconst dX10_list_11 ?_
    exact r_iret dX10_list_12 rfl ⟨rfl, _, rfl, H⟩

theorem vX10_put_0 {d : Nat} {Q : Int → ax_H → Prop} {x1 : Int} {x2 : Int} {x3 : Int} {I : ax_H} (H :
  cI (d + 3) kX4_isList [ax_r 74, ax_i x1] I (fun w2 I1 =>
  ax_R w2 ∧
  ((w2 ≠ 0 →
    cI (d + 3) kX4_sizeOf [ax_r 74, ax_i x1] I1 (fun w6 I5 =>
    ax_R w6 ∧
    ((0 ≤ w6 →
      cI (d + 3) kX4_hasPlace [ax_r 74, ax_i x1, ax_i x2] I5 (fun w10 I9 =>
      ax_R w10 ∧
      ((w10 ≠ 0 →
        cV (d + 3) kX4_change [ax_r 74, ax_i x1, ax_i x2, ax_i x3] I9 (fun I13 =>
        Q 1 I13)) ∧
      (w10 = 0 →
        Q (-13) I9)))) ∧
    (¬ 0 ≤ w6 →
      Q (-11) I5)))) ∧
  (w2 = 0 →
    Q (-1) I1)))) :
  RI (d + 4) kX10_put 0 [some (ax_r 0), some (ax_i x1), some (ax_i x2), some (ax_i x3)] I Q := by
  show Rn _ _ _ _ _ _ _ _
  refine r_aload_n dX10_put_0 rfl ?_
  refine r_getR clX10 8 (by decide) s0_0 rfl rfl wX10_62 dX10_put_1 ?_
  refine r_iload_n dX10_put_4 rfl ?_
  refine r_cI (as := [ax_r 74, ax_i x1]) (how_V (ci := 4) jX4_isList jIX4_isList jVX4_isList rfl s0_74 (by decide) rfl rfl wX10_246 dX10_put_5) rfl (Nat.le_refl _) (Nat.le_of_ble_eq_true rfl) (fun _ => Nat.le_of_ble_eq_true rfl) H (fun w2 I1 H => ?_)
  have ob3 := H.1
  have H := H.2
  refine r_if_ne (tgt := 13) dX10_put_8 (by decide) ob3 (fun c4 => ?_) (fun c4 => ?_)
  · have H := H.1 c4
    refine r_aload_n dX10_put_13 rfl ?_
    refine r_getR clX10 8 (by decide) s0_0 rfl rfl wX10_62 dX10_put_14 ?_
    refine r_iload_n dX10_put_17 rfl ?_
    refine r_cI (as := [ax_r 74, ax_i x1]) (how_V (ci := 4) jX4_sizeOf jIX4_sizeOf jVX4_sizeOf rfl s0_74 (by decide) rfl rfl wX10_249 dX10_put_18) rfl (Nat.le_refl _) (Nat.le_of_ble_eq_true rfl) (fun _ => Nat.le_of_ble_eq_true rfl) H (fun w6 I5 H => ?_)
    have ob7 := H.1
    have H := H.2
    refine r_if_ge (tgt := 27) dX10_put_21 (by decide) ob7 (fun c8 => ?_) (fun c8 => ?_)
    · have H := H.1 c8
      refine r_aload_n dX10_put_27 rfl ?_
      refine r_getR clX10 8 (by decide) s0_0 rfl rfl wX10_62 dX10_put_28 ?_
      refine r_iload_n dX10_put_31 rfl ?_
      refine r_iload_n dX10_put_32 rfl ?_
      refine r_cI (as := [ax_r 74, ax_i x1, ax_i x2]) (how_V (ci := 4) jX4_hasPlace jIX4_hasPlace jVX4_hasPlace rfl s0_74 (by decide) rfl rfl wX10_260 dX10_put_33) rfl (Nat.le_refl _) (Nat.le_of_ble_eq_true rfl) (fun _ => Nat.le_of_ble_eq_true rfl) H (fun w10 I9 H => ?_)
      have ob11 := H.1
      have H := H.2
      refine r_if_ne (tgt := 42) dX10_put_36 (by decide) ob11 (fun c12 => ?_) (fun c12 => ?_)
      · have H := H.1 c12
        refine r_aload_n dX10_put_42 rfl ?_
        refine r_getR clX10 8 (by decide) s0_0 rfl rfl wX10_62 dX10_put_43 ?_
        refine r_iload_n dX10_put_46 rfl ?_
        refine r_iload_n dX10_put_47 rfl ?_
        refine r_iload_n dX10_put_48 rfl ?_
        refine r_cV (as := [ax_r 74, ax_i x1, ax_i x2, ax_i x3]) (how_V (ci := 4) jX4_change jIX4_change jVX4_change rfl s0_74 (by decide) rfl rfl wX10_263 dX10_put_49) rfl (Nat.le_refl _) (Nat.le_of_ble_eq_true rfl) (fun _ => Nat.le_of_ble_eq_true rfl) H (fun I13 H => ?_)
        refine r_iconst dX10_put_52 ?_
        exact r_iret dX10_put_53 rfl ⟨rfl, _, rfl, H⟩
      · have H := H.2 c12
        refine r_bipush (v := (-13)) dX10_put_39 (by decide) ?_
        exact r_iret dX10_put_41 rfl ⟨rfl, _, rfl, H⟩
    · have H := H.2 c8
      refine r_bipush (v := (-11)) dX10_put_24 (by decide) ?_
      exact r_iret dX10_put_26 rfl ⟨rfl, _, rfl, H⟩
  · have H := H.2 c4
    refine r_iconst dX10_put_11 ?_
    exact r_iret dX10_put_12 rfl ⟨rfl, _, rfl, H⟩

theorem vX10_get_0 {d : Nat} {Q : Int → ax_H → Prop} {x1 : Int} {x2 : Int} {I : ax_H} (H :
  cI (d + 3) kX4_hasPlace [ax_r 74, ax_i x1, ax_i x2] I (fun w2 I1 =>
  ax_R w2 ∧
  ((w2 = 0 →
    Q (-9223372036854775808) I1) ∧
  (¬ w2 = 0 →
    cI (d + 3) kX4_numberAt [ax_r 74, ax_i x1, ax_i x2] I1 (fun w6 I5 =>
    ax_R w6 ∧
    (Q w6 I5)))))) :
  RJ (d + 4) kX10_get 0 [some (ax_r 0), some (ax_i x1), some (ax_i x2)] I Q := by
  show Rn _ _ _ _ _ _ _ _
  refine r_aload_n dX10_get_0 rfl ?_
  refine r_getR clX10 8 (by decide) s0_0 rfl rfl wX10_62 dX10_get_1 ?_
  refine r_iload_n dX10_get_4 rfl ?_
  refine r_iload_n dX10_get_5 rfl ?_
  refine r_cI (as := [ax_r 74, ax_i x1, ax_i x2]) (how_V (ci := 4) jX4_hasPlace jIX4_hasPlace jVX4_hasPlace rfl s0_74 (by decide) rfl rfl wX10_260 dX10_get_6) rfl (Nat.le_refl _) (Nat.le_of_ble_eq_true rfl) (fun _ => Nat.le_of_ble_eq_true rfl) H (fun w2 I1 H => ?_)
  have ob3 := H.1
  have H := H.2
  refine r_if_eq (tgt := 25) dX10_get_9 (by decide) ob3 (fun c4 => ?_) (fun c4 => ?_)
  · have H := H.1 c4
    refine r_ldc2 (v := (-9223372036854775808)) dX10_get_25 wX10_152 ?_
    exact r_lret dX10_get_28 rfl ⟨rfl, _, rfl, H⟩
  · have H := H.2 c4
    refine r_aload_n dX10_get_12 rfl ?_
    refine r_getR clX10 8 (by decide) s0_0 rfl rfl wX10_62 dX10_get_13 ?_
    refine r_iload_n dX10_get_16 rfl ?_
    refine r_iload_n dX10_get_17 rfl ?_
    refine r_cI (as := [ax_r 74, ax_i x1, ax_i x2]) (how_V (ci := 4) jX4_numberAt jIX4_numberAt jVX4_numberAt rfl s0_74 (by decide) rfl rfl wX10_255 dX10_get_18) rfl (Nat.le_refl _) (Nat.le_of_ble_eq_true rfl) (fun _ => Nat.le_of_ble_eq_true rfl) H (fun w6 I5 H => ?_)
    have ob7 := H.1
    have H := H.2
    refine r_i2l dX10_get_21 ob7 ?_
    refine r_goto (tgt := 28) dX10_get_22 (by decide) ?_
    exact r_lret dX10_get_28 rfl ⟨rfl, _, rfl, H⟩

theorem vX10_image_0 {d : Nat} {Q : Int → ax_H → Prop} {I : ax_H} (H :
  cV (d + 1) kX9_copyFrom [ax_r 78, ax_r 2] I (fun I1 =>
  cV (d + 1) kX8_copyFrom [ax_r 80, ax_r 63] I1 (fun I2 =>
  cV (d + 1) kX6_copyFrom [ax_r 82, ax_r 67] I2 (fun I3 =>
  Q ((ax_st I3 0 13 1) 63 1) (ax_st I3 0 13 1))))) :
  RI (d + 2) kX10_image 0 [some (ax_r 0)] I Q := by
  show Rn _ _ _ _ _ _ _ _
  refine r_aload_n dX10_image_0 rfl ?_
  refine r_getR clX10 10 (by decide) s0_0 rfl rfl wX10_73 dX10_image_1 ?_
  refine r_aload_n dX10_image_4 rfl ?_
  refine r_getR clX10 0 (by decide) s0_0 rfl rfl wX10_14 dX10_image_5 ?_
  refine r_getR clX1 0 (by decide) s0_1 rfl rfl wX10_95 dX10_image_8 ?_
  refine r_cV (as := [ax_r 78, ax_r 2]) (how_V (ci := 9) jX9_copyFrom jIX9_copyFrom jVX9_copyFrom rfl s0_78 (by decide) rfl rfl wX10_266 dX10_image_11) rfl (Nat.le_refl _) (Nat.le_of_ble_eq_true rfl) (fun _ => Nat.le_of_ble_eq_true rfl) H (fun I1 H => ?_)
  refine r_aload_n dX10_image_14 rfl ?_
  refine r_getR clX10 11 (by decide) s0_0 rfl rfl wX10_77 dX10_image_15 ?_
  refine r_aload_n dX10_image_18 rfl ?_
  refine r_getR clX10 3 (by decide) s0_0 rfl rfl wX10_35 dX10_image_19 ?_
  refine r_cV (as := [ax_r 80, ax_r 63]) (how_V (ci := 8) jX8_copyFrom jIX8_copyFrom jVX8_copyFrom rfl s0_80 (by decide) rfl rfl wX10_209 dX10_image_22) rfl (Nat.le_refl _) (Nat.le_of_ble_eq_true rfl) (fun _ => Nat.le_of_ble_eq_true rfl) H (fun I2 H => ?_)
  refine r_aload_n dX10_image_25 rfl ?_
  refine r_getR clX10 12 (by decide) s0_0 rfl rfl wX10_80 dX10_image_26 ?_
  refine r_aload_n dX10_image_29 rfl ?_
  refine r_getR clX10 5 (by decide) s0_0 rfl rfl wX10_45 dX10_image_30 ?_
  refine r_cV (as := [ax_r 82, ax_r 67]) (how_V (ci := 6) jX6_copyFrom jIX6_copyFrom jVX6_copyFrom rfl s0_82 (by decide) rfl rfl wX10_269 dX10_image_33) rfl (Nat.le_refl _) (Nat.le_of_ble_eq_true rfl) (fun _ => Nat.le_of_ble_eq_true rfl) H (fun I3 H => ?_)
  refine r_aload_n dX10_image_36 rfl ?_
  refine r_iconst dX10_image_37 ?_
  refine r_putI clX10 13 13 (by decide) s0_0 rfl rfl rfl (by decide) (by decide) (by decide) wX10_83 dX10_image_38 ?_
  refine r_aload_n dX10_image_41 rfl ?_
  refine r_getR clX10 3 (by decide) s0_0 rfl rfl wX10_35 dX10_image_42 ?_
  refine r_getI clX8 1 1 (by decide) s0_63 rfl rfl wX10_198 dX10_image_45 ?_
  exact r_iret dX10_image_48 rfl ⟨rfl, _, rfl, H⟩

theorem vX10_undo_0 {d : Nat} {Q : Int → ax_H → Prop} {I : ax_H} (H :
  ((I 0 13) ≠ 0 →
    cV (d + 2) kX1_changeBack [ax_r 1, ax_r 78] I (fun I3 =>
    cV (d + 2) kX8_copyFrom [ax_r 63, ax_r 80] I3 (fun I4 =>
    cV (d + 2) kX6_copyFrom [ax_r 67, ax_r 82] I4 (fun I5 =>
    Q (I5 63 1) I5)))) ∧
  ((I 0 13) = 0 →
    Q (-3) I)) :
  RI (d + 3) kX10_undo 0 [some (ax_r 0)] I Q := by
  show Rn _ _ _ _ _ _ _ _
  refine r_aload_n dX10_undo_0 rfl ?_
  refine r_getI clX10 13 13 (by decide) s0_0 rfl rfl wX10_83 dX10_undo_1 ?_
  refine r_heapR (fun hI1 => ?_)
  refine r_if_ne (tgt := 10) dX10_undo_4 (by decide) (hI1 _ _) (fun c2 => ?_) (fun c2 => ?_)
  · have H := H.1 c2
    refine r_aload_n dX10_undo_10 rfl ?_
    refine r_getR clX10 0 (by decide) s0_0 rfl rfl wX10_14 dX10_undo_11 ?_
    refine r_aload_n dX10_undo_14 rfl ?_
    refine r_getR clX10 10 (by decide) s0_0 rfl rfl wX10_73 dX10_undo_15 ?_
    refine r_cV (as := [ax_r 1, ax_r 78]) (how_V (ci := 1) jX1_changeBack jIX1_changeBack jVX1_changeBack rfl s0_1 (by decide) rfl rfl wX10_272 dX10_undo_18) rfl (Nat.le_refl _) (Nat.le_of_ble_eq_true rfl) (fun _ => Nat.le_of_ble_eq_true rfl) H (fun I3 H => ?_)
    refine r_aload_n dX10_undo_21 rfl ?_
    refine r_getR clX10 3 (by decide) s0_0 rfl rfl wX10_35 dX10_undo_22 ?_
    refine r_aload_n dX10_undo_25 rfl ?_
    refine r_getR clX10 11 (by decide) s0_0 rfl rfl wX10_77 dX10_undo_26 ?_
    refine r_cV (as := [ax_r 63, ax_r 80]) (how_V (ci := 8) jX8_copyFrom jIX8_copyFrom jVX8_copyFrom rfl s0_63 (by decide) rfl rfl wX10_209 dX10_undo_29) rfl (Nat.le_refl _) (Nat.le_of_ble_eq_true rfl) (fun _ => Nat.le_of_ble_eq_true rfl) H (fun I4 H => ?_)
    refine r_aload_n dX10_undo_32 rfl ?_
    refine r_getR clX10 5 (by decide) s0_0 rfl rfl wX10_45 dX10_undo_33 ?_
    refine r_aload_n dX10_undo_36 rfl ?_
    refine r_getR clX10 12 (by decide) s0_0 rfl rfl wX10_80 dX10_undo_37 ?_
    refine r_cV (as := [ax_r 67, ax_r 82]) (how_V (ci := 6) jX6_copyFrom jIX6_copyFrom jVX6_copyFrom rfl s0_67 (by decide) rfl rfl wX10_269 dX10_undo_40) rfl (Nat.le_refl _) (Nat.le_of_ble_eq_true rfl) (fun _ => Nat.le_of_ble_eq_true rfl) H (fun I5 H => ?_)
    refine r_aload_n dX10_undo_43 rfl ?_
    refine r_getR clX10 3 (by decide) s0_0 rfl rfl wX10_35 dX10_undo_44 ?_
    refine r_getI clX8 1 1 (by decide) s0_63 rfl rfl wX10_198 dX10_undo_47 ?_
    exact r_iret dX10_undo_50 rfl ⟨rfl, _, rfl, H⟩
  · have H := H.2 c2
    refine r_bipush (v := (-3)) dX10_undo_7 (by decide) ?_
    exact r_iret dX10_undo_9 rfl ⟨rfl, _, rfl, H⟩

theorem vX10_count_0 {d : Nat} {Q : Int → ax_H → Prop} {x1 : Int} {I : ax_H} (r1 : ax_R x1) (H :
  (x1 = 0 →
    Q (I 63 1) I) ∧
  (x1 = 1 →
    cI d kX9_notZero [ax_r 2] I (fun w2 I1 =>
    Q w2 I1)) ∧
  (x1 = 2 →
    Q (I 70 1) I) ∧
  (x1 = 3 →
    Q (I 72 1) I) ∧
  (x1 = 4 →
    Q (I 67 2) I) ∧
  ((x1 < 0 ∨ 4 < x1) →
    Q (-2) I)) :
  RI (d + 1) kX10_count 0 [some (ax_r 0), some (ax_i x1)] I Q := by
  show Rn _ _ _ _ _ _ _ _
  refine r_iload_n dX10_count_0 rfl ?_
  have hcs : x1 = 0 ∨ x1 = 1 ∨ x1 = 2 ∨ x1 = 3 ∨ x1 = 4 ∨ (x1 < 0 ∨ 4 < x1) := by omega
  rcases hcs with hc | hc | hc | hc | hc | hc
  · have H := H.1 hc
    refine r_tswIn (tgt := 36) dX10_count_1 r1 (by omega) (by omega) (off := 35) (by rw [hc]; rfl) (by decide) ?_
    refine r_aload_n dX10_count_36 rfl ?_
    refine r_getR clX10 3 (by decide) s0_0 rfl rfl wX10_35 dX10_count_37 ?_
    refine r_getI clX8 1 1 (by decide) s0_63 rfl rfl wX10_198 dX10_count_40 ?_
    exact r_iret dX10_count_43 rfl ⟨rfl, _, rfl, H⟩
  · have H := H.2.1 hc
    refine r_tswIn (tgt := 44) dX10_count_1 r1 (by omega) (by omega) (off := 43) (by rw [hc]; rfl) (by decide) ?_
    refine r_aload_n dX10_count_44 rfl ?_
    refine r_getR clX10 0 (by decide) s0_0 rfl rfl wX10_14 dX10_count_45 ?_
    refine r_getR clX1 0 (by decide) s0_1 rfl rfl wX10_95 dX10_count_48 ?_
    refine r_cI (as := [ax_r 2]) (how_V (ci := 9) jX9_notZero jIX9_notZero jVX9_notZero rfl s0_2 (by decide) rfl rfl wX10_275 dX10_count_51) rfl (Nat.le_refl _) (Nat.le_of_ble_eq_true rfl) (fun _ => Nat.le_of_ble_eq_true rfl) H (fun w2 I1 H => ?_)
    exact r_iret dX10_count_54 rfl ⟨rfl, _, rfl, H⟩
  · have H := H.2.2.1 hc
    refine r_tswIn (tgt := 55) dX10_count_1 r1 (by omega) (by omega) (off := 54) (by rw [hc]; rfl) (by decide) ?_
    refine r_aload_n dX10_count_55 rfl ?_
    refine r_getR clX10 6 (by decide) s0_0 rfl rfl wX10_52 dX10_count_56 ?_
    refine r_getI clX0 1 1 (by decide) s0_70 rfl rfl wX10_106 dX10_count_59 ?_
    exact r_iret dX10_count_62 rfl ⟨rfl, _, rfl, H⟩
  · have H := H.2.2.2.1 hc
    refine r_tswIn (tgt := 63) dX10_count_1 r1 (by omega) (by omega) (off := 62) (by rw [hc]; rfl) (by decide) ?_
    refine r_aload_n dX10_count_63 rfl ?_
    refine r_getR clX10 7 (by decide) s0_0 rfl rfl wX10_56 dX10_count_64 ?_
    refine r_getI clX0 1 1 (by decide) s0_72 rfl rfl wX10_106 dX10_count_67 ?_
    exact r_iret dX10_count_70 rfl ⟨rfl, _, rfl, H⟩
  · have H := H.2.2.2.2.1 hc
    refine r_tswIn (tgt := 71) dX10_count_1 r1 (by omega) (by omega) (off := 70) (by rw [hc]; rfl) (by decide) ?_
    refine r_aload_n dX10_count_71 rfl ?_
    refine r_getR clX10 5 (by decide) s0_0 rfl rfl wX10_45 dX10_count_72 ?_
    refine r_getI clX6 2 2 (by decide) s0_67 rfl rfl wX10_227 dX10_count_75 ?_
    exact r_iret dX10_count_78 rfl ⟨rfl, _, rfl, H⟩
  · have H := H.2.2.2.2.2 hc
    refine r_tswOut (tgt := 79) dX10_count_1 r1 hc (by decide) ?_
    refine r_bipush (v := (-2)) dX10_count_79 (by decide) ?_
    exact r_iret dX10_count_81 rfl ⟨rfl, _, rfl, H⟩

theorem vX10_isNumber_0 {d : Nat} {Q : Int → ax_H → Prop} {x0 : Int} {I : ax_H} (r0 : ax_R x0) (H :
  (x0 < 0 →
    Q 0 I) ∧
  (¬ x0 < 0 →
    (31 ≤ x0 →
      Q 0 I) ∧
    (¬ 31 ≤ x0 →
      Q 1 I))) :
  RI d kX10_isNumber 0 [some (ax_i x0)] I Q := by
  show Rn _ _ _ _ _ _ _ _
  refine r_iload_n dX10_isNumber_0 rfl ?_
  refine r_if_lt (tgt := 14) dX10_isNumber_1 (by decide) r0 (fun c1 => ?_) (fun c1 => ?_)
  · have H := H.1 c1
    refine r_iconst dX10_isNumber_14 ?_
    exact r_zret dX10_isNumber_15 rfl (by decide) ⟨rfl, _, rfl, H⟩
  · have H := H.2 c1
    refine r_iload_n dX10_isNumber_4 rfl ?_
    refine r_bipush (v := 31) dX10_isNumber_5 (by decide) ?_
    refine r_icmp_ge (tgt := 14) dX10_isNumber_7 (by decide) r0 (by decide) (fun c2 => ?_) (fun c2 => ?_)
    · have H := H.1 c2
      refine r_iconst dX10_isNumber_14 ?_
      exact r_zret dX10_isNumber_15 rfl (by decide) ⟨rfl, _, rfl, H⟩
    · have H := H.2 c2
      refine r_iconst dX10_isNumber_10 ?_
      refine r_goto (tgt := 15) dX10_isNumber_11 (by decide) ?_
      exact r_zret dX10_isNumber_15 rfl (by decide) ⟨rfl, _, rfl, H⟩

theorem vX10_isCoordinate_0 {d : Nat} {Q : Int → ax_H → Prop} {x0 : Int} {I : ax_H} (r0 : ax_R x0) (H :
  (x0 < 0 →
    Q 0 I) ∧
  (¬ x0 < 0 →
    (32 ≤ x0 →
      Q 0 I) ∧
    (¬ 32 ≤ x0 →
      Q 1 I))) :
  RI d kX10_isCoordinate 0 [some (ax_i x0)] I Q := by
  show Rn _ _ _ _ _ _ _ _
  refine r_iload_n dX10_isCoordinate_0 rfl ?_
  refine r_if_lt (tgt := 14) dX10_isCoordinate_1 (by decide) r0 (fun c1 => ?_) (fun c1 => ?_)
  · have H := H.1 c1
    refine r_iconst dX10_isCoordinate_14 ?_
    exact r_zret dX10_isCoordinate_15 rfl (by decide) ⟨rfl, _, rfl, H⟩
  · have H := H.2 c1
    refine r_iload_n dX10_isCoordinate_4 rfl ?_
    refine r_bipush (v := 32) dX10_isCoordinate_5 (by decide) ?_
    refine r_icmp_ge (tgt := 14) dX10_isCoordinate_7 (by decide) r0 (by decide) (fun c2 => ?_) (fun c2 => ?_)
    · have H := H.1 c2
      refine r_iconst dX10_isCoordinate_14 ?_
      exact r_zret dX10_isCoordinate_15 rfl (by decide) ⟨rfl, _, rfl, H⟩
    · have H := H.2 c2
      refine r_iconst dX10_isCoordinate_10 ?_
      refine r_goto (tgt := 15) dX10_isCoordinate_11 (by decide) ?_
      exact r_zret dX10_isCoordinate_15 rfl (by decide) ⟨rfl, _, rfl, H⟩

theorem vX10_isSpot_0 {d : Nat} {Q : Int → ax_H → Prop} {x0 : Int} {x1 : Int} {I : ax_H} (H :
  cI d kX10_isCoordinate [ax_i x0] I (fun w2 I1 =>
  ax_R w2 ∧
  ((w2 = 0 →
    Q 0 I1) ∧
  (¬ w2 = 0 →
    cI d kX10_isCoordinate [ax_i x1] I1 (fun w6 I5 =>
    ax_R w6 ∧
    ((w6 = 0 →
      Q 0 I5) ∧
    (¬ w6 = 0 →
      Q 1 I5))))))) :
  RI (d + 1) kX10_isSpot 0 [some (ax_i x0), some (ax_i x1)] I Q := by
  show Rn _ _ _ _ _ _ _ _
  refine r_iload_n dX10_isSpot_0 rfl ?_
  refine r_cI (as := [ax_i x0]) (how_S jX10_isCoordinate jSX10_isCoordinate rfl wX10_142 dX10_isSpot_1) rfl (Nat.le_refl _) (Nat.le_of_ble_eq_true rfl) (fun _ => Nat.le_of_ble_eq_true rfl) H (fun w2 I1 H => ?_)
  have ob3 := H.1
  have H := H.2
  refine r_if_eq (tgt := 18) dX10_isSpot_4 (by decide) ob3 (fun c4 => ?_) (fun c4 => ?_)
  · have H := H.1 c4
    refine r_iconst dX10_isSpot_18 ?_
    exact r_zret dX10_isSpot_19 rfl (by decide) ⟨rfl, _, rfl, H⟩
  · have H := H.2 c4
    refine r_iload_n dX10_isSpot_7 rfl ?_
    refine r_cI (as := [ax_i x1]) (how_S jX10_isCoordinate jSX10_isCoordinate rfl wX10_142 dX10_isSpot_8) rfl (Nat.le_refl _) (Nat.le_of_ble_eq_true rfl) (fun _ => Nat.le_of_ble_eq_true rfl) H (fun w6 I5 H => ?_)
    have ob7 := H.1
    have H := H.2
    refine r_if_eq (tgt := 18) dX10_isSpot_11 (by decide) ob7 (fun c8 => ?_) (fun c8 => ?_)
    · have H := H.1 c8
      refine r_iconst dX10_isSpot_18 ?_
      exact r_zret dX10_isSpot_19 rfl (by decide) ⟨rfl, _, rfl, H⟩
    · have H := H.2 c8
      refine r_iconst dX10_isSpot_14 ?_
      refine r_goto (tgt := 19) dX10_isSpot_15 (by decide) ?_
      exact r_zret dX10_isSpot_19 rfl (by decide) ⟨rfl, _, rfl, H⟩

theorem vX10_isAxis_0 {d : Nat} {Q : Int → ax_H → Prop} {x0 : Int} {I : ax_H} (r0 : ax_R x0) (H :
  (x0 = 0 →
    Q 1 I) ∧
  (¬ x0 = 0 →
    (x0 ≠ 1 →
      Q 0 I) ∧
    (x0 = 1 →
      Q 1 I))) :
  RI d kX10_isAxis 0 [some (ax_i x0)] I Q := by
  show Rn _ _ _ _ _ _ _ _
  refine r_iload_n dX10_isAxis_0 rfl ?_
  refine r_if_eq (tgt := 9) dX10_isAxis_1 (by decide) r0 (fun c1 => ?_) (fun c1 => ?_)
  · have H := H.1 c1
    refine r_iconst dX10_isAxis_9 ?_
    refine r_goto (tgt := 14) dX10_isAxis_10 (by decide) ?_
    exact r_zret dX10_isAxis_14 rfl (by decide) ⟨rfl, _, rfl, H⟩
  · have H := H.2 c1
    refine r_iload_n dX10_isAxis_4 rfl ?_
    refine r_iconst dX10_isAxis_5 ?_
    refine r_icmp_ne (tgt := 13) dX10_isAxis_6 (by decide) r0 (by decide) (fun c2 => ?_) (fun c2 => ?_)
    · have H := H.1 c2
      refine r_iconst dX10_isAxis_13 ?_
      exact r_zret dX10_isAxis_14 rfl (by decide) ⟨rfl, _, rfl, H⟩
    · have H := H.2 c2
      refine r_iconst dX10_isAxis_9 ?_
      refine r_goto (tgt := 14) dX10_isAxis_10 (by decide) ?_
      exact r_zret dX10_isAxis_14 rfl (by decide) ⟨rfl, _, rfl, H⟩

theorem vX10_isTable_0 {d : Nat} {Q : Int → ax_H → Prop} {x0 : Int} {I : ax_H} (r0 : ax_R x0) (H :
  (x0 = 0 →
    Q 1 I) ∧
  (¬ x0 = 0 →
    (x0 ≠ 1 →
      Q 0 I) ∧
    (x0 = 1 →
      Q 1 I))) :
  RI d kX10_isTable 0 [some (ax_i x0)] I Q := by
  show Rn _ _ _ _ _ _ _ _
  refine r_iload_n dX10_isTable_0 rfl ?_
  refine r_if_eq (tgt := 9) dX10_isTable_1 (by decide) r0 (fun c1 => ?_) (fun c1 => ?_)
  · have H := H.1 c1
    refine r_iconst dX10_isTable_9 ?_
    refine r_goto (tgt := 14) dX10_isTable_10 (by decide) ?_
    exact r_zret dX10_isTable_14 rfl (by decide) ⟨rfl, _, rfl, H⟩
  · have H := H.2 c1
    refine r_iload_n dX10_isTable_4 rfl ?_
    refine r_iconst dX10_isTable_5 ?_
    refine r_icmp_ne (tgt := 13) dX10_isTable_6 (by decide) r0 (by decide) (fun c2 => ?_) (fun c2 => ?_)
    · have H := H.1 c2
      refine r_iconst dX10_isTable_13 ?_
      exact r_zret dX10_isTable_14 rfl (by decide) ⟨rfl, _, rfl, H⟩
    · have H := H.2 c2
      refine r_iconst dX10_isTable_9 ?_
      refine r_goto (tgt := 14) dX10_isTable_10 (by decide) ?_
      exact r_zret dX10_isTable_14 rfl (by decide) ⟨rfl, _, rfl, H⟩

theorem vX10_isPower_0 {d : Nat} {Q : Int → ax_H → Prop} {x0 : Int} {x1 : Int} {x2 : Int} {I : ax_H} (r1 : ax_R x1) (r2 : ax_R x2) (H :
  cI d kX10_isTable [ax_i x0] I (fun w2 I1 =>
  ax_R w2 ∧
  ((w2 = 0 →
    Q 0 I1) ∧
  (¬ w2 = 0 →
    (x1 < 0 →
      Q 0 I1) ∧
    (¬ x1 < 0 →
      (2 < x1 →
        Q 0 I1) ∧
      (¬ 2 < x1 →
        (x2 < 0 →
          Q 0 I1) ∧
        (¬ x2 < 0 →
          (2 < x2 →
            Q 0 I1) ∧
          (¬ 2 < x2 →
            Q 1 I1)))))))) :
  RI (d + 1) kX10_isPower 0 [some (ax_i x0), some (ax_i x1), some (ax_i x2)] I Q := by
  show Rn _ _ _ _ _ _ _ _
  refine r_iload_n dX10_isPower_0 rfl ?_
  refine r_cI (as := [ax_i x0]) (how_S jX10_isTable jSX10_isTable rfl wX10_114 dX10_isPower_1) rfl (Nat.le_refl _) (Nat.le_of_ble_eq_true rfl) (fun _ => Nat.le_of_ble_eq_true rfl) H (fun w2 I1 H => ?_)
  have ob3 := H.1
  have H := H.2
  refine r_if_eq (tgt := 29) dX10_isPower_4 (by decide) ob3 (fun c4 => ?_) (fun c4 => ?_)
  · have H := H.1 c4
    refine r_iconst dX10_isPower_29 ?_
    exact r_zret dX10_isPower_30 rfl (by decide) ⟨rfl, _, rfl, H⟩
  · have H := H.2 c4
    refine r_iload_n dX10_isPower_7 rfl ?_
    refine r_if_lt (tgt := 29) dX10_isPower_8 (by decide) r1 (fun c5 => ?_) (fun c5 => ?_)
    · have H := H.1 c5
      refine r_iconst dX10_isPower_29 ?_
      exact r_zret dX10_isPower_30 rfl (by decide) ⟨rfl, _, rfl, H⟩
    · have H := H.2 c5
      refine r_iload_n dX10_isPower_11 rfl ?_
      refine r_iconst dX10_isPower_12 ?_
      refine r_icmp_gt (tgt := 29) dX10_isPower_13 (by decide) r1 (by decide) (fun c6 => ?_) (fun c6 => ?_)
      · have H := H.1 c6
        refine r_iconst dX10_isPower_29 ?_
        exact r_zret dX10_isPower_30 rfl (by decide) ⟨rfl, _, rfl, H⟩
      · have H := H.2 c6
        refine r_iload_n dX10_isPower_16 rfl ?_
        refine r_if_lt (tgt := 29) dX10_isPower_17 (by decide) r2 (fun c7 => ?_) (fun c7 => ?_)
        · have H := H.1 c7
          refine r_iconst dX10_isPower_29 ?_
          exact r_zret dX10_isPower_30 rfl (by decide) ⟨rfl, _, rfl, H⟩
        · have H := H.2 c7
          refine r_iload_n dX10_isPower_20 rfl ?_
          refine r_iconst dX10_isPower_21 ?_
          refine r_icmp_gt (tgt := 29) dX10_isPower_22 (by decide) r2 (by decide) (fun c8 => ?_) (fun c8 => ?_)
          · have H := H.1 c8
            refine r_iconst dX10_isPower_29 ?_
            exact r_zret dX10_isPower_30 rfl (by decide) ⟨rfl, _, rfl, H⟩
          · have H := H.2 c8
            refine r_iconst dX10_isPower_25 ?_
            refine r_goto (tgt := 30) dX10_isPower_26 (by decide) ?_
            exact r_zret dX10_isPower_30 rfl (by decide) ⟨rfl, _, rfl, H⟩

theorem vX10_modulo_0 {d : Nat} {Q : Int → ax_H → Prop} {x0 : Int} {I : ax_H} (H :
  cI d kJ9_floorMod_7cf53 [ax_i x0, ax_i 31] I (fun w2 I1 =>
  Q w2 I1)) :
  RI (d + 1) kX10_modulo 0 [some (ax_i x0)] I Q := by
  show Rn _ _ _ _ _ _ _ _
  refine r_iload_n dX10_modulo_0 rfl ?_
  refine r_bipush (v := 31) dX10_modulo_1 (by decide) ?_
  refine r_cI (as := [ax_i x0, ax_i 31]) (how_S jJ9_floorMod_7cf53 jSJ9_floorMod_7cf53 rfl wX10_279 dX10_modulo_3) rfl (Nat.le_refl _) (Nat.le_of_ble_eq_true rfl) (fun _ => Nat.le_of_ble_eq_true rfl) H (fun w2 I1 H => ?_)
  exact r_iret dX10_modulo_6 rfl ⟨rfl, _, rfl, H⟩

theorem vX10_quotient_0 {d : Nat} {Q : Int → ax_H → Prop} {x0 : Int} {x1 : Int} {I : ax_H} (H :
  cI d kJ9_floorMod_7cf53 [ax_i x0, ax_i 31] I (fun w2 I1 =>
  cI d kJ9_floorMod_7cf53 [ax_i x1, ax_i 31] I1 (fun w4 I3 =>
  ax_R w4 ∧
  ((w4 ≠ 0 →
    (0 ≤ w4 ∧ w4 < 31) ∧
    ((0 ≤ (w2 * (ax_inv w4)) ∧ (w2 * (ax_inv w4)) < 2147483648) ∧
    (Q ((w2 * (ax_inv w4)) % 31) I3))) ∧
  (w4 = 0 →
    ax_R w2 ∧
    ((w2 ≠ 0 →
      Q 31 I3) ∧
    (w2 = 0 →
      Q (-6) I3))))))) :
  RI (d + 1) kX10_quotient 0 [some (ax_i x0), some (ax_i x1), none, none] I Q := by
  show Rn _ _ _ _ _ _ _ _
  refine r_iload_n dX10_quotient_0 rfl ?_
  refine r_bipush (v := 31) dX10_quotient_1 (by decide) ?_
  refine r_cI (as := [ax_i x0, ax_i 31]) (how_S jJ9_floorMod_7cf53 jSJ9_floorMod_7cf53 rfl wX10_279 dX10_quotient_3) rfl (Nat.le_refl _) (Nat.le_of_ble_eq_true rfl) (fun _ => Nat.le_of_ble_eq_true rfl) H (fun w2 I1 H => ?_)
  refine r_istore_n dX10_quotient_6 (by decide) rfl ?_
  refine r_iload_n dX10_quotient_7 rfl ?_
  refine r_bipush (v := 31) dX10_quotient_8 (by decide) ?_
  refine r_cI (as := [ax_i x1, ax_i 31]) (how_S jJ9_floorMod_7cf53 jSJ9_floorMod_7cf53 rfl wX10_279 dX10_quotient_10) rfl (Nat.le_refl _) (Nat.le_of_ble_eq_true rfl) (fun _ => Nat.le_of_ble_eq_true rfl) H (fun w4 I3 H => ?_)
  refine r_istore_n dX10_quotient_13 (by decide) rfl ?_
  refine r_iload_n dX10_quotient_14 rfl ?_
  have ob5 := H.1
  have H := H.2
  refine r_if_ne (tgt := 30) dX10_quotient_15 (by decide) ob5 (fun c6 => ?_) (fun c6 => ?_)
  · have H := H.1 c6
    refine r_iload_n dX10_quotient_30 rfl ?_
    refine r_getInv dX10_quotient_31 wX10_284 ?_
    refine r_iload_n dX10_quotient_34 rfl ?_
    have ob7 := H.1
    have H := H.2
    refine r_ialdInv dX10_quotient_35 ob7 ?_
    refine r_imul dX10_quotient_36 ?_
    refine r_bipush (v := 31) dX10_quotient_37 (by decide) ?_
    have ob8 := H.1
    have H := H.2
    refine r_iremp dX10_quotient_39 ob8 (by decide) ?_
    exact r_iret dX10_quotient_40 rfl ⟨rfl, _, rfl, H⟩
  · have H := H.2 c6
    refine r_iload_n dX10_quotient_18 rfl ?_
    have ob9 := H.1
    have H := H.2
    refine r_if_ne (tgt := 27) dX10_quotient_19 (by decide) ob9 (fun c10 => ?_) (fun c10 => ?_)
    · have H := H.1 c10
      refine r_bipush (v := 31) dX10_quotient_27 (by decide) ?_
      exact r_iret dX10_quotient_29 rfl ⟨rfl, _, rfl, H⟩
    · have H := H.2 c10
      refine r_bipush (v := (-6)) dX10_quotient_22 (by decide) ?_
      refine r_goto (tgt := 29) dX10_quotient_24 (by decide) ?_
      exact r_iret dX10_quotient_29 rfl ⟨rfl, _, rfl, H⟩

theorem vX10_quadraticAt_0 {d : Nat} {Q : Int → ax_H → Prop} {x0 : Int} {x1 : Int} {x2 : Int} {x3 : Int} {I : ax_H} (r3 : ax_R x3) (H :
  (x3 ≠ 31 →
    (0 ≤ (x0 + ((x1 + (x2 * x3)) * x3)) ∧ (x0 + ((x1 + (x2 * x3)) * x3)) < 2147483648) ∧
    (Q ((x0 + ((x1 + (x2 * x3)) * x3)) % 31) I)) ∧
  (x3 = 31 →
    Q x2 I)) :
  RI d kX10_quadraticAt 0 [some (ax_i x0), some (ax_i x1), some (ax_i x2), some (ax_i x3)] I Q := by
  show Rn _ _ _ _ _ _ _ _
  refine r_iload_n dX10_quadraticAt_0 rfl ?_
  refine r_bipush (v := 31) dX10_quadraticAt_1 (by decide) ?_
  refine r_icmp_ne (tgt := 10) dX10_quadraticAt_3 (by decide) r3 (by decide) (fun c1 => ?_) (fun c1 => ?_)
  · have H := H.1 c1
    refine r_iload_n dX10_quadraticAt_10 rfl ?_
    refine r_iload_n dX10_quadraticAt_11 rfl ?_
    refine r_iload_n dX10_quadraticAt_12 rfl ?_
    refine r_iload_n dX10_quadraticAt_13 rfl ?_
    refine r_imul dX10_quadraticAt_14 ?_
    refine r_iadd dX10_quadraticAt_15 ?_
    refine r_iload_n dX10_quadraticAt_16 rfl ?_
    refine r_imul dX10_quadraticAt_17 ?_
    refine r_iadd dX10_quadraticAt_18 ?_
    refine r_bipush (v := 31) dX10_quadraticAt_19 (by decide) ?_
    have ob2 := H.1
    have H := H.2
    refine r_iremp dX10_quadraticAt_21 ob2 (by decide) ?_
    exact r_iret dX10_quadraticAt_22 rfl ⟨rfl, _, rfl, H⟩
  · have H := H.2 c1
    refine r_iload_n dX10_quadraticAt_6 rfl ?_
    refine r_goto (tgt := 22) dX10_quadraticAt_7 (by decide) ?_
    exact r_iret dX10_quadraticAt_22 rfl ⟨rfl, _, rfl, H⟩

theorem vX10_powerAt_0 {d : Nat} {Q : Int → ax_H → Prop} {x0 : Int} {x1 : Int} {I : ax_H} (r0 : ax_R x0) (H :
  (x0 ≠ 0 →
    (x0 ≠ 1 →
      (x0 ≠ 2 →
        cI d kX10_quadraticAt [ax_i 0, ax_i 0, ax_i 0, ax_i x1] I (fun w5 I4 =>
        Q w5 I4)) ∧
      (x0 = 2 →
        cI d kX10_quadraticAt [ax_i 0, ax_i 0, ax_i 1, ax_i x1] I (fun w7 I6 =>
        Q w7 I6))) ∧
    (x0 = 1 →
      (x0 ≠ 2 →
        cI d kX10_quadraticAt [ax_i 0, ax_i 1, ax_i 0, ax_i x1] I (fun w10 I9 =>
        Q w10 I9)) ∧
      (x0 = 2 →
        cI d kX10_quadraticAt [ax_i 0, ax_i 1, ax_i 1, ax_i x1] I (fun w12 I11 =>
        Q w12 I11)))) ∧
  (x0 = 0 →
    (x0 ≠ 1 →
      (x0 ≠ 2 →
        cI d kX10_quadraticAt [ax_i 1, ax_i 0, ax_i 0, ax_i x1] I (fun w16 I15 =>
        Q w16 I15)) ∧
      (x0 = 2 →
        cI d kX10_quadraticAt [ax_i 1, ax_i 0, ax_i 1, ax_i x1] I (fun w18 I17 =>
        Q w18 I17))) ∧
    (x0 = 1 →
      (x0 ≠ 2 →
        cI d kX10_quadraticAt [ax_i 1, ax_i 1, ax_i 0, ax_i x1] I (fun w21 I20 =>
        Q w21 I20)) ∧
      (x0 = 2 →
        cI d kX10_quadraticAt [ax_i 1, ax_i 1, ax_i 1, ax_i x1] I (fun w23 I22 =>
        Q w23 I22))))) :
  RI (d + 1) kX10_powerAt 0 [some (ax_i x0), some (ax_i x1)] I Q := by
  show Rn _ _ _ _ _ _ _ _
  refine r_iload_n dX10_powerAt_0 rfl ?_
  refine r_if_ne (tgt := 8) dX10_powerAt_1 (by decide) r0 (fun c1 => ?_) (fun c1 => ?_)
  · have H := H.1 c1
    refine r_iconst dX10_powerAt_8 ?_
    refine r_iload_n dX10_powerAt_9 rfl ?_
    refine r_iconst dX10_powerAt_10 ?_
    refine r_icmp_ne (tgt := 18) dX10_powerAt_11 (by decide) r0 (by decide) (fun c2 => ?_) (fun c2 => ?_)
    · have H := H.1 c2
      refine r_iconst dX10_powerAt_18 ?_
      refine r_iload_n dX10_powerAt_19 rfl ?_
      refine r_iconst dX10_powerAt_20 ?_
      refine r_icmp_ne (tgt := 28) dX10_powerAt_21 (by decide) r0 (by decide) (fun c3 => ?_) (fun c3 => ?_)
      · have H := H.1 c3
        refine r_iconst dX10_powerAt_28 ?_
        refine r_iload_n dX10_powerAt_29 rfl ?_
        refine r_cI (as := [ax_i 0, ax_i 0, ax_i 0, ax_i x1]) (how_S jX10_quadraticAt jSX10_quadraticAt rfl wX10_287 dX10_powerAt_30) rfl (Nat.le_refl _) (Nat.le_of_ble_eq_true rfl) (fun _ => Nat.le_of_ble_eq_true rfl) H (fun w5 I4 H => ?_)
        exact r_iret dX10_powerAt_33 rfl ⟨rfl, _, rfl, H⟩
      · have H := H.2 c3
        refine r_iconst dX10_powerAt_24 ?_
        refine r_goto (tgt := 29) dX10_powerAt_25 (by decide) ?_
        refine r_iload_n dX10_powerAt_29 rfl ?_
        refine r_cI (as := [ax_i 0, ax_i 0, ax_i 1, ax_i x1]) (how_S jX10_quadraticAt jSX10_quadraticAt rfl wX10_287 dX10_powerAt_30) rfl (Nat.le_refl _) (Nat.le_of_ble_eq_true rfl) (fun _ => Nat.le_of_ble_eq_true rfl) H (fun w7 I6 H => ?_)
        exact r_iret dX10_powerAt_33 rfl ⟨rfl, _, rfl, H⟩
    · have H := H.2 c2
      refine r_iconst dX10_powerAt_14 ?_
      refine r_goto (tgt := 19) dX10_powerAt_15 (by decide) ?_
      refine r_iload_n dX10_powerAt_19 rfl ?_
      refine r_iconst dX10_powerAt_20 ?_
      refine r_icmp_ne (tgt := 28) dX10_powerAt_21 (by decide) r0 (by decide) (fun c8 => ?_) (fun c8 => ?_)
      · have H := H.1 c8
        refine r_iconst dX10_powerAt_28 ?_
        refine r_iload_n dX10_powerAt_29 rfl ?_
        refine r_cI (as := [ax_i 0, ax_i 1, ax_i 0, ax_i x1]) (how_S jX10_quadraticAt jSX10_quadraticAt rfl wX10_287 dX10_powerAt_30) rfl (Nat.le_refl _) (Nat.le_of_ble_eq_true rfl) (fun _ => Nat.le_of_ble_eq_true rfl) H (fun w10 I9 H => ?_)
        exact r_iret dX10_powerAt_33 rfl ⟨rfl, _, rfl, H⟩
      · have H := H.2 c8
        refine r_iconst dX10_powerAt_24 ?_
        refine r_goto (tgt := 29) dX10_powerAt_25 (by decide) ?_
        refine r_iload_n dX10_powerAt_29 rfl ?_
        refine r_cI (as := [ax_i 0, ax_i 1, ax_i 1, ax_i x1]) (how_S jX10_quadraticAt jSX10_quadraticAt rfl wX10_287 dX10_powerAt_30) rfl (Nat.le_refl _) (Nat.le_of_ble_eq_true rfl) (fun _ => Nat.le_of_ble_eq_true rfl) H (fun w12 I11 H => ?_)
        exact r_iret dX10_powerAt_33 rfl ⟨rfl, _, rfl, H⟩
  · have H := H.2 c1
    refine r_iconst dX10_powerAt_4 ?_
    refine r_goto (tgt := 9) dX10_powerAt_5 (by decide) ?_
    refine r_iload_n dX10_powerAt_9 rfl ?_
    refine r_iconst dX10_powerAt_10 ?_
    refine r_icmp_ne (tgt := 18) dX10_powerAt_11 (by decide) r0 (by decide) (fun c13 => ?_) (fun c13 => ?_)
    · have H := H.1 c13
      refine r_iconst dX10_powerAt_18 ?_
      refine r_iload_n dX10_powerAt_19 rfl ?_
      refine r_iconst dX10_powerAt_20 ?_
      refine r_icmp_ne (tgt := 28) dX10_powerAt_21 (by decide) r0 (by decide) (fun c14 => ?_) (fun c14 => ?_)
      · have H := H.1 c14
        refine r_iconst dX10_powerAt_28 ?_
        refine r_iload_n dX10_powerAt_29 rfl ?_
        refine r_cI (as := [ax_i 1, ax_i 0, ax_i 0, ax_i x1]) (how_S jX10_quadraticAt jSX10_quadraticAt rfl wX10_287 dX10_powerAt_30) rfl (Nat.le_refl _) (Nat.le_of_ble_eq_true rfl) (fun _ => Nat.le_of_ble_eq_true rfl) H (fun w16 I15 H => ?_)
        exact r_iret dX10_powerAt_33 rfl ⟨rfl, _, rfl, H⟩
      · have H := H.2 c14
        refine r_iconst dX10_powerAt_24 ?_
        refine r_goto (tgt := 29) dX10_powerAt_25 (by decide) ?_
        refine r_iload_n dX10_powerAt_29 rfl ?_
        refine r_cI (as := [ax_i 1, ax_i 0, ax_i 1, ax_i x1]) (how_S jX10_quadraticAt jSX10_quadraticAt rfl wX10_287 dX10_powerAt_30) rfl (Nat.le_refl _) (Nat.le_of_ble_eq_true rfl) (fun _ => Nat.le_of_ble_eq_true rfl) H (fun w18 I17 H => ?_)
        exact r_iret dX10_powerAt_33 rfl ⟨rfl, _, rfl, H⟩
    · have H := H.2 c13
      refine r_iconst dX10_powerAt_14 ?_
      refine r_goto (tgt := 19) dX10_powerAt_15 (by decide) ?_
      refine r_iload_n dX10_powerAt_19 rfl ?_
      refine r_iconst dX10_powerAt_20 ?_
      refine r_icmp_ne (tgt := 28) dX10_powerAt_21 (by decide) r0 (by decide) (fun c19 => ?_) (fun c19 => ?_)
      · have H := H.1 c19
        refine r_iconst dX10_powerAt_28 ?_
        refine r_iload_n dX10_powerAt_29 rfl ?_
        refine r_cI (as := [ax_i 1, ax_i 1, ax_i 0, ax_i x1]) (how_S jX10_quadraticAt jSX10_quadraticAt rfl wX10_287 dX10_powerAt_30) rfl (Nat.le_refl _) (Nat.le_of_ble_eq_true rfl) (fun _ => Nat.le_of_ble_eq_true rfl) H (fun w21 I20 H => ?_)
        exact r_iret dX10_powerAt_33 rfl ⟨rfl, _, rfl, H⟩
      · have H := H.2 c19
        refine r_iconst dX10_powerAt_24 ?_
        refine r_goto (tgt := 29) dX10_powerAt_25 (by decide) ?_
        refine r_iload_n dX10_powerAt_29 rfl ?_
        refine r_cI (as := [ax_i 1, ax_i 1, ax_i 1, ax_i x1]) (how_S jX10_quadraticAt jSX10_quadraticAt rfl wX10_287 dX10_powerAt_30) rfl (Nat.le_refl _) (Nat.le_of_ble_eq_true rfl) (fun _ => Nat.le_of_ble_eq_true rfl) H (fun w23 I22 H => ?_)
        exact r_iret dX10_powerAt_33 rfl ⟨rfl, _, rfl, H⟩

theorem vX10_drawn_0 {d : Nat} {Q : Int → ax_H → Prop} {x0 : Int} {I : ax_H} (H :
  Q ((x0 * 1103515245) + 12345) I) :
  RI d kX10_drawn 0 [some (ax_i x0)] I Q := by
  show Rn _ _ _ _ _ _ _ _
  refine r_iload_n dX10_drawn_0 rfl ?_
  refine r_ldcw (v := 1103515245) dX10_drawn_1 wX10_291 ?_
  refine r_imul dX10_drawn_4 ?_
  refine r_sipush (v := 12345) dX10_drawn_5 (by decide) ?_
  refine r_iadd dX10_drawn_8 ?_
  exact r_iret dX10_drawn_9 rfl ⟨rfl, _, rfl, H⟩

theorem vX10_commonDivisor_0 {d : Nat} {Q : Int → ax_H → Prop} {x0 : Int} {x1 : Int} {I : ax_H} (H :
  RI d kX10_commonDivisor 7 [none, none, some (ax_i x0), some (ax_i x1), some (ax_i 0), none] I Q) :
  RI d kX10_commonDivisor 0 [some (ax_i x0), some (ax_i x1), none, none, none, none] I Q := by
  show Rn _ _ _ _ _ _ _ _
  refine r_iload_n dX10_commonDivisor_0 rfl ?_
  refine r_istore_n dX10_commonDivisor_1 (by decide) rfl ?_
  refine r_iload_n dX10_commonDivisor_2 rfl ?_
  refine r_istore_n dX10_commonDivisor_3 (by decide) rfl ?_
  refine r_iconst dX10_commonDivisor_4 ?_
  refine r_istore dX10_commonDivisor_5 (by decide) rfl ?_
  refine r_drop (ls2 := [none, none, some (ax_i x0), some (ax_i x1), some (ax_i 0), none]) ?_ (ax_leN (ax_leN (ax_leS (ax_leS (ax_leS (ax_leN ax_leE))))))
  exact H

theorem vX10_commonDivisor_7 {d : Nat} {Q : Int → ax_H → Prop} {x2 : Int} {x3 : Int} {x4 : Int} {I : ax_H} (r2 : ax_R x2) (r3 : ax_R x3) (r4 : ax_R x4) (H :
  (64 ≤ x4 →
    (x2 ≤ 0 →
      Q 1 I) ∧
    (¬ x2 ≤ 0 →
      Q x2 I)) ∧
  (¬ 64 ≤ x4 →
    (x3 ≤ 0 →
      (x2 ≤ 0 →
        Q 1 I) ∧
      (¬ x2 ≤ 0 →
        Q x2 I)) ∧
    (¬ x3 ≤ 0 →
      (0 ≤ x2 ∧ x2 < 2147483648) ∧
      ((0 < x3 ∧ x3 < 2147483648) ∧
      (∀ y5_21, y5_21 = (x2 % x3) →
      (RI d kX10_commonDivisor 7 [none, none, some (ax_i x3), some (ax_i y5_21), some (ax_i (x4 + 1)), none] I Q)))))) :
  RI d kX10_commonDivisor 7 [none, none, some (ax_i x2), some (ax_i x3), some (ax_i x4), none] I Q := by
  show Rn _ _ _ _ _ _ _ _
  refine r_iload dX10_commonDivisor_7 rfl ?_
  refine r_bipush (v := 64) dX10_commonDivisor_9 (by decide) ?_
  refine r_icmp_ge (tgt := 34) dX10_commonDivisor_11 (by decide) r4 (by decide) (fun c1 => ?_) (fun c1 => ?_)
  · have H := H.1 c1
    refine r_iload_n dX10_commonDivisor_34 rfl ?_
    refine r_if_le (tgt := 42) dX10_commonDivisor_35 (by decide) r2 (fun c2 => ?_) (fun c2 => ?_)
    · have H := H.1 c2
      refine r_iconst dX10_commonDivisor_42 ?_
      exact r_iret dX10_commonDivisor_43 rfl ⟨rfl, _, rfl, H⟩
    · have H := H.2 c2
      refine r_iload_n dX10_commonDivisor_38 rfl ?_
      refine r_goto (tgt := 43) dX10_commonDivisor_39 (by decide) ?_
      exact r_iret dX10_commonDivisor_43 rfl ⟨rfl, _, rfl, H⟩
  · have H := H.2 c1
    refine r_iload_n dX10_commonDivisor_14 rfl ?_
    refine r_if_le (tgt := 34) dX10_commonDivisor_15 (by decide) r3 (fun c3 => ?_) (fun c3 => ?_)
    · have H := H.1 c3
      refine r_iload_n dX10_commonDivisor_34 rfl ?_
      refine r_if_le (tgt := 42) dX10_commonDivisor_35 (by decide) r2 (fun c4 => ?_) (fun c4 => ?_)
      · have H := H.1 c4
        refine r_iconst dX10_commonDivisor_42 ?_
        exact r_iret dX10_commonDivisor_43 rfl ⟨rfl, _, rfl, H⟩
      · have H := H.2 c4
        refine r_iload_n dX10_commonDivisor_38 rfl ?_
        refine r_goto (tgt := 43) dX10_commonDivisor_39 (by decide) ?_
        exact r_iret dX10_commonDivisor_43 rfl ⟨rfl, _, rfl, H⟩
    · have H := H.2 c3
      refine r_iload_n dX10_commonDivisor_18 rfl ?_
      refine r_iload_n dX10_commonDivisor_19 rfl ?_
      have ob5 := H.1
      have H := H.2
      have ob6 := H.1
      have H := H.2
      refine r_iremp dX10_commonDivisor_20 ob5 ob6 ?_
      refine r_name (fun y5_21 e7 => ?_)
      have H := H y5_21 e7
      refine r_istore dX10_commonDivisor_21 (by decide) rfl ?_
      refine r_iload_n dX10_commonDivisor_23 rfl ?_
      refine r_istore_n dX10_commonDivisor_24 (by decide) rfl ?_
      refine r_iload dX10_commonDivisor_25 rfl ?_
      refine r_istore_n dX10_commonDivisor_27 (by decide) rfl ?_
      refine r_iinc dX10_commonDivisor_28 (by decide) rfl rfl ?_
      refine r_goto (tgt := 7) dX10_commonDivisor_31 (by decide) ?_
      refine r_drop (ls2 := [none, none, some (ax_i x3), some (ax_i y5_21), some (ax_i (x4 + 1)), none]) ?_ (ax_leN (ax_leN (ax_leS (ax_leS (ax_leS (ax_leN ax_leE))))))
      exact H

theorem vJ9_floorMod_7cf53_0 {d : Nat} {Q : Int → ax_H → Prop} {x0 : Int} {x1 : Int} {I : ax_H} (r0 : ax_R x0) (r1 : ax_R x1) (H :
  x1 ≠ 0 ∧
  (∀ y2_3, y2_3 = (Int.tmod x0 x1) →
  ((0 ≤ (ax_xor x0 x1) →
    Q y2_3 I) ∧
  (¬ 0 ≤ (ax_xor x0 x1) →
    ax_R y2_3 ∧
    ((y2_3 = 0 →
      Q y2_3 I) ∧
    (¬ y2_3 = 0 →
      Q (y2_3 + x1) I)))))) :
  RI d kJ9_floorMod_7cf53 0 [some (ax_i x0), some (ax_i x1), none] I Q := by
  show Rn _ _ _ _ _ _ _ _
  refine r_iload_n dJ9_floorMod_7cf53_0 rfl ?_
  refine r_iload_n dJ9_floorMod_7cf53_1 rfl ?_
  have ob1 := H.1
  have H := H.2
  refine r_irem dJ9_floorMod_7cf53_2 r0 r1 ob1 ?_
  refine r_name (fun y2_3 e2 => ?_)
  have H := H y2_3 e2
  refine r_istore_n dJ9_floorMod_7cf53_3 (by decide) rfl ?_
  refine r_iload_n dJ9_floorMod_7cf53_4 rfl ?_
  refine r_iload_n dJ9_floorMod_7cf53_5 rfl ?_
  refine r_ixor dJ9_floorMod_7cf53_6 ?_
  refine r_if_ge (tgt := 18) dJ9_floorMod_7cf53_7 (by decide) (ax_xor_R _ _) (fun c3 => ?_) (fun c3 => ?_)
  · have H := H.1 c3
    refine r_iload_n dJ9_floorMod_7cf53_18 rfl ?_
    exact r_iret dJ9_floorMod_7cf53_19 rfl ⟨rfl, _, rfl, H⟩
  · have H := H.2 c3
    refine r_iload_n dJ9_floorMod_7cf53_10 rfl ?_
    have ob4 := H.1
    have H := H.2
    refine r_if_eq (tgt := 18) dJ9_floorMod_7cf53_11 (by decide) ob4 (fun c5 => ?_) (fun c5 => ?_)
    · have H := H.1 c5
      refine r_iload_n dJ9_floorMod_7cf53_18 rfl ?_
      exact r_iret dJ9_floorMod_7cf53_19 rfl ⟨rfl, _, rfl, H⟩
    · have H := H.2 c5
      refine r_iload_n dJ9_floorMod_7cf53_14 rfl ?_
      refine r_iload_n dJ9_floorMod_7cf53_15 rfl ?_
      refine r_iadd dJ9_floorMod_7cf53_16 ?_
      exact r_iret dJ9_floorMod_7cf53_17 rfl ⟨rfl, _, rfl, H⟩

theorem vJ9_max_7cf53_0 {d : Nat} {Q : Int → ax_H → Prop} {x0 : Int} {x1 : Int} {I : ax_H} (r0 : ax_R x0) (r1 : ax_R x1) (H :
  (x0 < x1 →
    Q x1 I) ∧
  (¬ x0 < x1 →
    Q x0 I)) :
  RI d kJ9_max_7cf53 0 [some (ax_i x0), some (ax_i x1)] I Q := by
  show Rn _ _ _ _ _ _ _ _
  refine r_iload_n dJ9_max_7cf53_0 rfl ?_
  refine r_iload_n dJ9_max_7cf53_1 rfl ?_
  refine r_icmp_lt (tgt := 9) dJ9_max_7cf53_2 (by decide) r0 r1 (fun c1 => ?_) (fun c1 => ?_)
  · have H := H.1 c1
    refine r_iload_n dJ9_max_7cf53_9 rfl ?_
    exact r_iret dJ9_max_7cf53_10 rfl ⟨rfl, _, rfl, H⟩
  · have H := H.2 c1
    refine r_iload_n dJ9_max_7cf53_5 rfl ?_
    refine r_goto (tgt := 10) dJ9_max_7cf53_6 (by decide) ?_
    exact r_iret dJ9_max_7cf53_10 rfl ⟨rfl, _, rfl, H⟩

theorem vJ9_min_7cf53_0 {d : Nat} {Q : Int → ax_H → Prop} {x0 : Int} {x1 : Int} {I : ax_H} (r0 : ax_R x0) (r1 : ax_R x1) (H :
  (x1 < x0 →
    Q x1 I) ∧
  (¬ x1 < x0 →
    Q x0 I)) :
  RI d kJ9_min_7cf53 0 [some (ax_i x0), some (ax_i x1)] I Q := by
  show Rn _ _ _ _ _ _ _ _
  refine r_iload_n dJ9_min_7cf53_0 rfl ?_
  refine r_iload_n dJ9_min_7cf53_1 rfl ?_
  refine r_icmp_gt (tgt := 9) dJ9_min_7cf53_2 (by decide) r0 r1 (fun c1 => ?_) (fun c1 => ?_)
  · have H := H.1 c1
    refine r_iload_n dJ9_min_7cf53_9 rfl ?_
    exact r_iret dJ9_min_7cf53_10 rfl ⟨rfl, _, rfl, H⟩
  · have H := H.2 c1
    refine r_iload_n dJ9_min_7cf53_5 rfl ?_
    refine r_goto (tgt := 10) dJ9_min_7cf53_6 (by decide) ?_
    exact r_iret dJ9_min_7cf53_10 rfl ⟨rfl, _, rfl, H⟩
