theorem vX1_change_0 {d : Nat} {Q : ax_H → Prop} {x1 : Int} {x2 : Int} {x3 : Int} {x4 : Int} {I : ax_H} (H :
  cV d kX9_change [ax_r 2, ax_i x1, ax_i x2, ax_i x3, ax_i x4] I (fun I1 =>
  ax_R ((I1 1 1) + 1) ∧
  (Q (ax_st I1 1 1 ((I1 1 1) + 1))))) :
  RV (d + 1) kX1_change 0 [some (ax_r 1), some (ax_i x1), some (ax_i x2), some (ax_i x3), some (ax_i x4)] I Q := by
  show Rn _ _ _ _ _ _ _ _
  refine r_aload_n dX1_change_0 rfl ?_
  refine r_getR clX1 0 (by decide) s0_1 rfl rfl wX1_12 dX1_change_1 ?_
  refine r_iload_n dX1_change_4 rfl ?_
  refine r_iload_n dX1_change_5 rfl ?_
  refine r_iload_n dX1_change_6 rfl ?_
  refine r_iload dX1_change_7 rfl ?_
  refine r_cV (as := [ax_r 2, ax_i x1, ax_i x2, ax_i x3, ax_i x4]) (how_V (ci := 9) jX9_change jIX9_change jVX9_change rfl s0_2 (by decide) rfl rfl wX1_48 dX1_change_9) rfl (Nat.le_refl _) (Nat.le_of_ble_eq_true rfl) (fun _ => Nat.le_of_ble_eq_true rfl) H (fun I1 H => ?_)
  refine r_aload_n dX1_change_12 rfl ?_
  refine r_dup dX1_change_13 (fun _ => rfl) ?_
  refine r_getI clX1 1 1 (by decide) s0_1 rfl rfl wX1_18 dX1_change_14 ?_
  refine r_iconst dX1_change_17 ?_
  refine r_iadd dX1_change_18 ?_
  have ob2 := H.1
  have H := H.2
  refine r_putI clX1 1 1 (by decide) s0_1 rfl rfl rfl ob2 rfl rfl wX1_18 dX1_change_19 ?_
  exact r_vret dX1_change_22 rfl ⟨rfl, rfl, H⟩

theorem vX1_changeAll_0 {d : Nat} {Q : ax_H → Prop} {x1 : Int} {I : ax_H} (H :
  RV (d + 1) kX1_changeAll 2 [some (ax_r 1), some (ax_i x1), some (ax_r 77), some (ax_i 0)] I Q) :
  RV (d + 1) kX1_changeAll 0 [some (ax_r 1), some (ax_i x1), some (ax_r 77), none] I Q := by
  show Rn _ _ _ _ _ _ _ _
  refine r_iconst dX1_changeAll_0 ?_
  refine r_istore_n dX1_changeAll_1 (by decide) rfl ?_
  exact H

theorem vX1_changeAll_2 {d : Nat} {Q : ax_H → Prop} {x1 : Int} {x3 : Int} {I : ax_H} (r3 : ax_R x3) (H :
  (9 ≤ x3 →
    ax_R ((I 1 1) + 1) ∧
    (Q (ax_st I 1 1 ((I 1 1) + 1)))) ∧
  (¬ 9 ≤ x3 →
    (9 ≤ x3 →
      ax_R ((I 1 1) + 1) ∧
      (Q (ax_st I 1 1 ((I 1 1) + 1)))) ∧
    (¬ 9 ≤ x3 →
      (0 ≤ x3 ∧ x3 < 2147483648) ∧
      ((0 ≤ x3 ∧ x3 < 9) ∧
      (cV d kX9_change [ax_r 2, ax_i x1, ax_i (x3 / 3), ax_i (x3 % 3), ax_i (I 77 x3)] I (fun I7 =>
      RV (d + 1) kX1_changeAll 2 [some (ax_r 1), some (ax_i x1), some (ax_r 77), some (ax_i (x3 + 1))] I7 Q)))))) :
  RV (d + 1) kX1_changeAll 2 [some (ax_r 1), some (ax_i x1), some (ax_r 77), some (ax_i x3)] I Q := by
  show Rn _ _ _ _ _ _ _ _
  refine r_iload_n dX1_changeAll_2 rfl ?_
  refine r_bipush (v := 9) dX1_changeAll_3 (by decide) ?_
  refine r_icmp_ge (tgt := 37) dX1_changeAll_5 (by decide) r3 (by decide) (fun c1 => ?_) (fun c1 => ?_)
  · have H := H.1 c1
    refine r_aload_n dX1_changeAll_37 rfl ?_
    refine r_dup dX1_changeAll_38 (fun _ => rfl) ?_
    refine r_getI clX1 1 1 (by decide) s0_1 rfl rfl wX1_18 dX1_changeAll_39 ?_
    refine r_iconst dX1_changeAll_42 ?_
    refine r_iadd dX1_changeAll_43 ?_
    have ob2 := H.1
    have H := H.2
    refine r_putI clX1 1 1 (by decide) s0_1 rfl rfl rfl ob2 rfl rfl wX1_18 dX1_changeAll_44 ?_
    exact r_vret dX1_changeAll_47 rfl ⟨rfl, rfl, H⟩
  · have H := H.2 c1
    refine r_iload_n dX1_changeAll_8 rfl ?_
    refine r_aload_n dX1_changeAll_9 rfl ?_
    refine r_alen s0_77 dX1_changeAll_10 9 rfl ?_
    refine r_icmp_ge (tgt := 37) dX1_changeAll_11 (by decide) r3 (by decide) (fun c3 => ?_) (fun c3 => ?_)
    · have H := H.1 c3
      refine r_aload_n dX1_changeAll_37 rfl ?_
      refine r_dup dX1_changeAll_38 (fun _ => rfl) ?_
      refine r_getI clX1 1 1 (by decide) s0_1 rfl rfl wX1_18 dX1_changeAll_39 ?_
      refine r_iconst dX1_changeAll_42 ?_
      refine r_iadd dX1_changeAll_43 ?_
      have ob4 := H.1
      have H := H.2
      refine r_putI clX1 1 1 (by decide) s0_1 rfl rfl rfl ob4 rfl rfl wX1_18 dX1_changeAll_44 ?_
      exact r_vret dX1_changeAll_47 rfl ⟨rfl, rfl, H⟩
    · have H := H.2 c3
      refine r_aload_n dX1_changeAll_14 rfl ?_
      refine r_getR clX1 0 (by decide) s0_1 rfl rfl wX1_12 dX1_changeAll_15 ?_
      refine r_iload_n dX1_changeAll_18 rfl ?_
      refine r_iload_n dX1_changeAll_19 rfl ?_
      refine r_iconst dX1_changeAll_20 ?_
      have ob5 := H.1
      have H := H.2
      refine r_idivp dX1_changeAll_21 ob5 (by decide) ?_
      refine r_iload_n dX1_changeAll_22 rfl ?_
      refine r_iconst dX1_changeAll_23 ?_
      refine r_iremp dX1_changeAll_24 ob5 (by decide) ?_
      refine r_aload_n dX1_changeAll_25 rfl ?_
      refine r_iload_n dX1_changeAll_26 rfl ?_
      have ob6 := H.1
      have H := H.2
      refine r_iald s0_77 (by decide) dX1_changeAll_27 ob6 ?_
      refine r_cV (as := [ax_r 2, ax_i x1, ax_i (x3 / 3), ax_i (x3 % 3), ax_i (I 77 x3)]) (how_V (ci := 9) jX9_change jIX9_change jVX9_change rfl s0_2 (by decide) rfl rfl wX1_48 dX1_changeAll_28) rfl (Nat.le_refl _) (Nat.le_of_ble_eq_true rfl) (fun _ => Nat.le_of_ble_eq_true rfl) H (fun I7 H => ?_)
      refine r_iinc dX1_changeAll_31 (by decide) rfl rfl ?_
      refine r_goto (tgt := 2) dX1_changeAll_34 (by decide) ?_
      exact H

theorem vX1_changeBack_0 {d : Nat} {Q : ax_H → Prop} {a1 : Nat} {I : ax_H} (h1 : isT a1) (H :
  cV (d + 1) kX9_copyFrom [ax_r 2, ax_r a1] I (fun I1 =>
  ax_R ((I1 1 1) + 1) ∧
  (Q (ax_st I1 1 1 ((I1 1 1) + 1))))) :
  RV (d + 2) kX1_changeBack 0 [some (ax_r 1), some (ax_r a1)] I Q := by
  show Rn _ _ _ _ _ _ _ _
  refine r_aload_n dX1_changeBack_0 rfl ?_
  refine r_getR clX1 0 (by decide) s0_1 rfl rfl wX1_12 dX1_changeBack_1 ?_
  refine r_aload_n dX1_changeBack_4 rfl ?_
  refine r_cV (as := [ax_r 2, ax_r a1]) (how_V (ci := 9) jX9_copyFrom jIX9_copyFrom jVX9_copyFrom rfl s0_2 (by decide) rfl rfl wX1_52 dX1_changeBack_5) rfl (Nat.le_refl _) (Nat.le_of_ble_eq_true rfl) (fun _ => Nat.le_of_ble_eq_true rfl) H (fun I1 H => ?_)
  refine r_aload_n dX1_changeBack_8 rfl ?_
  refine r_dup dX1_changeBack_9 (fun _ => rfl) ?_
  refine r_getI clX1 1 1 (by decide) s0_1 rfl rfl wX1_18 dX1_changeBack_10 ?_
  refine r_iconst dX1_changeBack_13 ?_
  refine r_iadd dX1_changeBack_14 ?_
  have ob2 := H.1
  have H := H.2
  refine r_putI clX1 1 1 (by decide) s0_1 rfl rfl rfl ob2 rfl rfl wX1_18 dX1_changeBack_15 ?_
  exact r_vret dX1_changeBack_18 rfl ⟨rfl, rfl, H⟩

theorem vX1_learnRows_0 {d : Nat} {Q : ax_H → Prop} {I : ax_H} (H :
  ((I 1 2) ≠ (I 1 1) →
    RV (d + 2) kX1_learnRows 22 [some (ax_r 1), some (ax_i 0), none, none, none, none, none, none, none, none] (ax_st I 1 2 (I 1 1)) Q) ∧
  ((I 1 2) = (I 1 1) →
    Q I)) :
  RV (d + 2) kX1_learnRows 0 [some (ax_r 1), none, none, none, none, none, none, none, none, none] I Q := by
  show Rn _ _ _ _ _ _ _ _
  refine r_aload_n dX1_learnRows_0 rfl ?_
  refine r_getI clX1 2 2 (by decide) s0_1 rfl rfl wX1_22 dX1_learnRows_1 ?_
  refine r_aload_n dX1_learnRows_4 rfl ?_
  refine r_getI clX1 1 1 (by decide) s0_1 rfl rfl wX1_18 dX1_learnRows_5 ?_
  refine r_heapR (fun hI1 => ?_)
  refine r_icmp_ne (tgt := 12) dX1_learnRows_8 (by decide) (hI1 _ _) (hI1 _ _) (fun c2 => ?_) (fun c2 => ?_)
  · have H := H.1 c2
    refine r_aload_n dX1_learnRows_12 rfl ?_
    refine r_aload_n dX1_learnRows_13 rfl ?_
    refine r_getI clX1 1 1 (by decide) s0_1 rfl rfl wX1_18 dX1_learnRows_14 ?_
    refine r_putI clX1 2 2 (by decide) s0_1 rfl rfl rfl (hI1 _ _) rfl rfl wX1_22 dX1_learnRows_17 ?_
    refine r_iconst dX1_learnRows_20 ?_
    refine r_istore_n dX1_learnRows_21 (by decide) rfl ?_
    exact H
  · have H := H.2 c2
    exact r_vret dX1_learnRows_11 rfl ⟨rfl, rfl, H⟩

theorem vX1_learnRows_22 {d : Nat} {Q : ax_H → Prop} {x1 : Int} {I : ax_H} (r1 : ax_R x1) (H :
  (1024 ≤ x1 →
    RV (d + 2) kX1_learnRows 45 [some (ax_r 1), some (ax_i 0), none, none, none, none, none, none, none, none] I Q) ∧
  (¬ 1024 ≤ x1 →
    (0 ≤ x1 ∧ x1 < 1024) ∧
    (RV (d + 2) kX1_learnRows 22 [some (ax_r 1), some (ax_i (x1 + 1)), none, none, none, none, none, none, none, none] (ax_st I 7 x1 (-100)) Q))) :
  RV (d + 2) kX1_learnRows 22 [some (ax_r 1), some (ax_i x1), none, none, none, none, none, none, none, none] I Q := by
  show Rn _ _ _ _ _ _ _ _
  refine r_iload_n dX1_learnRows_22 rfl ?_
  refine r_sipush (v := 1024) dX1_learnRows_23 (by decide) ?_
  refine r_icmp_ge (tgt := 43) dX1_learnRows_26 (by decide) r1 (by decide) (fun c1 => ?_) (fun c1 => ?_)
  · have H := H.1 c1
    refine r_iconst dX1_learnRows_43 ?_
    refine r_istore_n dX1_learnRows_44 (by decide) rfl ?_
    exact H
  · have H := H.2 c1
    refine r_aload_n dX1_learnRows_29 rfl ?_
    refine r_getR clX1 7 (by decide) s0_1 rfl rfl wX1_38 dX1_learnRows_30 ?_
    refine r_iload_n dX1_learnRows_33 rfl ?_
    refine r_bipush (v := (-100)) dX1_learnRows_34 (by decide) ?_
    have ob2 := H.1
    have H := H.2
    refine r_iast s0_7 (by decide) dX1_learnRows_36 ob2 (by decide) ?_
    refine r_iinc dX1_learnRows_37 (by decide) rfl rfl ?_
    refine r_goto (tgt := 22) dX1_learnRows_40 (by decide) ?_
    exact H

theorem vX1_learnRows_45 {d : Nat} {Q : ax_H → Prop} {x1 : Int} {I : ax_H} (r1 : ax_R x1) (H :
  (64 ≤ x1 →
    Q I) ∧
  (¬ 64 ≤ x1 →
    (0 ≤ x1 ∧ x1 < 2147483648) ∧
    (∀ y2_55, y2_55 = (x1 / 32) →
    (∀ y3_60, y3_60 = (x1 % 32) →
    (cI (d + 1) kX9_sumAt [ax_r 2, ax_i y2_55, ax_i 0, ax_i 0, ax_i y3_60] I (fun w6 I5 =>
    cI (d + 1) kX9_sumAt [ax_r 2, ax_i y2_55, ax_i 0, ax_i 1, ax_i y3_60] I5 (fun w8 I7 =>
    cI (d + 1) kX9_sumAt [ax_r 2, ax_i y2_55, ax_i 0, ax_i 2, ax_i y3_60] I7 (fun w10 I9 =>
    cI (d + 1) kX9_sumAt [ax_r 2, ax_i y2_55, ax_i 1, ax_i 0, ax_i y3_60] I9 (fun w12 I11 =>
    cI (d + 1) kX9_sumAt [ax_r 2, ax_i y2_55, ax_i 1, ax_i 1, ax_i y3_60] I11 (fun w14 I13 =>
    cI (d + 1) kX9_sumAt [ax_r 2, ax_i y2_55, ax_i 1, ax_i 2, ax_i y3_60] I13 (fun w16 I15 =>
    cI (d + 1) kX10_modulo [ax_i ((w10 * w14) - (w8 * w16))] I15 (fun w18 I17 =>
    (0 ≤ (3 * x1) ∧ (3 * x1) < 192) ∧
    (ax_R w18 ∧
    (cI (d + 1) kX10_modulo [ax_i ((w10 * w12) - (w6 * w16))] (ax_st I17 4 (3 * x1) w18) (fun w22 I21 =>
    (0 ≤ ((3 * x1) + 1) ∧ ((3 * x1) + 1) < 192) ∧
    (ax_R w22 ∧
    (cI (d + 1) kX10_modulo [ax_i ((w8 * w12) - (w6 * w14))] (ax_st I21 4 ((3 * x1) + 1) w22) (fun w26 I25 =>
    (0 ≤ ((3 * x1) + 2) ∧ ((3 * x1) + 2) < 192) ∧
    (ax_R w26 ∧
    (RV (d + 2) kX1_learnRows 45 [some (ax_r 1), some (ax_i (x1 + 1)), none, none, none, none, none, none, none, none] (ax_st I25 4 ((3 * x1) + 2) w26) Q)))))))))))))))))))) :
  RV (d + 2) kX1_learnRows 45 [some (ax_r 1), some (ax_i x1), none, none, none, none, none, none, none, none] I Q := by
  show Rn _ _ _ _ _ _ _ _
  refine r_iload_n dX1_learnRows_45 rfl ?_
  refine r_bipush (v := 64) dX1_learnRows_46 (by decide) ?_
  refine r_icmp_ge (tgt := 215) dX1_learnRows_48 (by decide) r1 (by decide) (fun c1 => ?_) (fun c1 => ?_)
  · have H := H.1 c1
    exact r_vret dX1_learnRows_215 rfl ⟨rfl, rfl, H⟩
  · have H := H.2 c1
    refine r_iload_n dX1_learnRows_51 rfl ?_
    refine r_bipush (v := 32) dX1_learnRows_52 (by decide) ?_
    have ob2 := H.1
    have H := H.2
    refine r_idivp dX1_learnRows_54 ob2 (by decide) ?_
    refine r_name (fun y2_55 e3 => ?_)
    have H := H y2_55 e3
    refine r_istore_n dX1_learnRows_55 (by decide) rfl ?_
    refine r_iload_n dX1_learnRows_56 rfl ?_
    refine r_bipush (v := 32) dX1_learnRows_57 (by decide) ?_
    refine r_iremp dX1_learnRows_59 ob2 (by decide) ?_
    refine r_name (fun y3_60 e4 => ?_)
    have H := H y3_60 e4
    refine r_istore_n dX1_learnRows_60 (by decide) rfl ?_
    refine r_aload_n dX1_learnRows_61 rfl ?_
    refine r_getR clX1 0 (by decide) s0_1 rfl rfl wX1_12 dX1_learnRows_62 ?_
    refine r_iload_n dX1_learnRows_65 rfl ?_
    refine r_iconst dX1_learnRows_66 ?_
    refine r_iconst dX1_learnRows_67 ?_
    refine r_iload_n dX1_learnRows_68 rfl ?_
    refine r_cI (as := [ax_r 2, ax_i y2_55, ax_i 0, ax_i 0, ax_i y3_60]) (how_V (ci := 9) jX9_sumAt jIX9_sumAt jVX9_sumAt rfl s0_2 (by decide) rfl rfl wX1_56 dX1_learnRows_69) rfl (Nat.le_refl _) (Nat.le_of_ble_eq_true rfl) (fun _ => Nat.le_of_ble_eq_true rfl) H (fun w6 I5 H => ?_)
    refine r_istore dX1_learnRows_72 (by decide) rfl ?_
    refine r_aload_n dX1_learnRows_74 rfl ?_
    refine r_getR clX1 0 (by decide) s0_1 rfl rfl wX1_12 dX1_learnRows_75 ?_
    refine r_iload_n dX1_learnRows_78 rfl ?_
    refine r_iconst dX1_learnRows_79 ?_
    refine r_iconst dX1_learnRows_80 ?_
    refine r_iload_n dX1_learnRows_81 rfl ?_
    refine r_cI (as := [ax_r 2, ax_i y2_55, ax_i 0, ax_i 1, ax_i y3_60]) (how_V (ci := 9) jX9_sumAt jIX9_sumAt jVX9_sumAt rfl s0_2 (by decide) rfl rfl wX1_56 dX1_learnRows_82) rfl (Nat.le_refl _) (Nat.le_of_ble_eq_true rfl) (fun _ => Nat.le_of_ble_eq_true rfl) H (fun w8 I7 H => ?_)
    refine r_istore dX1_learnRows_85 (by decide) rfl ?_
    refine r_aload_n dX1_learnRows_87 rfl ?_
    refine r_getR clX1 0 (by decide) s0_1 rfl rfl wX1_12 dX1_learnRows_88 ?_
    refine r_iload_n dX1_learnRows_91 rfl ?_
    refine r_iconst dX1_learnRows_92 ?_
    refine r_iconst dX1_learnRows_93 ?_
    refine r_iload_n dX1_learnRows_94 rfl ?_
    refine r_cI (as := [ax_r 2, ax_i y2_55, ax_i 0, ax_i 2, ax_i y3_60]) (how_V (ci := 9) jX9_sumAt jIX9_sumAt jVX9_sumAt rfl s0_2 (by decide) rfl rfl wX1_56 dX1_learnRows_95) rfl (Nat.le_refl _) (Nat.le_of_ble_eq_true rfl) (fun _ => Nat.le_of_ble_eq_true rfl) H (fun w10 I9 H => ?_)
    refine r_istore dX1_learnRows_98 (by decide) rfl ?_
    refine r_aload_n dX1_learnRows_100 rfl ?_
    refine r_getR clX1 0 (by decide) s0_1 rfl rfl wX1_12 dX1_learnRows_101 ?_
    refine r_iload_n dX1_learnRows_104 rfl ?_
    refine r_iconst dX1_learnRows_105 ?_
    refine r_iconst dX1_learnRows_106 ?_
    refine r_iload_n dX1_learnRows_107 rfl ?_
    refine r_cI (as := [ax_r 2, ax_i y2_55, ax_i 1, ax_i 0, ax_i y3_60]) (how_V (ci := 9) jX9_sumAt jIX9_sumAt jVX9_sumAt rfl s0_2 (by decide) rfl rfl wX1_56 dX1_learnRows_108) rfl (Nat.le_refl _) (Nat.le_of_ble_eq_true rfl) (fun _ => Nat.le_of_ble_eq_true rfl) H (fun w12 I11 H => ?_)
    refine r_istore dX1_learnRows_111 (by decide) rfl ?_
    refine r_aload_n dX1_learnRows_113 rfl ?_
    refine r_getR clX1 0 (by decide) s0_1 rfl rfl wX1_12 dX1_learnRows_114 ?_
    refine r_iload_n dX1_learnRows_117 rfl ?_
    refine r_iconst dX1_learnRows_118 ?_
    refine r_iconst dX1_learnRows_119 ?_
    refine r_iload_n dX1_learnRows_120 rfl ?_
    refine r_cI (as := [ax_r 2, ax_i y2_55, ax_i 1, ax_i 1, ax_i y3_60]) (how_V (ci := 9) jX9_sumAt jIX9_sumAt jVX9_sumAt rfl s0_2 (by decide) rfl rfl wX1_56 dX1_learnRows_121) rfl (Nat.le_refl _) (Nat.le_of_ble_eq_true rfl) (fun _ => Nat.le_of_ble_eq_true rfl) H (fun w14 I13 H => ?_)
    refine r_istore dX1_learnRows_124 (by decide) rfl ?_
    refine r_aload_n dX1_learnRows_126 rfl ?_
    refine r_getR clX1 0 (by decide) s0_1 rfl rfl wX1_12 dX1_learnRows_127 ?_
    refine r_iload_n dX1_learnRows_130 rfl ?_
    refine r_iconst dX1_learnRows_131 ?_
    refine r_iconst dX1_learnRows_132 ?_
    refine r_iload_n dX1_learnRows_133 rfl ?_
    refine r_cI (as := [ax_r 2, ax_i y2_55, ax_i 1, ax_i 2, ax_i y3_60]) (how_V (ci := 9) jX9_sumAt jIX9_sumAt jVX9_sumAt rfl s0_2 (by decide) rfl rfl wX1_56 dX1_learnRows_134) rfl (Nat.le_refl _) (Nat.le_of_ble_eq_true rfl) (fun _ => Nat.le_of_ble_eq_true rfl) H (fun w16 I15 H => ?_)
    refine r_istore dX1_learnRows_137 (by decide) rfl ?_
    refine r_aload_n dX1_learnRows_139 rfl ?_
    refine r_getR clX1 4 (by decide) s0_1 rfl rfl wX1_28 dX1_learnRows_140 ?_
    refine r_iconst dX1_learnRows_143 ?_
    refine r_iload_n dX1_learnRows_144 rfl ?_
    refine r_imul dX1_learnRows_145 ?_
    refine r_iload dX1_learnRows_146 rfl ?_
    refine r_iload dX1_learnRows_148 rfl ?_
    refine r_imul dX1_learnRows_150 ?_
    refine r_iload dX1_learnRows_151 rfl ?_
    refine r_iload dX1_learnRows_153 rfl ?_
    refine r_imul dX1_learnRows_155 ?_
    refine r_isub dX1_learnRows_156 ?_
    refine r_cI (as := [ax_i ((w10 * w14) - (w8 * w16))]) (how_SN jX10_modulo jSX10_modulo rfl wX1_60 dX1_learnRows_157) rfl (Nat.le_refl _) (Nat.le_of_ble_eq_true rfl) (fun _ => Nat.le_of_ble_eq_true rfl) H (fun w18 I17 H => ?_)
    have ob19 := H.1
    have H := H.2
    have ob20 := H.1
    have H := H.2
    refine r_iast s0_4 (by decide) dX1_learnRows_160 ob19 ob20 ?_
    refine r_aload_n dX1_learnRows_161 rfl ?_
    refine r_getR clX1 4 (by decide) s0_1 rfl rfl wX1_28 dX1_learnRows_162 ?_
    refine r_iconst dX1_learnRows_165 ?_
    refine r_iload_n dX1_learnRows_166 rfl ?_
    refine r_imul dX1_learnRows_167 ?_
    refine r_iconst dX1_learnRows_168 ?_
    refine r_iadd dX1_learnRows_169 ?_
    refine r_iload dX1_learnRows_170 rfl ?_
    refine r_iload dX1_learnRows_172 rfl ?_
    refine r_imul dX1_learnRows_174 ?_
    refine r_iload dX1_learnRows_175 rfl ?_
    refine r_iload dX1_learnRows_177 rfl ?_
    refine r_imul dX1_learnRows_179 ?_
    refine r_isub dX1_learnRows_180 ?_
    refine r_cI (as := [ax_i ((w10 * w12) - (w6 * w16))]) (how_SN jX10_modulo jSX10_modulo rfl wX1_60 dX1_learnRows_181) rfl (Nat.le_refl _) (Nat.le_of_ble_eq_true rfl) (fun _ => Nat.le_of_ble_eq_true rfl) H (fun w22 I21 H => ?_)
    have ob23 := H.1
    have H := H.2
    have ob24 := H.1
    have H := H.2
    refine r_iast s0_4 (by decide) dX1_learnRows_184 ob23 ob24 ?_
    refine r_aload_n dX1_learnRows_185 rfl ?_
    refine r_getR clX1 4 (by decide) s0_1 rfl rfl wX1_28 dX1_learnRows_186 ?_
    refine r_iconst dX1_learnRows_189 ?_
    refine r_iload_n dX1_learnRows_190 rfl ?_
    refine r_imul dX1_learnRows_191 ?_
    refine r_iconst dX1_learnRows_192 ?_
    refine r_iadd dX1_learnRows_193 ?_
    refine r_iload dX1_learnRows_194 rfl ?_
    refine r_iload dX1_learnRows_196 rfl ?_
    refine r_imul dX1_learnRows_198 ?_
    refine r_iload dX1_learnRows_199 rfl ?_
    refine r_iload dX1_learnRows_201 rfl ?_
    refine r_imul dX1_learnRows_203 ?_
    refine r_isub dX1_learnRows_204 ?_
    refine r_cI (as := [ax_i ((w8 * w12) - (w6 * w14))]) (how_SN jX10_modulo jSX10_modulo rfl wX1_60 dX1_learnRows_205) rfl (Nat.le_refl _) (Nat.le_of_ble_eq_true rfl) (fun _ => Nat.le_of_ble_eq_true rfl) H (fun w26 I25 H => ?_)
    have ob27 := H.1
    have H := H.2
    have ob28 := H.1
    have H := H.2
    refine r_iast s0_4 (by decide) dX1_learnRows_208 ob27 ob28 ?_
    refine r_iinc dX1_learnRows_209 (by decide) rfl rfl ?_
    refine r_goto (tgt := 45) dX1_learnRows_212 (by decide) ?_
    refine r_drop (ls2 := [some (ax_r 1), some (ax_i (x1 + 1)), none, none, none, none, none, none, none, none]) ?_ (ax_leS (ax_leS (ax_leN (ax_leN (ax_leN (ax_leN (ax_leN (ax_leN (ax_leN (ax_leN ax_leE))))))))))
    exact H

theorem vX1_knownRow_0 {d : Nat} {Q : Int → ax_H → Prop} {x1 : Int} {x2 : Int} {x3 : Int} {I : ax_H} (H :
  ∀ y4_10, y4_10 = ((((x1 * 32) + x2) * 3) + x3) →
  (ax_R y4_10 ∧
  ((y4_10 < 0 →
    Q 0 I) ∧
  (¬ y4_10 < 0 →
    (192 ≤ y4_10 →
      Q 0 I) ∧
    (¬ 192 ≤ y4_10 →
      (0 ≤ y4_10 ∧ y4_10 < 192) ∧
      (Q (I 4 y4_10) I)))))) :
  RI d kX1_knownRow 0 [some (ax_r 1), some (ax_i x1), some (ax_i x2), some (ax_i x3), none] I Q := by
  show Rn _ _ _ _ _ _ _ _
  refine r_iload_n dX1_knownRow_0 rfl ?_
  refine r_bipush (v := 32) dX1_knownRow_1 (by decide) ?_
  refine r_imul dX1_knownRow_3 ?_
  refine r_iload_n dX1_knownRow_4 rfl ?_
  refine r_iadd dX1_knownRow_5 ?_
  refine r_iconst dX1_knownRow_6 ?_
  refine r_imul dX1_knownRow_7 ?_
  refine r_iload_n dX1_knownRow_8 rfl ?_
  refine r_iadd dX1_knownRow_9 ?_
  refine r_name (fun y4_10 e1 => ?_)
  have H := H y4_10 e1
  refine r_istore dX1_knownRow_10 (by decide) rfl ?_
  refine r_iload dX1_knownRow_12 rfl ?_
  have ob2 := H.1
  have H := H.2
  refine r_if_lt (tgt := 37) dX1_knownRow_14 (by decide) ob2 (fun c3 => ?_) (fun c3 => ?_)
  · have H := H.1 c3
    refine r_iconst dX1_knownRow_37 ?_
    exact r_iret dX1_knownRow_38 rfl ⟨rfl, _, rfl, H⟩
  · have H := H.2 c3
    refine r_iload dX1_knownRow_17 rfl ?_
    refine r_aload_n dX1_knownRow_19 rfl ?_
    refine r_getR clX1 4 (by decide) s0_1 rfl rfl wX1_28 dX1_knownRow_20 ?_
    refine r_alen s0_4 dX1_knownRow_23 192 rfl ?_
    refine r_icmp_ge (tgt := 37) dX1_knownRow_24 (by decide) ob2 (by decide) (fun c4 => ?_) (fun c4 => ?_)
    · have H := H.1 c4
      refine r_iconst dX1_knownRow_37 ?_
      exact r_iret dX1_knownRow_38 rfl ⟨rfl, _, rfl, H⟩
    · have H := H.2 c4
      refine r_aload_n dX1_knownRow_27 rfl ?_
      refine r_getR clX1 4 (by decide) s0_1 rfl rfl wX1_28 dX1_knownRow_28 ?_
      refine r_iload dX1_knownRow_31 rfl ?_
      have ob5 := H.1
      have H := H.2
      refine r_iald s0_4 (by decide) dX1_knownRow_33 ob5 ?_
      refine r_goto (tgt := 38) dX1_knownRow_34 (by decide) ?_
      exact r_iret dX1_knownRow_38 rfl ⟨rfl, _, rfl, H⟩

theorem vX1_rowOf_0 {d : Nat} {Q : Int → ax_H → Prop} {x1 : Int} {x2 : Int} {x3 : Int} {I : ax_H} (H :
  cV (d + 2) kX1_learnRows [ax_r 1] I (fun I1 =>
  cI (d + 2) kX1_knownRow [ax_r 1, ax_i x1, ax_i x2, ax_i x3] I1 (fun w3 I2 =>
  Q w3 I2))) :
  RI (d + 3) kX1_rowOf 0 [some (ax_r 1), some (ax_i x1), some (ax_i x2), some (ax_i x3)] I Q := by
  show Rn _ _ _ _ _ _ _ _
  refine r_aload_n dX1_rowOf_0 rfl ?_
  refine r_cV (as := [ax_r 1]) (how_V (ci := 1) jX1_learnRows jIX1_learnRows jVX1_learnRows rfl s0_1 (by decide) rfl rfl wX1_64 dX1_rowOf_1) rfl (Nat.le_refl _) (Nat.le_of_ble_eq_true rfl) (fun _ => Nat.le_of_ble_eq_true rfl) H (fun I1 H => ?_)
  refine r_aload_n dX1_rowOf_4 rfl ?_
  refine r_iload_n dX1_rowOf_5 rfl ?_
  refine r_iload_n dX1_rowOf_6 rfl ?_
  refine r_iload_n dX1_rowOf_7 rfl ?_
  refine r_cI (as := [ax_r 1, ax_i x1, ax_i x2, ax_i x3]) (how_V (ci := 1) jX1_knownRow jIX1_knownRow jVX1_knownRow rfl s0_1 (by decide) rfl rfl wX1_67 dX1_rowOf_8) rfl (Nat.le_refl _) (Nat.le_of_ble_eq_true rfl) (fun _ => Nat.le_of_ble_eq_true rfl) H (fun w3 I2 H => ?_)
  exact r_iret dX1_rowOf_11 rfl ⟨rfl, _, rfl, H⟩

theorem vX1_pinchedLines_0 {d : Nat} {Q : Int → ax_H → Prop} {x1 : Int} {I : ax_H} (H :
  cV (d + 2) kX1_learnRows [ax_r 1] I (fun I1 =>
  RJ (d + 3) kX1_pinchedLines 9 [some (ax_r 1), some (ax_i x1), some (ax_l 0), none, some (ax_i 0), none] I1 Q)) :
  RJ (d + 3) kX1_pinchedLines 0 [some (ax_r 1), some (ax_i x1), none, none, none, none] I Q := by
  show Rn _ _ _ _ _ _ _ _
  refine r_aload_n dX1_pinchedLines_0 rfl ?_
  refine r_cV (as := [ax_r 1]) (how_V (ci := 1) jX1_learnRows jIX1_learnRows jVX1_learnRows rfl s0_1 (by decide) rfl rfl wX1_64 dX1_pinchedLines_1) rfl (Nat.le_refl _) (Nat.le_of_ble_eq_true rfl) (fun _ => Nat.le_of_ble_eq_true rfl) H (fun I1 H => ?_)
  refine r_lconst (v := 0) dX1_pinchedLines_4 rfl ?_
  refine r_lstore_n dX1_pinchedLines_5 (by decide) rfl ?_
  refine r_iconst dX1_pinchedLines_6 ?_
  refine r_istore dX1_pinchedLines_7 (by decide) rfl ?_
  exact H

theorem vX1_pinchedLines_9 {d : Nat} {Q : Int → ax_H → Prop} {x1 : Int} {x2 : Int} {x4 : Int} {I : ax_H} (r4 : ax_R x4) (H :
  (32 ≤ x4 →
    Q x2 I) ∧
  (¬ 32 ≤ x4 →
    cI (d + 2) kX1_knownRow [ax_r 1, ax_i x1, ax_i x4, ax_i 1] I (fun w3 I2 =>
    cI (d + 2) kX1_knownRow [ax_r 1, ax_i x1, ax_i x4, ax_i 0] I2 (fun w5 I4 =>
    cI (d + 2) kX1_knownRow [ax_r 1, ax_i x1, ax_i x4, ax_i 2] I4 (fun w7 I6 =>
    cI (d + 2) kX10_modulo [ax_i ((w3 * w3) - (w5 * w7))] I6 (fun w9 I8 =>
    ax_R w9 ∧
    ((w9 ≠ 0 →
      RJ (d + 3) kX1_pinchedLines 9 [some (ax_r 1), some (ax_i x1), some (ax_l x2), none, some (ax_i (x4 + 1)), none] I8 Q) ∧
    (w9 = 0 →
      (0 ≤ x4 ∧ x4 < 63) ∧
      (RJ (d + 3) kX1_pinchedLines 9 [some (ax_r 1), some (ax_i x1), some (ax_l (ax_lor x2 (2 ^ (x4).toNat))), none, some (ax_i (x4 + 1)), none] I8 Q))))))))) :
  RJ (d + 3) kX1_pinchedLines 9 [some (ax_r 1), some (ax_i x1), some (ax_l x2), none, some (ax_i x4), none] I Q := by
  show Rn _ _ _ _ _ _ _ _
  refine r_iload dX1_pinchedLines_9 rfl ?_
  refine r_bipush (v := 32) dX1_pinchedLines_11 (by decide) ?_
  refine r_icmp_ge (tgt := 68) dX1_pinchedLines_13 (by decide) r4 (by decide) (fun c1 => ?_) (fun c1 => ?_)
  · have H := H.1 c1
    refine r_lload_n dX1_pinchedLines_68 rfl ?_
    exact r_lret dX1_pinchedLines_69 rfl ⟨rfl, _, rfl, H⟩
  · have H := H.2 c1
    refine r_aload_n dX1_pinchedLines_16 rfl ?_
    refine r_iload_n dX1_pinchedLines_17 rfl ?_
    refine r_iload dX1_pinchedLines_18 rfl ?_
    refine r_iconst dX1_pinchedLines_20 ?_
    refine r_cI (as := [ax_r 1, ax_i x1, ax_i x4, ax_i 1]) (how_V (ci := 1) jX1_knownRow jIX1_knownRow jVX1_knownRow rfl s0_1 (by decide) rfl rfl wX1_67 dX1_pinchedLines_21) rfl (Nat.le_refl _) (Nat.le_of_ble_eq_true rfl) (fun _ => Nat.le_of_ble_eq_true rfl) H (fun w3 I2 H => ?_)
    refine r_istore dX1_pinchedLines_24 (by decide) rfl ?_
    refine r_iload dX1_pinchedLines_26 rfl ?_
    refine r_iload dX1_pinchedLines_28 rfl ?_
    refine r_imul dX1_pinchedLines_30 ?_
    refine r_aload_n dX1_pinchedLines_31 rfl ?_
    refine r_iload_n dX1_pinchedLines_32 rfl ?_
    refine r_iload dX1_pinchedLines_33 rfl ?_
    refine r_iconst dX1_pinchedLines_35 ?_
    refine r_cI (as := [ax_r 1, ax_i x1, ax_i x4, ax_i 0]) (how_V (ci := 1) jX1_knownRow jIX1_knownRow jVX1_knownRow rfl s0_1 (by decide) rfl rfl wX1_67 dX1_pinchedLines_36) rfl (Nat.le_refl _) (Nat.le_of_ble_eq_true rfl) (fun _ => Nat.le_of_ble_eq_true rfl) H (fun w5 I4 H => ?_)
    refine r_aload_n dX1_pinchedLines_39 rfl ?_
    refine r_iload_n dX1_pinchedLines_40 rfl ?_
    refine r_iload dX1_pinchedLines_41 rfl ?_
    refine r_iconst dX1_pinchedLines_43 ?_
    refine r_cI (as := [ax_r 1, ax_i x1, ax_i x4, ax_i 2]) (how_V (ci := 1) jX1_knownRow jIX1_knownRow jVX1_knownRow rfl s0_1 (by decide) rfl rfl wX1_67 dX1_pinchedLines_44) rfl (Nat.le_refl _) (Nat.le_of_ble_eq_true rfl) (fun _ => Nat.le_of_ble_eq_true rfl) H (fun w7 I6 H => ?_)
    refine r_imul dX1_pinchedLines_47 ?_
    refine r_isub dX1_pinchedLines_48 ?_
    refine r_cI (as := [ax_i ((w3 * w3) - (w5 * w7))]) (how_SN jX10_modulo jSX10_modulo rfl wX1_60 dX1_pinchedLines_49) rfl (Nat.le_refl _) (Nat.le_of_ble_eq_true rfl) (fun _ => Nat.le_of_ble_eq_true rfl) H (fun w9 I8 H => ?_)
    have ob10 := H.1
    have H := H.2
    refine r_if_ne (tgt := 62) dX1_pinchedLines_52 (by decide) ob10 (fun c11 => ?_) (fun c11 => ?_)
    · have H := H.1 c11
      refine r_iinc dX1_pinchedLines_62 (by decide) rfl rfl ?_
      refine r_goto (tgt := 9) dX1_pinchedLines_65 (by decide) ?_
      refine r_drop (ls2 := [some (ax_r 1), some (ax_i x1), some (ax_l x2), none, some (ax_i (x4 + 1)), none]) ?_ (ax_leS (ax_leS (ax_leS (ax_leN (ax_leS (ax_leN ax_leE))))))
      exact H
    · have H := H.2 c11
      refine r_lload_n dX1_pinchedLines_55 rfl ?_
      refine r_lconst (v := 1) dX1_pinchedLines_56 rfl ?_
      refine r_iload dX1_pinchedLines_57 rfl ?_
      have ob12 := H.1
      have H := H.2
      refine r_lshl dX1_pinchedLines_59 ob12 ?_
      refine r_lor dX1_pinchedLines_60 ?_
      refine r_lstore_n dX1_pinchedLines_61 (by decide) rfl ?_
      refine r_iinc dX1_pinchedLines_62 (by decide) rfl rfl ?_
      refine r_goto (tgt := 9) dX1_pinchedLines_65 (by decide) ?_
      refine r_drop (ls2 := [some (ax_r 1), some (ax_i x1), some (ax_l (ax_lor x2 (2 ^ (x4).toNat))), none, some (ax_i (x4 + 1)), none]) ?_ (ax_leS (ax_leS (ax_leS (ax_leN (ax_leS (ax_leN ax_leE))))))
      exact H

theorem vX1_swapOf_0 {d : Nat} {Q : Int → ax_H → Prop} {x1 : Int} {x2 : Int} {x3 : Int} {I : ax_H} (H :
  cV (d + 2) kX1_learnRows [ax_r 1] I (fun I1 =>
  cI (d + 2) kX1_knownSwap [ax_r 1, ax_i x1, ax_i x2, ax_i x3] I1 (fun w3 I2 =>
  Q w3 I2))) :
  RI (d + 3) kX1_swapOf 0 [some (ax_r 1), some (ax_i x1), some (ax_i x2), some (ax_i x3)] I Q := by
  show Rn _ _ _ _ _ _ _ _
  refine r_aload_n dX1_swapOf_0 rfl ?_
  refine r_cV (as := [ax_r 1]) (how_V (ci := 1) jX1_learnRows jIX1_learnRows jVX1_learnRows rfl s0_1 (by decide) rfl rfl wX1_64 dX1_swapOf_1) rfl (Nat.le_refl _) (Nat.le_of_ble_eq_true rfl) (fun _ => Nat.le_of_ble_eq_true rfl) H (fun I1 H => ?_)
  refine r_aload_n dX1_swapOf_4 rfl ?_
  refine r_iload_n dX1_swapOf_5 rfl ?_
  refine r_iload_n dX1_swapOf_6 rfl ?_
  refine r_iload_n dX1_swapOf_7 rfl ?_
  refine r_cI (as := [ax_r 1, ax_i x1, ax_i x2, ax_i x3]) (how_V (ci := 1) jX1_knownSwap jIX1_knownSwap jVX1_knownSwap rfl s0_1 (by decide) rfl rfl wX1_71 dX1_swapOf_8) rfl (Nat.le_refl _) (Nat.le_of_ble_eq_true rfl) (fun _ => Nat.le_of_ble_eq_true rfl) H (fun w3 I2 H => ?_)
  exact r_iret dX1_swapOf_11 rfl ⟨rfl, _, rfl, H⟩

theorem vX1_knownSwap_0 {d : Nat} {Q : Int → ax_H → Prop} {x1 : Int} {x2 : Int} {x3 : Int} {I : ax_H} (r2 : ax_R x2) (H :
  cI (d + 1) kX1_knownRow [ax_r 1, ax_i x1, ax_i x3, ax_i 0] I (fun w2 I1 =>
  cI (d + 1) kX1_knownRow [ax_r 1, ax_i x1, ax_i x3, ax_i 1] I1 (fun w4 I3 =>
  cI (d + 1) kX1_knownRow [ax_r 1, ax_i x1, ax_i x3, ax_i 2] I3 (fun w6 I5 =>
  (x2 ≠ 31 →
    cI (d + 1) kX10_quotient [ax_i (-((w4 * x2) + w6)), ax_i ((w2 * x2) + w4)] I5 (fun w9 I8 =>
    ax_R w9 ∧
    ((w9 ≠ (-6) →
      Q w9 I8) ∧
    (w9 = (-6) →
      Q (-7) I8)))) ∧
  (x2 = 31 →
    cI (d + 1) kX10_quotient [ax_i (-w4), ax_i w2] I5 (fun w13 I12 =>
    ax_R w13 ∧
    ((w13 ≠ (-6) →
      Q w13 I12) ∧
    (w13 = (-6) →
      Q (-7) I12)))))))) :
  RI (d + 2) kX1_knownSwap 0 [some (ax_r 1), some (ax_i x1), some (ax_i x2), some (ax_i x3), none, none, none, none] I Q := by
  show Rn _ _ _ _ _ _ _ _
  refine r_aload_n dX1_knownSwap_0 rfl ?_
  refine r_iload_n dX1_knownSwap_1 rfl ?_
  refine r_iload_n dX1_knownSwap_2 rfl ?_
  refine r_iconst dX1_knownSwap_3 ?_
  refine r_cI (as := [ax_r 1, ax_i x1, ax_i x3, ax_i 0]) (how_V (ci := 1) jX1_knownRow jIX1_knownRow jVX1_knownRow rfl s0_1 (by decide) rfl rfl wX1_67 dX1_knownSwap_4) rfl (Nat.le_refl _) (Nat.le_of_ble_eq_true rfl) (fun _ => Nat.le_of_ble_eq_true rfl) H (fun w2 I1 H => ?_)
  refine r_istore dX1_knownSwap_7 (by decide) rfl ?_
  refine r_aload_n dX1_knownSwap_9 rfl ?_
  refine r_iload_n dX1_knownSwap_10 rfl ?_
  refine r_iload_n dX1_knownSwap_11 rfl ?_
  refine r_iconst dX1_knownSwap_12 ?_
  refine r_cI (as := [ax_r 1, ax_i x1, ax_i x3, ax_i 1]) (how_V (ci := 1) jX1_knownRow jIX1_knownRow jVX1_knownRow rfl s0_1 (by decide) rfl rfl wX1_67 dX1_knownSwap_13) rfl (Nat.le_refl _) (Nat.le_of_ble_eq_true rfl) (fun _ => Nat.le_of_ble_eq_true rfl) H (fun w4 I3 H => ?_)
  refine r_istore dX1_knownSwap_16 (by decide) rfl ?_
  refine r_aload_n dX1_knownSwap_18 rfl ?_
  refine r_iload_n dX1_knownSwap_19 rfl ?_
  refine r_iload_n dX1_knownSwap_20 rfl ?_
  refine r_iconst dX1_knownSwap_21 ?_
  refine r_cI (as := [ax_r 1, ax_i x1, ax_i x3, ax_i 2]) (how_V (ci := 1) jX1_knownRow jIX1_knownRow jVX1_knownRow rfl s0_1 (by decide) rfl rfl wX1_67 dX1_knownSwap_22) rfl (Nat.le_refl _) (Nat.le_of_ble_eq_true rfl) (fun _ => Nat.le_of_ble_eq_true rfl) H (fun w6 I5 H => ?_)
  refine r_istore dX1_knownSwap_25 (by decide) rfl ?_
  refine r_iload_n dX1_knownSwap_27 rfl ?_
  refine r_bipush (v := 31) dX1_knownSwap_28 (by decide) ?_
  refine r_icmp_ne (tgt := 44) dX1_knownSwap_30 (by decide) r2 (by decide) (fun c7 => ?_) (fun c7 => ?_)
  · have H := H.1 c7
    refine r_iload dX1_knownSwap_44 rfl ?_
    refine r_iload_n dX1_knownSwap_46 rfl ?_
    refine r_imul dX1_knownSwap_47 ?_
    refine r_iload dX1_knownSwap_48 rfl ?_
    refine r_iadd dX1_knownSwap_50 ?_
    refine r_ineg dX1_knownSwap_51 ?_
    refine r_iload dX1_knownSwap_52 rfl ?_
    refine r_iload_n dX1_knownSwap_54 rfl ?_
    refine r_imul dX1_knownSwap_55 ?_
    refine r_iload dX1_knownSwap_56 rfl ?_
    refine r_iadd dX1_knownSwap_58 ?_
    refine r_cI (as := [ax_i (-((w4 * x2) + w6)), ax_i ((w2 * x2) + w4)]) (how_SN jX10_quotient jSX10_quotient rfl wX1_74 dX1_knownSwap_59) rfl (Nat.le_refl _) (Nat.le_of_ble_eq_true rfl) (fun _ => Nat.le_of_ble_eq_true rfl) H (fun w9 I8 H => ?_)
    refine r_istore dX1_knownSwap_62 (by decide) rfl ?_
    refine r_iload dX1_knownSwap_64 rfl ?_
    refine r_bipush (v := (-6)) dX1_knownSwap_66 (by decide) ?_
    have ob10 := H.1
    have H := H.2
    refine r_icmp_ne (tgt := 76) dX1_knownSwap_68 (by decide) ob10 (by decide) (fun c11 => ?_) (fun c11 => ?_)
    · have H := H.1 c11
      refine r_iload dX1_knownSwap_76 rfl ?_
      exact r_iret dX1_knownSwap_78 rfl ⟨rfl, _, rfl, H⟩
    · have H := H.2 c11
      refine r_bipush (v := (-7)) dX1_knownSwap_71 (by decide) ?_
      refine r_goto (tgt := 78) dX1_knownSwap_73 (by decide) ?_
      exact r_iret dX1_knownSwap_78 rfl ⟨rfl, _, rfl, H⟩
  · have H := H.2 c7
    refine r_iload dX1_knownSwap_33 rfl ?_
    refine r_ineg dX1_knownSwap_35 ?_
    refine r_iload dX1_knownSwap_36 rfl ?_
    refine r_cI (as := [ax_i (-w4), ax_i w2]) (how_SN jX10_quotient jSX10_quotient rfl wX1_74 dX1_knownSwap_38) rfl (Nat.le_refl _) (Nat.le_of_ble_eq_true rfl) (fun _ => Nat.le_of_ble_eq_true rfl) H (fun w13 I12 H => ?_)
    refine r_goto (tgt := 62) dX1_knownSwap_41 (by decide) ?_
    refine r_istore dX1_knownSwap_62 (by decide) rfl ?_
    refine r_iload dX1_knownSwap_64 rfl ?_
    refine r_bipush (v := (-6)) dX1_knownSwap_66 (by decide) ?_
    have ob14 := H.1
    have H := H.2
    refine r_icmp_ne (tgt := 76) dX1_knownSwap_68 (by decide) ob14 (by decide) (fun c15 => ?_) (fun c15 => ?_)
    · have H := H.1 c15
      refine r_iload dX1_knownSwap_76 rfl ?_
      exact r_iret dX1_knownSwap_78 rfl ⟨rfl, _, rfl, H⟩
    · have H := H.2 c15
      refine r_bipush (v := (-7)) dX1_knownSwap_71 (by decide) ?_
      refine r_goto (tgt := 78) dX1_knownSwap_73 (by decide) ?_
      exact r_iret dX1_knownSwap_78 rfl ⟨rfl, _, rfl, H⟩

theorem vX1_stepFrom_0 {d : Nat} {Q : Int → ax_H → Prop} {x1 : Int} {I : ax_H} (r1 : ax_R x1) (H :
  (x1 < 0 →
    Q (-7) I) ∧
  (¬ x1 < 0 →
    (x1 < 1024 →
      cV (d + 2) kX1_learnRows [ax_r 1] I (fun I3 =>
      (0 ≤ x1 ∧ x1 < 1024) ∧
      (((I3 7 x1) ≠ (-100) →
        Q (I3 7 x1) I3) ∧
      ((I3 7 x1) = (-100) →
        (0 ≤ x1 ∧ x1 < 2147483648) ∧
        (cI (d + 2) kX1_knownSwap [ax_r 1, ax_i 0, ax_i (x1 / 32), ax_i (x1 % 32)] I3 (fun w9 I8 =>
        ax_R w9 ∧
        ((w9 ≠ (-7) →
          cI (d + 2) kX1_knownSwap [ax_r 1, ax_i 1, ax_i (x1 % 32), ax_i w9] I8 (fun w13 I12 =>
          ax_R w13 ∧
          ((w13 ≠ (-7) →
            ax_R ((w9 * 32) + w13) ∧
            (Q ((ax_st I12 7 x1 ((w9 * 32) + w13)) 7 x1) (ax_st I12 7 x1 ((w9 * 32) + w13)))) ∧
          (w13 = (-7) →
            Q ((ax_st I12 7 x1 (-7)) 7 x1) (ax_st I12 7 x1 (-7)))))) ∧
        (w9 = (-7) →
          Q ((ax_st I8 7 x1 (-7)) 7 x1) (ax_st I8 7 x1 (-7)))))))))) ∧
    (¬ x1 < 1024 →
      Q (-7) I))) :
  RI (d + 3) kX1_stepFrom 0 [some (ax_r 1), some (ax_i x1), none, none] I Q := by
  show Rn _ _ _ _ _ _ _ _
  refine r_iload_n dX1_stepFrom_0 rfl ?_
  refine r_if_lt (tgt := 11) dX1_stepFrom_1 (by decide) r1 (fun c1 => ?_) (fun c1 => ?_)
  · have H := H.1 c1
    refine r_bipush (v := (-7)) dX1_stepFrom_11 (by decide) ?_
    exact r_iret dX1_stepFrom_13 rfl ⟨rfl, _, rfl, H⟩
  · have H := H.2 c1
    refine r_iload_n dX1_stepFrom_4 rfl ?_
    refine r_sipush (v := 1024) dX1_stepFrom_5 (by decide) ?_
    refine r_icmp_lt (tgt := 14) dX1_stepFrom_8 (by decide) r1 (by decide) (fun c2 => ?_) (fun c2 => ?_)
    · have H := H.1 c2
      refine r_aload_n dX1_stepFrom_14 rfl ?_
      refine r_cV (as := [ax_r 1]) (how_V (ci := 1) jX1_learnRows jIX1_learnRows jVX1_learnRows rfl s0_1 (by decide) rfl rfl wX1_64 dX1_stepFrom_15) rfl (Nat.le_refl _) (Nat.le_of_ble_eq_true rfl) (fun _ => Nat.le_of_ble_eq_true rfl) H (fun I3 H => ?_)
      refine r_aload_n dX1_stepFrom_18 rfl ?_
      refine r_getR clX1 7 (by decide) s0_1 rfl rfl wX1_38 dX1_stepFrom_19 ?_
      refine r_iload_n dX1_stepFrom_22 rfl ?_
      have ob4 := H.1
      have H := H.2
      refine r_iald s0_7 (by decide) dX1_stepFrom_23 ob4 ?_
      refine r_bipush (v := (-100)) dX1_stepFrom_24 (by decide) ?_
      refine r_heapR (fun hI5 => ?_)
      refine r_icmp_ne (tgt := 88) dX1_stepFrom_26 (by decide) (hI5 _ _) (by decide) (fun c6 => ?_) (fun c6 => ?_)
      · have H := H.1 c6
        refine r_aload_n dX1_stepFrom_88 rfl ?_
        refine r_getR clX1 7 (by decide) s0_1 rfl rfl wX1_38 dX1_stepFrom_89 ?_
        refine r_iload_n dX1_stepFrom_92 rfl ?_
        refine r_iald s0_7 (by decide) dX1_stepFrom_93 ob4 ?_
        exact r_iret dX1_stepFrom_94 rfl ⟨rfl, _, rfl, H⟩
      · have H := H.2 c6
        refine r_aload_n dX1_stepFrom_29 rfl ?_
        refine r_iconst dX1_stepFrom_30 ?_
        refine r_iload_n dX1_stepFrom_31 rfl ?_
        refine r_bipush (v := 32) dX1_stepFrom_32 (by decide) ?_
        have ob7 := H.1
        have H := H.2
        refine r_idivp dX1_stepFrom_34 ob7 (by decide) ?_
        refine r_iload_n dX1_stepFrom_35 rfl ?_
        refine r_bipush (v := 32) dX1_stepFrom_36 (by decide) ?_
        refine r_iremp dX1_stepFrom_38 ob7 (by decide) ?_
        refine r_cI (as := [ax_r 1, ax_i 0, ax_i (x1 / 32), ax_i (x1 % 32)]) (how_V (ci := 1) jX1_knownSwap jIX1_knownSwap jVX1_knownSwap rfl s0_1 (by decide) rfl rfl wX1_71 dX1_stepFrom_39) rfl (Nat.le_refl _) (Nat.le_of_ble_eq_true rfl) (fun _ => Nat.le_of_ble_eq_true rfl) H (fun w9 I8 H => ?_)
        refine r_istore_n dX1_stepFrom_42 (by decide) rfl ?_
        refine r_iload_n dX1_stepFrom_43 rfl ?_
        refine r_bipush (v := (-7)) dX1_stepFrom_44 (by decide) ?_
        have ob10 := H.1
        have H := H.2
        refine r_icmp_ne (tgt := 54) dX1_stepFrom_46 (by decide) ob10 (by decide) (fun c11 => ?_) (fun c11 => ?_)
        · have H := H.1 c11
          refine r_aload_n dX1_stepFrom_54 rfl ?_
          refine r_iconst dX1_stepFrom_55 ?_
          refine r_iload_n dX1_stepFrom_56 rfl ?_
          refine r_bipush (v := 32) dX1_stepFrom_57 (by decide) ?_
          refine r_iremp dX1_stepFrom_59 ob7 (by decide) ?_
          refine r_iload_n dX1_stepFrom_60 rfl ?_
          refine r_cI (as := [ax_r 1, ax_i 1, ax_i (x1 % 32), ax_i w9]) (how_V (ci := 1) jX1_knownSwap jIX1_knownSwap jVX1_knownSwap rfl s0_1 (by decide) rfl rfl wX1_71 dX1_stepFrom_61) rfl (Nat.le_refl _) (Nat.le_of_ble_eq_true rfl) (fun _ => Nat.le_of_ble_eq_true rfl) H (fun w13 I12 H => ?_)
          refine r_istore_n dX1_stepFrom_64 (by decide) rfl ?_
          refine r_aload_n dX1_stepFrom_65 rfl ?_
          refine r_getR clX1 7 (by decide) s0_1 rfl rfl wX1_38 dX1_stepFrom_66 ?_
          refine r_iload_n dX1_stepFrom_69 rfl ?_
          refine r_iload_n dX1_stepFrom_70 rfl ?_
          refine r_bipush (v := (-7)) dX1_stepFrom_71 (by decide) ?_
          have ob14 := H.1
          have H := H.2
          refine r_icmp_ne (tgt := 81) dX1_stepFrom_73 (by decide) ob14 (by decide) (fun c15 => ?_) (fun c15 => ?_)
          · have H := H.1 c15
            refine r_iload_n dX1_stepFrom_81 rfl ?_
            refine r_bipush (v := 32) dX1_stepFrom_82 (by decide) ?_
            refine r_imul dX1_stepFrom_84 ?_
            refine r_iload_n dX1_stepFrom_85 rfl ?_
            refine r_iadd dX1_stepFrom_86 ?_
            have ob16 := H.1
            have H := H.2
            refine r_iast s0_7 (by decide) dX1_stepFrom_87 ob4 ob16 ?_
            refine r_aload_n dX1_stepFrom_88 rfl ?_
            refine r_getR clX1 7 (by decide) s0_1 rfl rfl wX1_38 dX1_stepFrom_89 ?_
            refine r_iload_n dX1_stepFrom_92 rfl ?_
            refine r_iald s0_7 (by decide) dX1_stepFrom_93 ob4 ?_
            exact r_iret dX1_stepFrom_94 rfl ⟨rfl, _, rfl, H⟩
          · have H := H.2 c15
            refine r_bipush (v := (-7)) dX1_stepFrom_76 (by decide) ?_
            refine r_goto (tgt := 87) dX1_stepFrom_78 (by decide) ?_
            refine r_iast s0_7 (by decide) dX1_stepFrom_87 ob4 (by decide) ?_
            refine r_aload_n dX1_stepFrom_88 rfl ?_
            refine r_getR clX1 7 (by decide) s0_1 rfl rfl wX1_38 dX1_stepFrom_89 ?_
            refine r_iload_n dX1_stepFrom_92 rfl ?_
            refine r_iald s0_7 (by decide) dX1_stepFrom_93 ob4 ?_
            exact r_iret dX1_stepFrom_94 rfl ⟨rfl, _, rfl, H⟩
        · have H := H.2 c11
          refine r_bipush (v := (-7)) dX1_stepFrom_49 (by decide) ?_
          refine r_goto (tgt := 64) dX1_stepFrom_51 (by decide) ?_
          refine r_istore_n dX1_stepFrom_64 (by decide) rfl ?_
          refine r_aload_n dX1_stepFrom_65 rfl ?_
          refine r_getR clX1 7 (by decide) s0_1 rfl rfl wX1_38 dX1_stepFrom_66 ?_
          refine r_iload_n dX1_stepFrom_69 rfl ?_
          refine r_iload_n dX1_stepFrom_70 rfl ?_
          refine r_bipush (v := (-7)) dX1_stepFrom_71 (by decide) ?_
          refine r_icmp_ne (tgt := 81) dX1_stepFrom_73 (by decide) (by decide) (by decide) (fun c17 => absurd c17 (by decide)) (fun c17 => ?_)
          refine r_bipush (v := (-7)) dX1_stepFrom_76 (by decide) ?_
          refine r_goto (tgt := 87) dX1_stepFrom_78 (by decide) ?_
          refine r_iast s0_7 (by decide) dX1_stepFrom_87 ob4 (by decide) ?_
          refine r_aload_n dX1_stepFrom_88 rfl ?_
          refine r_getR clX1 7 (by decide) s0_1 rfl rfl wX1_38 dX1_stepFrom_89 ?_
          refine r_iload_n dX1_stepFrom_92 rfl ?_
          refine r_iald s0_7 (by decide) dX1_stepFrom_93 ob4 ?_
          exact r_iret dX1_stepFrom_94 rfl ⟨rfl, _, rfl, H⟩
    · have H := H.2 c2
      refine r_bipush (v := (-7)) dX1_stepFrom_11 (by decide) ?_
      exact r_iret dX1_stepFrom_13 rfl ⟨rfl, _, rfl, H⟩

theorem vX1_stepBackFrom_0 {d : Nat} {Q : Int → ax_H → Prop} {x1 : Int} {I : ax_H} (r1 : ax_R x1) (H :
  (x1 < 0 →
    Q (-7) I) ∧
  (¬ x1 < 0 →
    (x1 < 1024 →
      cV (d + 2) kX1_learnRows [ax_r 1] I (fun I3 =>
      (0 ≤ x1 ∧ x1 < 2147483648) ∧
      (cI (d + 2) kX1_knownSwap [ax_r 1, ax_i 1, ax_i (x1 % 32), ax_i (x1 / 32)] I3 (fun w6 I5 =>
      ax_R w6 ∧
      ((w6 ≠ (-7) →
        cI (d + 2) kX1_knownSwap [ax_r 1, ax_i 0, ax_i (x1 / 32), ax_i w6] I5 (fun w10 I9 =>
        ax_R w10 ∧
        ((w10 ≠ (-7) →
          Q ((w10 * 32) + w6) I9) ∧
        (w10 = (-7) →
          Q (-7) I9)))) ∧
      (w6 = (-7) →
        Q (-7) I5)))))) ∧
    (¬ x1 < 1024 →
      Q (-7) I))) :
  RI (d + 3) kX1_stepBackFrom 0 [some (ax_r 1), some (ax_i x1), none, none] I Q := by
  show Rn _ _ _ _ _ _ _ _
  refine r_iload_n dX1_stepBackFrom_0 rfl ?_
  refine r_if_lt (tgt := 11) dX1_stepBackFrom_1 (by decide) r1 (fun c1 => ?_) (fun c1 => ?_)
  · have H := H.1 c1
    refine r_bipush (v := (-7)) dX1_stepBackFrom_11 (by decide) ?_
    exact r_iret dX1_stepBackFrom_13 rfl ⟨rfl, _, rfl, H⟩
  · have H := H.2 c1
    refine r_iload_n dX1_stepBackFrom_4 rfl ?_
    refine r_sipush (v := 1024) dX1_stepBackFrom_5 (by decide) ?_
    refine r_icmp_lt (tgt := 14) dX1_stepBackFrom_8 (by decide) r1 (by decide) (fun c2 => ?_) (fun c2 => ?_)
    · have H := H.1 c2
      refine r_aload_n dX1_stepBackFrom_14 rfl ?_
      refine r_cV (as := [ax_r 1]) (how_V (ci := 1) jX1_learnRows jIX1_learnRows jVX1_learnRows rfl s0_1 (by decide) rfl rfl wX1_64 dX1_stepBackFrom_15) rfl (Nat.le_refl _) (Nat.le_of_ble_eq_true rfl) (fun _ => Nat.le_of_ble_eq_true rfl) H (fun I3 H => ?_)
      refine r_aload_n dX1_stepBackFrom_18 rfl ?_
      refine r_iconst dX1_stepBackFrom_19 ?_
      refine r_iload_n dX1_stepBackFrom_20 rfl ?_
      refine r_bipush (v := 32) dX1_stepBackFrom_21 (by decide) ?_
      have ob4 := H.1
      have H := H.2
      refine r_iremp dX1_stepBackFrom_23 ob4 (by decide) ?_
      refine r_iload_n dX1_stepBackFrom_24 rfl ?_
      refine r_bipush (v := 32) dX1_stepBackFrom_25 (by decide) ?_
      refine r_idivp dX1_stepBackFrom_27 ob4 (by decide) ?_
      refine r_cI (as := [ax_r 1, ax_i 1, ax_i (x1 % 32), ax_i (x1 / 32)]) (how_V (ci := 1) jX1_knownSwap jIX1_knownSwap jVX1_knownSwap rfl s0_1 (by decide) rfl rfl wX1_71 dX1_stepBackFrom_28) rfl (Nat.le_refl _) (Nat.le_of_ble_eq_true rfl) (fun _ => Nat.le_of_ble_eq_true rfl) H (fun w6 I5 H => ?_)
      refine r_istore_n dX1_stepBackFrom_31 (by decide) rfl ?_
      refine r_iload_n dX1_stepBackFrom_32 rfl ?_
      refine r_bipush (v := (-7)) dX1_stepBackFrom_33 (by decide) ?_
      have ob7 := H.1
      have H := H.2
      refine r_icmp_ne (tgt := 43) dX1_stepBackFrom_35 (by decide) ob7 (by decide) (fun c8 => ?_) (fun c8 => ?_)
      · have H := H.1 c8
        refine r_aload_n dX1_stepBackFrom_43 rfl ?_
        refine r_iconst dX1_stepBackFrom_44 ?_
        refine r_iload_n dX1_stepBackFrom_45 rfl ?_
        refine r_bipush (v := 32) dX1_stepBackFrom_46 (by decide) ?_
        refine r_idivp dX1_stepBackFrom_48 ob4 (by decide) ?_
        refine r_iload_n dX1_stepBackFrom_49 rfl ?_
        refine r_cI (as := [ax_r 1, ax_i 0, ax_i (x1 / 32), ax_i w6]) (how_V (ci := 1) jX1_knownSwap jIX1_knownSwap jVX1_knownSwap rfl s0_1 (by decide) rfl rfl wX1_71 dX1_stepBackFrom_50) rfl (Nat.le_refl _) (Nat.le_of_ble_eq_true rfl) (fun _ => Nat.le_of_ble_eq_true rfl) H (fun w10 I9 H => ?_)
        refine r_istore_n dX1_stepBackFrom_53 (by decide) rfl ?_
        refine r_iload_n dX1_stepBackFrom_54 rfl ?_
        refine r_bipush (v := (-7)) dX1_stepBackFrom_55 (by decide) ?_
        have ob11 := H.1
        have H := H.2
        refine r_icmp_ne (tgt := 65) dX1_stepBackFrom_57 (by decide) ob11 (by decide) (fun c12 => ?_) (fun c12 => ?_)
        · have H := H.1 c12
          refine r_iload_n dX1_stepBackFrom_65 rfl ?_
          refine r_bipush (v := 32) dX1_stepBackFrom_66 (by decide) ?_
          refine r_imul dX1_stepBackFrom_68 ?_
          refine r_iload_n dX1_stepBackFrom_69 rfl ?_
          refine r_iadd dX1_stepBackFrom_70 ?_
          exact r_iret dX1_stepBackFrom_71 rfl ⟨rfl, _, rfl, H⟩
        · have H := H.2 c12
          refine r_bipush (v := (-7)) dX1_stepBackFrom_60 (by decide) ?_
          refine r_goto (tgt := 71) dX1_stepBackFrom_62 (by decide) ?_
          exact r_iret dX1_stepBackFrom_71 rfl ⟨rfl, _, rfl, H⟩
      · have H := H.2 c8
        refine r_bipush (v := (-7)) dX1_stepBackFrom_38 (by decide) ?_
        refine r_goto (tgt := 53) dX1_stepBackFrom_40 (by decide) ?_
        refine r_istore_n dX1_stepBackFrom_53 (by decide) rfl ?_
        refine r_iload_n dX1_stepBackFrom_54 rfl ?_
        refine r_bipush (v := (-7)) dX1_stepBackFrom_55 (by decide) ?_
        refine r_icmp_ne (tgt := 65) dX1_stepBackFrom_57 (by decide) (by decide) (by decide) (fun c13 => absurd c13 (by decide)) (fun c13 => ?_)
        refine r_bipush (v := (-7)) dX1_stepBackFrom_60 (by decide) ?_
        refine r_goto (tgt := 71) dX1_stepBackFrom_62 (by decide) ?_
        exact r_iret dX1_stepBackFrom_71 rfl ⟨rfl, _, rfl, H⟩
    · have H := H.2 c2
      refine r_bipush (v := (-7)) dX1_stepBackFrom_11 (by decide) ?_
      exact r_iret dX1_stepBackFrom_13 rfl ⟨rfl, _, rfl, H⟩

theorem vX1_walk_0 {d : Nat} {Q : Int → ax_H → Prop} {x1 : Int} {x2 : Int} {I : ax_H} (H :
  RI (d + 4) kX1_walk 5 [some (ax_r 1), none, some (ax_i x2), some (ax_i x1), some (ax_i 0)] I Q) :
  RI (d + 4) kX1_walk 0 [some (ax_r 1), some (ax_i x1), some (ax_i x2), none, none] I Q := by
  show Rn _ _ _ _ _ _ _ _
  refine r_iload_n dX1_walk_0 rfl ?_
  refine r_istore_n dX1_walk_1 (by decide) rfl ?_
  refine r_iconst dX1_walk_2 ?_
  refine r_istore dX1_walk_3 (by decide) rfl ?_
  refine r_drop (ls2 := [some (ax_r 1), none, some (ax_i x2), some (ax_i x1), some (ax_i 0)]) ?_ (ax_leS (ax_leN (ax_leS (ax_leS (ax_leS ax_leE)))))
  exact H

theorem vX1_walk_5 {d : Nat} {Q : Int → ax_H → Prop} {x2 : Int} {x3 : Int} {x4 : Int} {I : ax_H} (r2 : ax_R x2) (r4 : ax_R x4) (H :
  (x2 ≤ x4 →
    Q x3 I) ∧
  (¬ x2 ≤ x4 →
    cI (d + 3) kX1_stepFrom [ax_r 1, ax_i x3] I (fun w3 I2 =>
    RI (d + 4) kX1_walk 5 [some (ax_r 1), none, some (ax_i x2), some (ax_i w3), some (ax_i (x4 + 1))] I2 Q))) :
  RI (d + 4) kX1_walk 5 [some (ax_r 1), none, some (ax_i x2), some (ax_i x3), some (ax_i x4)] I Q := by
  show Rn _ _ _ _ _ _ _ _
  refine r_iload dX1_walk_5 rfl ?_
  refine r_iload_n dX1_walk_7 rfl ?_
  refine r_icmp_ge (tgt := 23) dX1_walk_8 (by decide) r4 r2 (fun c1 => ?_) (fun c1 => ?_)
  · have H := H.1 c1
    refine r_iload_n dX1_walk_23 rfl ?_
    exact r_iret dX1_walk_24 rfl ⟨rfl, _, rfl, H⟩
  · have H := H.2 c1
    refine r_aload_n dX1_walk_11 rfl ?_
    refine r_iload_n dX1_walk_12 rfl ?_
    refine r_cI (as := [ax_r 1, ax_i x3]) (how_V (ci := 1) jX1_stepFrom jIX1_stepFrom jVX1_stepFrom rfl s0_1 (by decide) rfl rfl wX1_78 dX1_walk_13) rfl (Nat.le_refl _) (Nat.le_of_ble_eq_true rfl) (fun _ => Nat.le_of_ble_eq_true rfl) H (fun w3 I2 H => ?_)
    refine r_istore_n dX1_walk_16 (by decide) rfl ?_
    refine r_iinc dX1_walk_17 (by decide) rfl rfl ?_
    refine r_goto (tgt := 5) dX1_walk_20 (by decide) ?_
    exact H

theorem vX1_walkBack_0 {d : Nat} {Q : Int → ax_H → Prop} {x1 : Int} {x2 : Int} {I : ax_H} (H :
  RI (d + 4) kX1_walkBack 5 [some (ax_r 1), none, some (ax_i x2), some (ax_i x1), some (ax_i 0)] I Q) :
  RI (d + 4) kX1_walkBack 0 [some (ax_r 1), some (ax_i x1), some (ax_i x2), none, none] I Q := by
  show Rn _ _ _ _ _ _ _ _
  refine r_iload_n dX1_walkBack_0 rfl ?_
  refine r_istore_n dX1_walkBack_1 (by decide) rfl ?_
  refine r_iconst dX1_walkBack_2 ?_
  refine r_istore dX1_walkBack_3 (by decide) rfl ?_
  refine r_drop (ls2 := [some (ax_r 1), none, some (ax_i x2), some (ax_i x1), some (ax_i 0)]) ?_ (ax_leS (ax_leN (ax_leS (ax_leS (ax_leS ax_leE)))))
  exact H

theorem vX1_walkBack_5 {d : Nat} {Q : Int → ax_H → Prop} {x2 : Int} {x3 : Int} {x4 : Int} {I : ax_H} (r2 : ax_R x2) (r4 : ax_R x4) (H :
  (x2 ≤ x4 →
    Q x3 I) ∧
  (¬ x2 ≤ x4 →
    cI (d + 3) kX1_stepBackFrom [ax_r 1, ax_i x3] I (fun w3 I2 =>
    RI (d + 4) kX1_walkBack 5 [some (ax_r 1), none, some (ax_i x2), some (ax_i w3), some (ax_i (x4 + 1))] I2 Q))) :
  RI (d + 4) kX1_walkBack 5 [some (ax_r 1), none, some (ax_i x2), some (ax_i x3), some (ax_i x4)] I Q := by
  show Rn _ _ _ _ _ _ _ _
  refine r_iload dX1_walkBack_5 rfl ?_
  refine r_iload_n dX1_walkBack_7 rfl ?_
  refine r_icmp_ge (tgt := 23) dX1_walkBack_8 (by decide) r4 r2 (fun c1 => ?_) (fun c1 => ?_)
  · have H := H.1 c1
    refine r_iload_n dX1_walkBack_23 rfl ?_
    exact r_iret dX1_walkBack_24 rfl ⟨rfl, _, rfl, H⟩
  · have H := H.2 c1
    refine r_aload_n dX1_walkBack_11 rfl ?_
    refine r_iload_n dX1_walkBack_12 rfl ?_
    refine r_cI (as := [ax_r 1, ax_i x3]) (how_V (ci := 1) jX1_stepBackFrom jIX1_stepBackFrom jVX1_stepBackFrom rfl s0_1 (by decide) rfl rfl wX1_81 dX1_walkBack_13) rfl (Nat.le_refl _) (Nat.le_of_ble_eq_true rfl) (fun _ => Nat.le_of_ble_eq_true rfl) H (fun w3 I2 H => ?_)
    refine r_istore_n dX1_walkBack_16 (by decide) rfl ?_
    refine r_iinc dX1_walkBack_17 (by decide) rfl rfl ?_
    refine r_goto (tgt := 5) dX1_walkBack_20 (by decide) ?_
    exact H

theorem vX1_periodOf_0 {d : Nat} {Q : Int → ax_H → Prop} {x1 : Int} {I : ax_H} (H :
  RI (d + 4) kX1_periodOf 4 [some (ax_r 1), some (ax_i x1), some (ax_i x1), some (ax_i 1)] I Q) :
  RI (d + 4) kX1_periodOf 0 [some (ax_r 1), some (ax_i x1), none, none] I Q := by
  show Rn _ _ _ _ _ _ _ _
  refine r_iload_n dX1_periodOf_0 rfl ?_
  refine r_istore_n dX1_periodOf_1 (by decide) rfl ?_
  refine r_iconst dX1_periodOf_2 ?_
  refine r_istore_n dX1_periodOf_3 (by decide) rfl ?_
  exact H

theorem vX1_periodOf_4 {d : Nat} {Q : Int → ax_H → Prop} {x1 : Int} {x2 : Int} {x3 : Int} {I : ax_H} (r1 : ax_R x1) (r3 : ax_R x3) (H :
  (1024 < x3 →
    Q (-5) I) ∧
  (¬ 1024 < x3 →
    cI (d + 3) kX1_stepFrom [ax_r 1, ax_i x2] I (fun w3 I2 =>
    ax_R w3 ∧
    ((w3 ≠ (-7) →
      (w3 ≠ x1 →
        RI (d + 4) kX1_periodOf 4 [some (ax_r 1), some (ax_i x1), some (ax_i w3), some (ax_i (x3 + 1))] I2 Q) ∧
      (w3 = x1 →
        Q x3 I2)) ∧
    (w3 = (-7) →
      Q (-7) I2))))) :
  RI (d + 4) kX1_periodOf 4 [some (ax_r 1), some (ax_i x1), some (ax_i x2), some (ax_i x3)] I Q := by
  show Rn _ _ _ _ _ _ _ _
  refine r_iload_n dX1_periodOf_4 rfl ?_
  refine r_sipush (v := 1024) dX1_periodOf_5 (by decide) ?_
  refine r_icmp_gt (tgt := 39) dX1_periodOf_8 (by decide) r3 (by decide) (fun c1 => ?_) (fun c1 => ?_)
  · have H := H.1 c1
    refine r_bipush (v := (-5)) dX1_periodOf_39 (by decide) ?_
    exact r_iret dX1_periodOf_41 rfl ⟨rfl, _, rfl, H⟩
  · have H := H.2 c1
    refine r_aload_n dX1_periodOf_11 rfl ?_
    refine r_iload_n dX1_periodOf_12 rfl ?_
    refine r_cI (as := [ax_r 1, ax_i x2]) (how_V (ci := 1) jX1_stepFrom jIX1_stepFrom jVX1_stepFrom rfl s0_1 (by decide) rfl rfl wX1_78 dX1_periodOf_13) rfl (Nat.le_refl _) (Nat.le_of_ble_eq_true rfl) (fun _ => Nat.le_of_ble_eq_true rfl) H (fun w3 I2 H => ?_)
    refine r_istore_n dX1_periodOf_16 (by decide) rfl ?_
    refine r_iload_n dX1_periodOf_17 rfl ?_
    refine r_bipush (v := (-7)) dX1_periodOf_18 (by decide) ?_
    have ob4 := H.1
    have H := H.2
    refine r_icmp_ne (tgt := 26) dX1_periodOf_20 (by decide) ob4 (by decide) (fun c5 => ?_) (fun c5 => ?_)
    · have H := H.1 c5
      refine r_iload_n dX1_periodOf_26 rfl ?_
      refine r_iload_n dX1_periodOf_27 rfl ?_
      refine r_icmp_ne (tgt := 33) dX1_periodOf_28 (by decide) ob4 r1 (fun c6 => ?_) (fun c6 => ?_)
      · have H := H.1 c6
        refine r_iinc dX1_periodOf_33 (by decide) rfl rfl ?_
        refine r_goto (tgt := 4) dX1_periodOf_36 (by decide) ?_
        exact H
      · have H := H.2 c6
        refine r_iload_n dX1_periodOf_31 rfl ?_
        exact r_iret dX1_periodOf_32 rfl ⟨rfl, _, rfl, H⟩
    · have H := H.2 c5
      refine r_bipush (v := (-7)) dX1_periodOf_23 (by decide) ?_
      exact r_iret dX1_periodOf_25 rfl ⟨rfl, _, rfl, H⟩

theorem vX1_learnKept_0 {d : Nat} {Q : ax_H → Prop} {I : ax_H} (H :
  ((I 1 3) ≠ (I 1 1) →
    RV (d + 2) kX1_learnKept 22 [some (ax_r 1), some (ax_i 0), none, none, none, none, none, none, none, none] (ax_st I 1 3 (I 1 1)) Q) ∧
  ((I 1 3) = (I 1 1) →
    Q I)) :
  RV (d + 2) kX1_learnKept 0 [some (ax_r 1), none, none, none, none, none, none, none, none, none] I Q := by
  show Rn _ _ _ _ _ _ _ _
  refine r_aload_n dX1_learnKept_0 rfl ?_
  refine r_getI clX1 3 3 (by decide) s0_1 rfl rfl wX1_25 dX1_learnKept_1 ?_
  refine r_aload_n dX1_learnKept_4 rfl ?_
  refine r_getI clX1 1 1 (by decide) s0_1 rfl rfl wX1_18 dX1_learnKept_5 ?_
  refine r_heapR (fun hI1 => ?_)
  refine r_icmp_ne (tgt := 12) dX1_learnKept_8 (by decide) (hI1 _ _) (hI1 _ _) (fun c2 => ?_) (fun c2 => ?_)
  · have H := H.1 c2
    refine r_aload_n dX1_learnKept_12 rfl ?_
    refine r_aload_n dX1_learnKept_13 rfl ?_
    refine r_getI clX1 1 1 (by decide) s0_1 rfl rfl wX1_18 dX1_learnKept_14 ?_
    refine r_putI clX1 3 3 (by decide) s0_1 rfl rfl rfl (hI1 _ _) rfl rfl wX1_25 dX1_learnKept_17 ?_
    refine r_iconst dX1_learnKept_20 ?_
    refine r_istore_n dX1_learnKept_21 (by decide) rfl ?_
    exact H
  · have H := H.2 c2
    exact r_vret dX1_learnKept_11 rfl ⟨rfl, rfl, H⟩

theorem vX1_learnKept_22 {d : Nat} {Q : ax_H → Prop} {x1 : Int} {I : ax_H} (r1 : ax_R x1) (H :
  (32 ≤ x1 →
    RV (d + 2) kX1_learnKept 43 [some (ax_r 1), some (ax_i 0), none, none, none, none, none, none, none, none] I Q) ∧
  (¬ 32 ≤ x1 →
    (0 ≤ x1 ∧ x1 < 32) ∧
    (RV (d + 2) kX1_learnKept 22 [some (ax_r 1), some (ax_i (x1 + 1)), none, none, none, none, none, none, none, none] (ax_st I 6 x1 0) Q))) :
  RV (d + 2) kX1_learnKept 22 [some (ax_r 1), some (ax_i x1), none, none, none, none, none, none, none, none] I Q := by
  show Rn _ _ _ _ _ _ _ _
  refine r_iload_n dX1_learnKept_22 rfl ?_
  refine r_bipush (v := 32) dX1_learnKept_23 (by decide) ?_
  refine r_icmp_ge (tgt := 41) dX1_learnKept_25 (by decide) r1 (by decide) (fun c1 => ?_) (fun c1 => ?_)
  · have H := H.1 c1
    refine r_iconst dX1_learnKept_41 ?_
    refine r_istore_n dX1_learnKept_42 (by decide) rfl ?_
    exact H
  · have H := H.2 c1
    refine r_aload_n dX1_learnKept_28 rfl ?_
    refine r_getR clX1 6 (by decide) s0_1 rfl rfl wX1_35 dX1_learnKept_29 ?_
    refine r_iload_n dX1_learnKept_32 rfl ?_
    refine r_iconst dX1_learnKept_33 ?_
    have ob2 := H.1
    have H := H.2
    refine r_iast s0_6 (by decide) dX1_learnKept_34 ob2 (by decide) ?_
    refine r_iinc dX1_learnKept_35 (by decide) rfl rfl ?_
    refine r_goto (tgt := 22) dX1_learnKept_38 (by decide) ?_
    exact H

theorem vX1_learnKept_43 {d : Nat} {Q : ax_H → Prop} {x1 : Int} {I : ax_H} (r1 : ax_R x1) (H :
  (32 ≤ x1 →
    Q I) ∧
  (¬ 32 ≤ x1 →
    cI (d + 1) kX9_sumAt [ax_r 2, ax_i 0, ax_i 0, ax_i 0, ax_i x1] I (fun w3 I2 =>
    cI (d + 1) kX9_sumAt [ax_r 2, ax_i 0, ax_i 0, ax_i 1, ax_i x1] I2 (fun w5 I4 =>
    cI (d + 1) kX9_sumAt [ax_r 2, ax_i 0, ax_i 0, ax_i 2, ax_i x1] I4 (fun w7 I6 =>
    cI (d + 1) kX9_sumAt [ax_r 2, ax_i 0, ax_i 1, ax_i 0, ax_i x1] I6 (fun w9 I8 =>
    cI (d + 1) kX9_sumAt [ax_r 2, ax_i 0, ax_i 1, ax_i 1, ax_i x1] I8 (fun w11 I10 =>
    cI (d + 1) kX9_sumAt [ax_r 2, ax_i 0, ax_i 1, ax_i 2, ax_i x1] I10 (fun w13 I12 =>
    RV (d + 2) kX1_learnKept 128 [some (ax_r 1), some (ax_i x1), some (ax_i w3), some (ax_i w5), some (ax_i w7), some (ax_i w9), some (ax_i w11), some (ax_i w13), some (ax_i 0), none] I12 Q)))))))) :
  RV (d + 2) kX1_learnKept 43 [some (ax_r 1), some (ax_i x1), none, none, none, none, none, none, none, none] I Q := by
  show Rn _ _ _ _ _ _ _ _
  refine r_iload_n dX1_learnKept_43 rfl ?_
  refine r_bipush (v := 32) dX1_learnKept_44 (by decide) ?_
  refine r_icmp_ge (tgt := 209) dX1_learnKept_46 (by decide) r1 (by decide) (fun c1 => ?_) (fun c1 => ?_)
  · have H := H.1 c1
    exact r_vret dX1_learnKept_209 rfl ⟨rfl, rfl, H⟩
  · have H := H.2 c1
    refine r_aload_n dX1_learnKept_49 rfl ?_
    refine r_getR clX1 0 (by decide) s0_1 rfl rfl wX1_12 dX1_learnKept_50 ?_
    refine r_iconst dX1_learnKept_53 ?_
    refine r_iconst dX1_learnKept_54 ?_
    refine r_iconst dX1_learnKept_55 ?_
    refine r_iload_n dX1_learnKept_56 rfl ?_
    refine r_cI (as := [ax_r 2, ax_i 0, ax_i 0, ax_i 0, ax_i x1]) (how_V (ci := 9) jX9_sumAt jIX9_sumAt jVX9_sumAt rfl s0_2 (by decide) rfl rfl wX1_56 dX1_learnKept_57) rfl (Nat.le_refl _) (Nat.le_of_ble_eq_true rfl) (fun _ => Nat.le_of_ble_eq_true rfl) H (fun w3 I2 H => ?_)
    refine r_istore_n dX1_learnKept_60 (by decide) rfl ?_
    refine r_aload_n dX1_learnKept_61 rfl ?_
    refine r_getR clX1 0 (by decide) s0_1 rfl rfl wX1_12 dX1_learnKept_62 ?_
    refine r_iconst dX1_learnKept_65 ?_
    refine r_iconst dX1_learnKept_66 ?_
    refine r_iconst dX1_learnKept_67 ?_
    refine r_iload_n dX1_learnKept_68 rfl ?_
    refine r_cI (as := [ax_r 2, ax_i 0, ax_i 0, ax_i 1, ax_i x1]) (how_V (ci := 9) jX9_sumAt jIX9_sumAt jVX9_sumAt rfl s0_2 (by decide) rfl rfl wX1_56 dX1_learnKept_69) rfl (Nat.le_refl _) (Nat.le_of_ble_eq_true rfl) (fun _ => Nat.le_of_ble_eq_true rfl) H (fun w5 I4 H => ?_)
    refine r_istore_n dX1_learnKept_72 (by decide) rfl ?_
    refine r_aload_n dX1_learnKept_73 rfl ?_
    refine r_getR clX1 0 (by decide) s0_1 rfl rfl wX1_12 dX1_learnKept_74 ?_
    refine r_iconst dX1_learnKept_77 ?_
    refine r_iconst dX1_learnKept_78 ?_
    refine r_iconst dX1_learnKept_79 ?_
    refine r_iload_n dX1_learnKept_80 rfl ?_
    refine r_cI (as := [ax_r 2, ax_i 0, ax_i 0, ax_i 2, ax_i x1]) (how_V (ci := 9) jX9_sumAt jIX9_sumAt jVX9_sumAt rfl s0_2 (by decide) rfl rfl wX1_56 dX1_learnKept_81) rfl (Nat.le_refl _) (Nat.le_of_ble_eq_true rfl) (fun _ => Nat.le_of_ble_eq_true rfl) H (fun w7 I6 H => ?_)
    refine r_istore dX1_learnKept_84 (by decide) rfl ?_
    refine r_aload_n dX1_learnKept_86 rfl ?_
    refine r_getR clX1 0 (by decide) s0_1 rfl rfl wX1_12 dX1_learnKept_87 ?_
    refine r_iconst dX1_learnKept_90 ?_
    refine r_iconst dX1_learnKept_91 ?_
    refine r_iconst dX1_learnKept_92 ?_
    refine r_iload_n dX1_learnKept_93 rfl ?_
    refine r_cI (as := [ax_r 2, ax_i 0, ax_i 1, ax_i 0, ax_i x1]) (how_V (ci := 9) jX9_sumAt jIX9_sumAt jVX9_sumAt rfl s0_2 (by decide) rfl rfl wX1_56 dX1_learnKept_94) rfl (Nat.le_refl _) (Nat.le_of_ble_eq_true rfl) (fun _ => Nat.le_of_ble_eq_true rfl) H (fun w9 I8 H => ?_)
    refine r_istore dX1_learnKept_97 (by decide) rfl ?_
    refine r_aload_n dX1_learnKept_99 rfl ?_
    refine r_getR clX1 0 (by decide) s0_1 rfl rfl wX1_12 dX1_learnKept_100 ?_
    refine r_iconst dX1_learnKept_103 ?_
    refine r_iconst dX1_learnKept_104 ?_
    refine r_iconst dX1_learnKept_105 ?_
    refine r_iload_n dX1_learnKept_106 rfl ?_
    refine r_cI (as := [ax_r 2, ax_i 0, ax_i 1, ax_i 1, ax_i x1]) (how_V (ci := 9) jX9_sumAt jIX9_sumAt jVX9_sumAt rfl s0_2 (by decide) rfl rfl wX1_56 dX1_learnKept_107) rfl (Nat.le_refl _) (Nat.le_of_ble_eq_true rfl) (fun _ => Nat.le_of_ble_eq_true rfl) H (fun w11 I10 H => ?_)
    refine r_istore dX1_learnKept_110 (by decide) rfl ?_
    refine r_aload_n dX1_learnKept_112 rfl ?_
    refine r_getR clX1 0 (by decide) s0_1 rfl rfl wX1_12 dX1_learnKept_113 ?_
    refine r_iconst dX1_learnKept_116 ?_
    refine r_iconst dX1_learnKept_117 ?_
    refine r_iconst dX1_learnKept_118 ?_
    refine r_iload_n dX1_learnKept_119 rfl ?_
    refine r_cI (as := [ax_r 2, ax_i 0, ax_i 1, ax_i 2, ax_i x1]) (how_V (ci := 9) jX9_sumAt jIX9_sumAt jVX9_sumAt rfl s0_2 (by decide) rfl rfl wX1_56 dX1_learnKept_120) rfl (Nat.le_refl _) (Nat.le_of_ble_eq_true rfl) (fun _ => Nat.le_of_ble_eq_true rfl) H (fun w13 I12 H => ?_)
    refine r_istore dX1_learnKept_123 (by decide) rfl ?_
    refine r_iconst dX1_learnKept_125 ?_
    refine r_istore dX1_learnKept_126 (by decide) rfl ?_
    exact H

theorem vX1_learnKept_128 {d : Nat} {Q : ax_H → Prop} {x1 : Int} {x2 : Int} {x3 : Int} {x4 : Int} {x5 : Int} {x6 : Int} {x7 : Int} {x8 : Int} {I : ax_H} (r8 : ax_R x8) (H :
  (32 ≤ x8 →
    RV (d + 2) kX1_learnKept 43 [some (ax_r 1), some (ax_i (x1 + 1)), none, none, none, none, none, none, none, none] I Q) ∧
  (¬ 32 ≤ x8 →
    cI (d + 1) kX10_quadraticAt [ax_i x2, ax_i x3, ax_i x4, ax_i x8] I (fun w3 I2 =>
    cI (d + 1) kX10_quadraticAt [ax_i x5, ax_i x6, ax_i x7, ax_i x8] I2 (fun w5 I4 =>
    cI (d + 1) kX10_quotient [ax_i w3, ax_i w5] I4 (fun w7 I6 =>
    (0 ≤ ((x8 * 32) + x1) ∧ ((x8 * 32) + x1) < 1024) ∧
    (ax_R w7 ∧
    ((w7 < 0 →
      RV (d + 2) kX1_learnKept 128 [some (ax_r 1), some (ax_i x1), some (ax_i x2), some (ax_i x3), some (ax_i x4), some (ax_i x5), some (ax_i x6), some (ax_i x7), some (ax_i (x8 + 1)), none] (ax_st I6 5 ((x8 * 32) + x1) w7) Q) ∧
    (¬ w7 < 0 →
      (32 ≤ w7 →
        RV (d + 2) kX1_learnKept 128 [some (ax_r 1), some (ax_i x1), some (ax_i x2), some (ax_i x3), some (ax_i x4), some (ax_i x5), some (ax_i x6), some (ax_i x7), some (ax_i (x8 + 1)), none] (ax_st I6 5 ((x8 * 32) + x1) w7) Q) ∧
      (¬ 32 ≤ w7 →
        (0 ≤ w7 ∧ w7 < 32) ∧
        (ax_R (((ax_st I6 5 ((x8 * 32) + x1) w7) 6 w7) + 1) ∧
        (RV (d + 2) kX1_learnKept 128 [some (ax_r 1), some (ax_i x1), some (ax_i x2), some (ax_i x3), some (ax_i x4), some (ax_i x5), some (ax_i x6), some (ax_i x7), some (ax_i (x8 + 1)), none] (ax_st (ax_st I6 5 ((x8 * 32) + x1) w7) 6 w7 (((ax_st I6 5 ((x8 * 32) + x1) w7) 6 w7) + 1)) Q))))))))))) :
  RV (d + 2) kX1_learnKept 128 [some (ax_r 1), some (ax_i x1), some (ax_i x2), some (ax_i x3), some (ax_i x4), some (ax_i x5), some (ax_i x6), some (ax_i x7), some (ax_i x8), none] I Q := by
  show Rn _ _ _ _ _ _ _ _
  refine r_iload dX1_learnKept_128 rfl ?_
  refine r_bipush (v := 32) dX1_learnKept_130 (by decide) ?_
  refine r_icmp_ge (tgt := 203) dX1_learnKept_132 (by decide) r8 (by decide) (fun c1 => ?_) (fun c1 => ?_)
  · have H := H.1 c1
    refine r_iinc dX1_learnKept_203 (by decide) rfl rfl ?_
    refine r_goto (tgt := 43) dX1_learnKept_206 (by decide) ?_
    refine r_drop (ls2 := [some (ax_r 1), some (ax_i (x1 + 1)), none, none, none, none, none, none, none, none]) ?_ (ax_leS (ax_leS (ax_leN (ax_leN (ax_leN (ax_leN (ax_leN (ax_leN (ax_leN (ax_leN ax_leE))))))))))
    exact H
  · have H := H.2 c1
    refine r_iload_n dX1_learnKept_135 rfl ?_
    refine r_iload_n dX1_learnKept_136 rfl ?_
    refine r_iload dX1_learnKept_137 rfl ?_
    refine r_iload dX1_learnKept_139 rfl ?_
    refine r_cI (as := [ax_i x2, ax_i x3, ax_i x4, ax_i x8]) (how_SN jX10_quadraticAt jSX10_quadraticAt rfl wX1_84 dX1_learnKept_141) rfl (Nat.le_refl _) (Nat.le_of_ble_eq_true rfl) (fun _ => Nat.le_of_ble_eq_true rfl) H (fun w3 I2 H => ?_)
    refine r_iload dX1_learnKept_144 rfl ?_
    refine r_iload dX1_learnKept_146 rfl ?_
    refine r_iload dX1_learnKept_148 rfl ?_
    refine r_iload dX1_learnKept_150 rfl ?_
    refine r_cI (as := [ax_i x5, ax_i x6, ax_i x7, ax_i x8]) (how_SN jX10_quadraticAt jSX10_quadraticAt rfl wX1_84 dX1_learnKept_152) rfl (Nat.le_refl _) (Nat.le_of_ble_eq_true rfl) (fun _ => Nat.le_of_ble_eq_true rfl) H (fun w5 I4 H => ?_)
    refine r_cI (as := [ax_i w3, ax_i w5]) (how_SN jX10_quotient jSX10_quotient rfl wX1_74 dX1_learnKept_155) rfl (Nat.le_refl _) (Nat.le_of_ble_eq_true rfl) (fun _ => Nat.le_of_ble_eq_true rfl) H (fun w7 I6 H => ?_)
    refine r_istore dX1_learnKept_158 (by decide) rfl ?_
    refine r_aload_n dX1_learnKept_160 rfl ?_
    refine r_getR clX1 5 (by decide) s0_1 rfl rfl wX1_32 dX1_learnKept_161 ?_
    refine r_iload dX1_learnKept_164 rfl ?_
    refine r_bipush (v := 32) dX1_learnKept_166 (by decide) ?_
    refine r_imul dX1_learnKept_168 ?_
    refine r_iload_n dX1_learnKept_169 rfl ?_
    refine r_iadd dX1_learnKept_170 ?_
    refine r_iload dX1_learnKept_171 rfl ?_
    have ob8 := H.1
    have H := H.2
    have ob9 := H.1
    have H := H.2
    refine r_iast s0_5 (by decide) dX1_learnKept_173 ob8 ob9 ?_
    refine r_iload dX1_learnKept_174 rfl ?_
    refine r_if_lt (tgt := 197) dX1_learnKept_176 (by decide) ob9 (fun c10 => ?_) (fun c10 => ?_)
    · have H := H.1 c10
      refine r_iinc dX1_learnKept_197 (by decide) rfl rfl ?_
      refine r_goto (tgt := 128) dX1_learnKept_200 (by decide) ?_
      refine r_drop (ls2 := [some (ax_r 1), some (ax_i x1), some (ax_i x2), some (ax_i x3), some (ax_i x4), some (ax_i x5), some (ax_i x6), some (ax_i x7), some (ax_i (x8 + 1)), none]) ?_ (ax_leS (ax_leS (ax_leS (ax_leS (ax_leS (ax_leS (ax_leS (ax_leS (ax_leS (ax_leN ax_leE))))))))))
      exact H
    · have H := H.2 c10
      refine r_iload dX1_learnKept_179 rfl ?_
      refine r_bipush (v := 32) dX1_learnKept_181 (by decide) ?_
      refine r_icmp_ge (tgt := 197) dX1_learnKept_183 (by decide) ob9 (by decide) (fun c11 => ?_) (fun c11 => ?_)
      · have H := H.1 c11
        refine r_iinc dX1_learnKept_197 (by decide) rfl rfl ?_
        refine r_goto (tgt := 128) dX1_learnKept_200 (by decide) ?_
        refine r_drop (ls2 := [some (ax_r 1), some (ax_i x1), some (ax_i x2), some (ax_i x3), some (ax_i x4), some (ax_i x5), some (ax_i x6), some (ax_i x7), some (ax_i (x8 + 1)), none]) ?_ (ax_leS (ax_leS (ax_leS (ax_leS (ax_leS (ax_leS (ax_leS (ax_leS (ax_leS (ax_leN ax_leE))))))))))
        exact H
      · have H := H.2 c11
        refine r_aload_n dX1_learnKept_186 rfl ?_
        refine r_getR clX1 6 (by decide) s0_1 rfl rfl wX1_35 dX1_learnKept_187 ?_
        refine r_iload dX1_learnKept_190 rfl ?_
        refine r_dup2 dX1_learnKept_192 (fun _ => rfl) (fun _ => rfl) ?_
        have ob12 := H.1
        have H := H.2
        refine r_iald s0_6 (by decide) dX1_learnKept_193 ob12 ?_
        refine r_iconst dX1_learnKept_194 ?_
        refine r_iadd dX1_learnKept_195 ?_
        have ob13 := H.1
        have H := H.2
        refine r_iast s0_6 (by decide) dX1_learnKept_196 ob12 ob13 ?_
        refine r_iinc dX1_learnKept_197 (by decide) rfl rfl ?_
        refine r_goto (tgt := 128) dX1_learnKept_200 (by decide) ?_
        refine r_drop (ls2 := [some (ax_r 1), some (ax_i x1), some (ax_i x2), some (ax_i x3), some (ax_i x4), some (ax_i x5), some (ax_i x6), some (ax_i x7), some (ax_i (x8 + 1)), none]) ?_ (ax_leS (ax_leS (ax_leS (ax_leS (ax_leS (ax_leS (ax_leS (ax_leS (ax_leS (ax_leN ax_leE))))))))))
        exact H

theorem vX1_keeps_0 {d : Nat} {Q : Int → ax_H → Prop} {x1 : Int} {x2 : Int} {I : ax_H} (r1 : ax_R x1) (r2 : ax_R x2) (H :
  cV (d + 2) kX1_learnKept [ax_r 1] I (fun I1 =>
  (x1 < 0 →
    Q 0 I1) ∧
  (¬ x1 < 0 →
    (1024 ≤ x1 →
      Q 0 I1) ∧
    (¬ 1024 ≤ x1 →
      (0 ≤ x1 ∧ x1 < 1024) ∧
      (((I1 5 x1) ≠ x2 →
        Q 0 I1) ∧
      ((I1 5 x1) = x2 →
        Q 1 I1)))))) :
  RI (d + 3) kX1_keeps 0 [some (ax_r 1), some (ax_i x1), some (ax_i x2)] I Q := by
  show Rn _ _ _ _ _ _ _ _
  refine r_aload_n dX1_keeps_0 rfl ?_
  refine r_cV (as := [ax_r 1]) (how_V (ci := 1) jX1_learnKept jIX1_learnKept jVX1_learnKept rfl s0_1 (by decide) rfl rfl wX1_87 dX1_keeps_1) rfl (Nat.le_refl _) (Nat.le_of_ble_eq_true rfl) (fun _ => Nat.le_of_ble_eq_true rfl) H (fun I1 H => ?_)
  refine r_iload_n dX1_keeps_4 rfl ?_
  refine r_if_lt (tgt := 29) dX1_keeps_5 (by decide) r1 (fun c2 => ?_) (fun c2 => ?_)
  · have H := H.1 c2
    refine r_iconst dX1_keeps_29 ?_
    exact r_zret dX1_keeps_30 rfl (by decide) ⟨rfl, _, rfl, H⟩
  · have H := H.2 c2
    refine r_iload_n dX1_keeps_8 rfl ?_
    refine r_sipush (v := 1024) dX1_keeps_9 (by decide) ?_
    refine r_icmp_ge (tgt := 29) dX1_keeps_12 (by decide) r1 (by decide) (fun c3 => ?_) (fun c3 => ?_)
    · have H := H.1 c3
      refine r_iconst dX1_keeps_29 ?_
      exact r_zret dX1_keeps_30 rfl (by decide) ⟨rfl, _, rfl, H⟩
    · have H := H.2 c3
      refine r_aload_n dX1_keeps_15 rfl ?_
      refine r_getR clX1 5 (by decide) s0_1 rfl rfl wX1_32 dX1_keeps_16 ?_
      refine r_iload_n dX1_keeps_19 rfl ?_
      have ob4 := H.1
      have H := H.2
      refine r_iald s0_5 (by decide) dX1_keeps_20 ob4 ?_
      refine r_iload_n dX1_keeps_21 rfl ?_
      refine r_heapR (fun hI5 => ?_)
      refine r_icmp_ne (tgt := 29) dX1_keeps_22 (by decide) (hI5 _ _) r2 (fun c6 => ?_) (fun c6 => ?_)
      · have H := H.1 c6
        refine r_iconst dX1_keeps_29 ?_
        exact r_zret dX1_keeps_30 rfl (by decide) ⟨rfl, _, rfl, H⟩
      · have H := H.2 c6
        refine r_iconst dX1_keeps_25 ?_
        refine r_goto (tgt := 30) dX1_keeps_26 (by decide) ?_
        exact r_zret dX1_keeps_30 rfl (by decide) ⟨rfl, _, rfl, H⟩

theorem vX1_spotWhereKept_0 {d : Nat} {Q : Int → ax_H → Prop} {x1 : Int} {x2 : Int} {I : ax_H} (H :
  cV (d + 2) kX1_learnKept [ax_r 1] I (fun I1 =>
  RI (d + 3) kX1_spotWhereKept 9 [some (ax_r 1), some (ax_i x1), some (ax_i x2), some (ax_i 0), some (ax_i 0)] I1 Q)) :
  RI (d + 3) kX1_spotWhereKept 0 [some (ax_r 1), some (ax_i x1), some (ax_i x2), none, none] I Q := by
  show Rn _ _ _ _ _ _ _ _
  refine r_aload_n dX1_spotWhereKept_0 rfl ?_
  refine r_cV (as := [ax_r 1]) (how_V (ci := 1) jX1_learnKept jIX1_learnKept jVX1_learnKept rfl s0_1 (by decide) rfl rfl wX1_87 dX1_spotWhereKept_1) rfl (Nat.le_refl _) (Nat.le_of_ble_eq_true rfl) (fun _ => Nat.le_of_ble_eq_true rfl) H (fun I1 H => ?_)
  refine r_iconst dX1_spotWhereKept_4 ?_
  refine r_istore_n dX1_spotWhereKept_5 (by decide) rfl ?_
  refine r_iconst dX1_spotWhereKept_6 ?_
  refine r_istore dX1_spotWhereKept_7 (by decide) rfl ?_
  exact H

theorem vX1_spotWhereKept_9 {d : Nat} {Q : Int → ax_H → Prop} {x1 : Int} {x2 : Int} {x3 : Int} {x4 : Int} {I : ax_H} (r1 : ax_R x1) (r2 : ax_R x2) (r3 : ax_R x3) (r4 : ax_R x4) (H :
  (1024 ≤ x4 →
    (x2 ≠ (-1) →
      Q (-5) I) ∧
    (x2 = (-1) →
      Q x3 I)) ∧
  (¬ 1024 ≤ x4 →
    (0 ≤ x4 ∧ x4 < 1024) ∧
    (((I 5 x4) ≠ x1 →
      RI (d + 3) kX1_spotWhereKept 9 [some (ax_r 1), some (ax_i x1), some (ax_i x2), some (ax_i x3), some (ax_i (x4 + 1))] I Q) ∧
    ((I 5 x4) = x1 →
      (x3 ≠ x2 →
        RI (d + 3) kX1_spotWhereKept 9 [some (ax_r 1), some (ax_i x1), some (ax_i x2), some (ax_i (x3 + 1)), some (ax_i (x4 + 1))] I Q) ∧
      (x3 = x2 →
        Q x4 I))))) :
  RI (d + 3) kX1_spotWhereKept 9 [some (ax_r 1), some (ax_i x1), some (ax_i x2), some (ax_i x3), some (ax_i x4)] I Q := by
  show Rn _ _ _ _ _ _ _ _
  refine r_iload dX1_spotWhereKept_9 rfl ?_
  refine r_sipush (v := 1024) dX1_spotWhereKept_11 (by decide) ?_
  refine r_icmp_ge (tgt := 45) dX1_spotWhereKept_14 (by decide) r4 (by decide) (fun c1 => ?_) (fun c1 => ?_)
  · have H := H.1 c1
    refine r_iload_n dX1_spotWhereKept_45 rfl ?_
    refine r_iconst dX1_spotWhereKept_46 ?_
    refine r_icmp_ne (tgt := 54) dX1_spotWhereKept_47 (by decide) r2 (by decide) (fun c2 => ?_) (fun c2 => ?_)
    · have H := H.1 c2
      refine r_bipush (v := (-5)) dX1_spotWhereKept_54 (by decide) ?_
      exact r_iret dX1_spotWhereKept_56 rfl ⟨rfl, _, rfl, H⟩
    · have H := H.2 c2
      refine r_iload_n dX1_spotWhereKept_50 rfl ?_
      refine r_goto (tgt := 56) dX1_spotWhereKept_51 (by decide) ?_
      exact r_iret dX1_spotWhereKept_56 rfl ⟨rfl, _, rfl, H⟩
  · have H := H.2 c1
    refine r_aload_n dX1_spotWhereKept_17 rfl ?_
    refine r_getR clX1 5 (by decide) s0_1 rfl rfl wX1_32 dX1_spotWhereKept_18 ?_
    refine r_iload dX1_spotWhereKept_21 rfl ?_
    have ob3 := H.1
    have H := H.2
    refine r_iald s0_5 (by decide) dX1_spotWhereKept_23 ob3 ?_
    refine r_iload_n dX1_spotWhereKept_24 rfl ?_
    refine r_heapR (fun hI4 => ?_)
    refine r_icmp_ne (tgt := 39) dX1_spotWhereKept_25 (by decide) (hI4 _ _) r1 (fun c5 => ?_) (fun c5 => ?_)
    · have H := H.1 c5
      refine r_iinc dX1_spotWhereKept_39 (by decide) rfl rfl ?_
      refine r_goto (tgt := 9) dX1_spotWhereKept_42 (by decide) ?_
      exact H
    · have H := H.2 c5
      refine r_iload_n dX1_spotWhereKept_28 rfl ?_
      refine r_iload_n dX1_spotWhereKept_29 rfl ?_
      refine r_icmp_ne (tgt := 36) dX1_spotWhereKept_30 (by decide) r3 r2 (fun c6 => ?_) (fun c6 => ?_)
      · have H := H.1 c6
        refine r_iinc dX1_spotWhereKept_36 (by decide) rfl rfl ?_
        refine r_iinc dX1_spotWhereKept_39 (by decide) rfl rfl ?_
        refine r_goto (tgt := 9) dX1_spotWhereKept_42 (by decide) ?_
        exact H
      · have H := H.2 c6
        refine r_iload dX1_spotWhereKept_33 rfl ?_
        exact r_iret dX1_spotWhereKept_35 rfl ⟨rfl, _, rfl, H⟩

theorem vX1_ranked_0 {d : Nat} {Q : Int → ax_H → Prop} {x1 : Int} {I : ax_H} (H :
  cV (d + 2) kX1_learnKept [ax_r 1] I (fun I1 =>
  RI (d + 3) kX1_ranked 6 [some (ax_r 1), some (ax_i x1), some (ax_i 0), none, none, none, none] I1 Q)) :
  RI (d + 3) kX1_ranked 0 [some (ax_r 1), some (ax_i x1), none, none, none, none, none] I Q := by
  show Rn _ _ _ _ _ _ _ _
  refine r_aload_n dX1_ranked_0 rfl ?_
  refine r_cV (as := [ax_r 1]) (how_V (ci := 1) jX1_learnKept jIX1_learnKept jVX1_learnKept rfl s0_1 (by decide) rfl rfl wX1_87 dX1_ranked_1) rfl (Nat.le_refl _) (Nat.le_of_ble_eq_true rfl) (fun _ => Nat.le_of_ble_eq_true rfl) H (fun I1 H => ?_)
  refine r_iconst dX1_ranked_4 ?_
  refine r_istore_n dX1_ranked_5 (by decide) rfl ?_
  exact H

theorem vX1_ranked_6 {d : Nat} {Q : Int → ax_H → Prop} {x1 : Int} {x2 : Int} {I : ax_H} (r2 : ax_R x2) (H :
  (32 ≤ x2 →
    Q (-1) I) ∧
  (¬ 32 ≤ x2 →
    RI (d + 3) kX1_ranked 17 [some (ax_r 1), some (ax_i x1), some (ax_i x2), some (ax_i 0), some (ax_i 0), none, none] I Q)) :
  RI (d + 3) kX1_ranked 6 [some (ax_r 1), some (ax_i x1), some (ax_i x2), none, none, none, none] I Q := by
  show Rn _ _ _ _ _ _ _ _
  refine r_iload_n dX1_ranked_6 rfl ?_
  refine r_bipush (v := 32) dX1_ranked_7 (by decide) ?_
  refine r_icmp_ge (tgt := 113) dX1_ranked_9 (by decide) r2 (by decide) (fun c1 => ?_) (fun c1 => ?_)
  · have H := H.1 c1
    refine r_iconst dX1_ranked_113 ?_
    exact r_iret dX1_ranked_114 rfl ⟨rfl, _, rfl, H⟩
  · have H := H.2 c1
    refine r_iconst dX1_ranked_12 ?_
    refine r_istore_n dX1_ranked_13 (by decide) rfl ?_
    refine r_iconst dX1_ranked_14 ?_
    refine r_istore dX1_ranked_15 (by decide) rfl ?_
    exact H

theorem vX1_ranked_17 {d : Nat} {Q : Int → ax_H → Prop} {x1 : Int} {x2 : Int} {x3 : Int} {x4 : Int} {I : ax_H} (r1 : ax_R x1) (r2 : ax_R x2) (r3 : ax_R x3) (r4 : ax_R x4) (H :
  (32 ≤ x4 →
    (x3 ≠ x1 →
      RI (d + 3) kX1_ranked 6 [some (ax_r 1), some (ax_i x1), some (ax_i (x2 + 1)), none, none, none, none] I Q) ∧
    (x3 = x1 →
      Q x2 I)) ∧
  (¬ 32 ≤ x4 →
    (0 ≤ x4 ∧ x4 < 32) ∧
    ((0 ≤ x2 ∧ x2 < 32) ∧
    (((I 6 x4) ≤ (I 6 x2) →
      ((I 6 x4) ≠ (I 6 x2) →
        ∀ y3_93, y3_93 = (x3 + 0) →
        (RI (d + 3) kX1_ranked 17 [some (ax_r 1), some (ax_i x1), some (ax_i x2), some (ax_i y3_93), some (ax_i (x4 + 1)), none, none] I Q)) ∧
      ((I 6 x4) = (I 6 x2) →
        (x2 ≤ x4 →
          ∀ y3_93, y3_93 = (x3 + 0) →
          (RI (d + 3) kX1_ranked 17 [some (ax_r 1), some (ax_i x1), some (ax_i x2), some (ax_i y3_93), some (ax_i (x4 + 1)), none, none] I Q)) ∧
        (¬ x2 ≤ x4 →
          ∀ y3_93, y3_93 = (x3 + 1) →
          (RI (d + 3) kX1_ranked 17 [some (ax_r 1), some (ax_i x1), some (ax_i x2), some (ax_i y3_93), some (ax_i (x4 + 1)), none, none] I Q)))) ∧
    (¬ (I 6 x4) ≤ (I 6 x2) →
      ((I 6 x4) ≠ (I 6 x2) →
        ∀ y3_93, y3_93 = (x3 + 1) →
        (RI (d + 3) kX1_ranked 17 [some (ax_r 1), some (ax_i x1), some (ax_i x2), some (ax_i y3_93), some (ax_i (x4 + 1)), none, none] I Q)) ∧
      ((I 6 x4) = (I 6 x2) →
        ∀ y3_93, y3_93 = (x3 + 1) →
        (RI (d + 3) kX1_ranked 17 [some (ax_r 1), some (ax_i x1), some (ax_i x2), some (ax_i y3_93), some (ax_i (x4 + 1)), none, none] I Q))))))) :
  RI (d + 3) kX1_ranked 17 [some (ax_r 1), some (ax_i x1), some (ax_i x2), some (ax_i x3), some (ax_i x4), none, none] I Q := by
  show Rn _ _ _ _ _ _ _ _
  refine r_iload dX1_ranked_17 rfl ?_
  refine r_bipush (v := 32) dX1_ranked_19 (by decide) ?_
  refine r_icmp_ge (tgt := 100) dX1_ranked_21 (by decide) r4 (by decide) (fun c1 => ?_) (fun c1 => ?_)
  · have H := H.1 c1
    refine r_iload_n dX1_ranked_100 rfl ?_
    refine r_iload_n dX1_ranked_101 rfl ?_
    refine r_icmp_ne (tgt := 107) dX1_ranked_102 (by decide) r3 r1 (fun c2 => ?_) (fun c2 => ?_)
    · have H := H.1 c2
      refine r_iinc dX1_ranked_107 (by decide) rfl rfl ?_
      refine r_goto (tgt := 6) dX1_ranked_110 (by decide) ?_
      refine r_drop (ls2 := [some (ax_r 1), some (ax_i x1), some (ax_i (x2 + 1)), none, none, none, none]) ?_ (ax_leS (ax_leS (ax_leS (ax_leN (ax_leN (ax_leN (ax_leN ax_leE)))))))
      exact H
    · have H := H.2 c2
      refine r_iload_n dX1_ranked_105 rfl ?_
      exact r_iret dX1_ranked_106 rfl ⟨rfl, _, rfl, H⟩
  · have H := H.2 c1
    refine r_aload_n dX1_ranked_24 rfl ?_
    refine r_getR clX1 6 (by decide) s0_1 rfl rfl wX1_35 dX1_ranked_25 ?_
    refine r_iload dX1_ranked_28 rfl ?_
    have ob3 := H.1
    have H := H.2
    refine r_iald s0_6 (by decide) dX1_ranked_30 ob3 ?_
    refine r_aload_n dX1_ranked_31 rfl ?_
    refine r_getR clX1 6 (by decide) s0_1 rfl rfl wX1_35 dX1_ranked_32 ?_
    refine r_iload_n dX1_ranked_35 rfl ?_
    have ob4 := H.1
    have H := H.2
    refine r_iald s0_6 (by decide) dX1_ranked_36 ob4 ?_
    refine r_heapR (fun hI5 => ?_)
    refine r_icmp_le (tgt := 44) dX1_ranked_37 (by decide) (hI5 _ _) (hI5 _ _) (fun c6 => ?_) (fun c6 => ?_)
    · have H := H.1 c6
      refine r_iconst dX1_ranked_44 ?_
      refine r_istore dX1_ranked_45 (by decide) rfl ?_
      refine r_aload_n dX1_ranked_47 rfl ?_
      refine r_getR clX1 6 (by decide) s0_1 rfl rfl wX1_35 dX1_ranked_48 ?_
      refine r_iload dX1_ranked_51 rfl ?_
      refine r_iald s0_6 (by decide) dX1_ranked_53 ob3 ?_
      refine r_aload_n dX1_ranked_54 rfl ?_
      refine r_getR clX1 6 (by decide) s0_1 rfl rfl wX1_35 dX1_ranked_55 ?_
      refine r_iload_n dX1_ranked_58 rfl ?_
      refine r_iald s0_6 (by decide) dX1_ranked_59 ob4 ?_
      refine r_icmp_ne (tgt := 67) dX1_ranked_60 (by decide) (hI5 _ _) (hI5 _ _) (fun c7 => ?_) (fun c7 => ?_)
      · have H := H.1 c7
        refine r_iconst dX1_ranked_67 ?_
        refine r_istore dX1_ranked_68 (by decide) rfl ?_
        refine r_iload_n dX1_ranked_70 rfl ?_
        refine r_iload dX1_ranked_71 rfl ?_
        refine r_if_ne (tgt := 87) dX1_ranked_73 (by decide) (by decide) (fun c8 => absurd c8 (by decide)) (fun c8 => ?_)
        refine r_iload dX1_ranked_76 rfl ?_
        refine r_if_eq (tgt := 91) dX1_ranked_78 (by decide) (by decide) (fun c9 => ?_) (fun c9 => absurd c9 (by decide))
        refine r_iconst dX1_ranked_91 ?_
        refine r_iadd dX1_ranked_92 ?_
        refine r_name (fun y3_93 e10 => ?_)
        have H := H y3_93 e10
        refine r_istore_n dX1_ranked_93 (by decide) rfl ?_
        refine r_iinc dX1_ranked_94 (by decide) rfl rfl ?_
        refine r_goto (tgt := 17) dX1_ranked_97 (by decide) ?_
        refine r_drop (ls2 := [some (ax_r 1), some (ax_i x1), some (ax_i x2), some (ax_i y3_93), some (ax_i (x4 + 1)), none, none]) ?_ (ax_leS (ax_leS (ax_leS (ax_leS (ax_leS (ax_leN (ax_leN ax_leE)))))))
        exact H
      · have H := H.2 c7
        refine r_iconst dX1_ranked_63 ?_
        refine r_goto (tgt := 68) dX1_ranked_64 (by decide) ?_
        refine r_istore dX1_ranked_68 (by decide) rfl ?_
        refine r_iload_n dX1_ranked_70 rfl ?_
        refine r_iload dX1_ranked_71 rfl ?_
        refine r_if_ne (tgt := 87) dX1_ranked_73 (by decide) (by decide) (fun c11 => absurd c11 (by decide)) (fun c11 => ?_)
        refine r_iload dX1_ranked_76 rfl ?_
        refine r_if_eq (tgt := 91) dX1_ranked_78 (by decide) (by decide) (fun c12 => absurd c12 (by decide)) (fun c12 => ?_)
        refine r_iload dX1_ranked_81 rfl ?_
        refine r_iload_n dX1_ranked_83 rfl ?_
        refine r_icmp_ge (tgt := 91) dX1_ranked_84 (by decide) r4 r2 (fun c13 => ?_) (fun c13 => ?_)
        · have H := H.1 c13
          refine r_iconst dX1_ranked_91 ?_
          refine r_iadd dX1_ranked_92 ?_
          refine r_name (fun y3_93 e14 => ?_)
          have H := H y3_93 e14
          refine r_istore_n dX1_ranked_93 (by decide) rfl ?_
          refine r_iinc dX1_ranked_94 (by decide) rfl rfl ?_
          refine r_goto (tgt := 17) dX1_ranked_97 (by decide) ?_
          refine r_drop (ls2 := [some (ax_r 1), some (ax_i x1), some (ax_i x2), some (ax_i y3_93), some (ax_i (x4 + 1)), none, none]) ?_ (ax_leS (ax_leS (ax_leS (ax_leS (ax_leS (ax_leN (ax_leN ax_leE)))))))
          exact H
        · have H := H.2 c13
          refine r_iconst dX1_ranked_87 ?_
          refine r_goto (tgt := 92) dX1_ranked_88 (by decide) ?_
          refine r_iadd dX1_ranked_92 ?_
          refine r_name (fun y3_93 e15 => ?_)
          have H := H y3_93 e15
          refine r_istore_n dX1_ranked_93 (by decide) rfl ?_
          refine r_iinc dX1_ranked_94 (by decide) rfl rfl ?_
          refine r_goto (tgt := 17) dX1_ranked_97 (by decide) ?_
          refine r_drop (ls2 := [some (ax_r 1), some (ax_i x1), some (ax_i x2), some (ax_i y3_93), some (ax_i (x4 + 1)), none, none]) ?_ (ax_leS (ax_leS (ax_leS (ax_leS (ax_leS (ax_leN (ax_leN ax_leE)))))))
          exact H
    · have H := H.2 c6
      refine r_iconst dX1_ranked_40 ?_
      refine r_goto (tgt := 45) dX1_ranked_41 (by decide) ?_
      refine r_istore dX1_ranked_45 (by decide) rfl ?_
      refine r_aload_n dX1_ranked_47 rfl ?_
      refine r_getR clX1 6 (by decide) s0_1 rfl rfl wX1_35 dX1_ranked_48 ?_
      refine r_iload dX1_ranked_51 rfl ?_
      refine r_iald s0_6 (by decide) dX1_ranked_53 ob3 ?_
      refine r_aload_n dX1_ranked_54 rfl ?_
      refine r_getR clX1 6 (by decide) s0_1 rfl rfl wX1_35 dX1_ranked_55 ?_
      refine r_iload_n dX1_ranked_58 rfl ?_
      refine r_iald s0_6 (by decide) dX1_ranked_59 ob4 ?_
      refine r_icmp_ne (tgt := 67) dX1_ranked_60 (by decide) (hI5 _ _) (hI5 _ _) (fun c16 => ?_) (fun c16 => ?_)
      · have H := H.1 c16
        refine r_iconst dX1_ranked_67 ?_
        refine r_istore dX1_ranked_68 (by decide) rfl ?_
        refine r_iload_n dX1_ranked_70 rfl ?_
        refine r_iload dX1_ranked_71 rfl ?_
        refine r_if_ne (tgt := 87) dX1_ranked_73 (by decide) (by decide) (fun c17 => ?_) (fun c17 => absurd c17 (by decide))
        refine r_iconst dX1_ranked_87 ?_
        refine r_goto (tgt := 92) dX1_ranked_88 (by decide) ?_
        refine r_iadd dX1_ranked_92 ?_
        refine r_name (fun y3_93 e18 => ?_)
        have H := H y3_93 e18
        refine r_istore_n dX1_ranked_93 (by decide) rfl ?_
        refine r_iinc dX1_ranked_94 (by decide) rfl rfl ?_
        refine r_goto (tgt := 17) dX1_ranked_97 (by decide) ?_
        refine r_drop (ls2 := [some (ax_r 1), some (ax_i x1), some (ax_i x2), some (ax_i y3_93), some (ax_i (x4 + 1)), none, none]) ?_ (ax_leS (ax_leS (ax_leS (ax_leS (ax_leS (ax_leN (ax_leN ax_leE)))))))
        exact H
      · have H := H.2 c16
        refine r_iconst dX1_ranked_63 ?_
        refine r_goto (tgt := 68) dX1_ranked_64 (by decide) ?_
        refine r_istore dX1_ranked_68 (by decide) rfl ?_
        refine r_iload_n dX1_ranked_70 rfl ?_
        refine r_iload dX1_ranked_71 rfl ?_
        refine r_if_ne (tgt := 87) dX1_ranked_73 (by decide) (by decide) (fun c19 => ?_) (fun c19 => absurd c19 (by decide))
        refine r_iconst dX1_ranked_87 ?_
        refine r_goto (tgt := 92) dX1_ranked_88 (by decide) ?_
        refine r_iadd dX1_ranked_92 ?_
        refine r_name (fun y3_93 e20 => ?_)
        have H := H y3_93 e20
        refine r_istore_n dX1_ranked_93 (by decide) rfl ?_
        refine r_iinc dX1_ranked_94 (by decide) rfl rfl ?_
        refine r_goto (tgt := 17) dX1_ranked_97 (by decide) ?_
        refine r_drop (ls2 := [some (ax_r 1), some (ax_i x1), some (ax_i x2), some (ax_i y3_93), some (ax_i (x4 + 1)), none, none]) ?_ (ax_leS (ax_leS (ax_leS (ax_leS (ax_leS (ax_leN (ax_leN ax_leE)))))))
        exact H

theorem vX1_reachOf_0 {d : Nat} {Q : Int → ax_H → Prop} {a1 : Nat} {x2 : Int} {I : ax_H} (h1 : isSp a1) (H :
  RI (d + 4) kX1_reachOf 2 [some (ax_r 1), some (ax_r a1), some (ax_i x2), some (ax_i 0), none, none, none] I Q) :
  RI (d + 4) kX1_reachOf 0 [some (ax_r 1), some (ax_r a1), some (ax_i x2), none, none, none, none] I Q := by
  show Rn _ _ _ _ _ _ _ _
  refine r_iconst dX1_reachOf_0 ?_
  refine r_istore_n dX1_reachOf_1 (by decide) rfl ?_
  exact H

theorem vX1_reachOf_2 {d : Nat} {Q : Int → ax_H → Prop} {a1 : Nat} {x2 : Int} {x3 : Int} {I : ax_H} (h1 : isSp a1) (r3 : ax_R x3) (H :
  (1024 ≤ x3 →
    RI (d + 4) kX1_reachOf 27 [some (ax_r 1), some (ax_r a1), some (ax_i x2), some (ax_i 0), some (ax_i 0), none, none] I Q) ∧
  (¬ 1024 ≤ x3 →
    (0 ≤ x3 ∧ x3 < 1024) ∧
    (RI (d + 4) kX1_reachOf 2 [some (ax_r 1), some (ax_r a1), some (ax_i x2), some (ax_i (x3 + 1)), none, none, none] (ax_st I 8 x3 0) Q))) :
  RI (d + 4) kX1_reachOf 2 [some (ax_r 1), some (ax_r a1), some (ax_i x2), some (ax_i x3), none, none, none] I Q := by
  show Rn _ _ _ _ _ _ _ _
  refine r_iload_n dX1_reachOf_2 rfl ?_
  refine r_sipush (v := 1024) dX1_reachOf_3 (by decide) ?_
  refine r_icmp_ge (tgt := 22) dX1_reachOf_6 (by decide) r3 (by decide) (fun c1 => ?_) (fun c1 => ?_)
  · have H := H.1 c1
    refine r_iconst dX1_reachOf_22 ?_
    refine r_istore_n dX1_reachOf_23 (by decide) rfl ?_
    refine r_iconst dX1_reachOf_24 ?_
    refine r_istore dX1_reachOf_25 (by decide) rfl ?_
    exact H
  · have H := H.2 c1
    refine r_aload_n dX1_reachOf_9 rfl ?_
    refine r_getR clX1 8 (by decide) s0_1 rfl rfl wX1_41 dX1_reachOf_10 ?_
    refine r_iload_n dX1_reachOf_13 rfl ?_
    refine r_iconst dX1_reachOf_14 ?_
    have ob2 := H.1
    have H := H.2
    refine r_zast s0_8 (by decide) dX1_reachOf_15 ob2 (by decide) ?_
    refine r_iinc dX1_reachOf_16 (by decide) rfl rfl ?_
    refine r_goto (tgt := 2) dX1_reachOf_19 (by decide) ?_
    exact H

theorem vX1_reachOf_27 {d : Nat} {Q : Int → ax_H → Prop} {a1 : Nat} {x2 : Int} {x3 : Int} {x4 : Int} {I : ax_H} (h1 : isSp a1) (r4 : ax_R x4) (H :
  ((I a1 1) ≤ x4 →
    RI (d + 4) kX1_reachOf 60 [some (ax_r 1), none, some (ax_i x2), some (ax_i x3), some (ax_i 0), some (ax_i 0), none] I Q) ∧
  (¬ (I a1 1) ≤ x4 →
    cI (d + 3) kX8_spotAt [ax_r a1, ax_i x4] I (fun w4 I3 =>
    cI (d + 3) kX1_reach [ax_r 1, ax_i w4, ax_i x3] I3 (fun w6 I5 =>
    RI (d + 4) kX1_reachOf 27 [some (ax_r 1), some (ax_r a1), some (ax_i x2), some (ax_i w6), some (ax_i (x4 + 1)), none, none] I5 Q)))) :
  RI (d + 4) kX1_reachOf 27 [some (ax_r 1), some (ax_r a1), some (ax_i x2), some (ax_i x3), some (ax_i x4), none, none] I Q := by
  show Rn _ _ _ _ _ _ _ _
  refine r_iload dX1_reachOf_27 rfl ?_
  refine r_aload_n dX1_reachOf_29 rfl ?_
  refine r_getI clX8 1 1 (by decide) h1.1 rfl rfl wX1_90 dX1_reachOf_30 ?_
  refine r_heapR (fun hI1 => ?_)
  refine r_icmp_ge (tgt := 54) dX1_reachOf_33 (by decide) r4 (hI1 _ _) (fun c2 => ?_) (fun c2 => ?_)
  · have H := H.1 c2
    refine r_iconst dX1_reachOf_54 ?_
    refine r_istore dX1_reachOf_55 (by decide) rfl ?_
    refine r_iconst dX1_reachOf_57 ?_
    refine r_istore dX1_reachOf_58 (by decide) rfl ?_
    refine r_drop (ls2 := [some (ax_r 1), none, some (ax_i x2), some (ax_i x3), some (ax_i 0), some (ax_i 0), none]) ?_ (ax_leS (ax_leN (ax_leS (ax_leS (ax_leS (ax_leS (ax_leN ax_leE)))))))
    exact H
  · have H := H.2 c2
    refine r_aload_n dX1_reachOf_36 rfl ?_
    refine r_aload_n dX1_reachOf_37 rfl ?_
    refine r_iload dX1_reachOf_38 rfl ?_
    refine r_cI (as := [ax_r a1, ax_i x4]) (how_V (ci := 8) jX8_spotAt jIX8_spotAt jVX8_spotAt rfl h1.1 (by decide) rfl rfl wX1_95 dX1_reachOf_40) rfl (Nat.le_refl _) (Nat.le_of_ble_eq_true rfl) (fun _ => Nat.le_of_ble_eq_true rfl) H (fun w4 I3 H => ?_)
    refine r_iload_n dX1_reachOf_43 rfl ?_
    refine r_cI (as := [ax_r 1, ax_i w4, ax_i x3]) (how_V (ci := 1) jX1_reach jIX1_reach jVX1_reach rfl s0_1 (by decide) rfl rfl wX1_98 dX1_reachOf_44) rfl (Nat.le_refl _) (Nat.le_of_ble_eq_true rfl) (fun _ => Nat.le_of_ble_eq_true rfl) H (fun w6 I5 H => ?_)
    refine r_istore_n dX1_reachOf_47 (by decide) rfl ?_
    refine r_iinc dX1_reachOf_48 (by decide) rfl rfl ?_
    refine r_goto (tgt := 27) dX1_reachOf_51 (by decide) ?_
    exact H

theorem vX1_reachOf_60 {d : Nat} {Q : Int → ax_H → Prop} {x2 : Int} {x3 : Int} {x4 : Int} {x5 : Int} {I : ax_H} (r2 : ax_R x2) (r5 : ax_R x5) (H :
  (x2 ≤ x5 →
    Q x3 I) ∧
  (¬ x2 ≤ x5 →
    RI (d + 4) kX1_reachOf 69 [some (ax_r 1), none, some (ax_i x2), some (ax_i x3), some (ax_i x4), some (ax_i x5), some (ax_i x3)] I Q)) :
  RI (d + 4) kX1_reachOf 60 [some (ax_r 1), none, some (ax_i x2), some (ax_i x3), some (ax_i x4), some (ax_i x5), none] I Q := by
  show Rn _ _ _ _ _ _ _ _
  refine r_iload dX1_reachOf_60 rfl ?_
  refine r_iload_n dX1_reachOf_62 rfl ?_
  refine r_icmp_ge (tgt := 113) dX1_reachOf_63 (by decide) r5 r2 (fun c1 => ?_) (fun c1 => ?_)
  · have H := H.1 c1
    refine r_iload_n dX1_reachOf_113 rfl ?_
    exact r_iret dX1_reachOf_114 rfl ⟨rfl, _, rfl, H⟩
  · have H := H.2 c1
    refine r_iload_n dX1_reachOf_66 rfl ?_
    refine r_istore dX1_reachOf_67 (by decide) rfl ?_
    exact H

theorem vX1_reachOf_69 {d : Nat} {Q : Int → ax_H → Prop} {x2 : Int} {x3 : Int} {x4 : Int} {x5 : Int} {x6 : Int} {I : ax_H} (r4 : ax_R x4) (r6 : ax_R x6) (H :
  (x6 ≤ x4 →
    RI (d + 4) kX1_reachOf 60 [some (ax_r 1), none, some (ax_i x2), some (ax_i x3), some (ax_i x4), some (ax_i (x5 + 1)), none] I Q) ∧
  (¬ x6 ≤ x4 →
    (1024 ≤ x4 →
      RI (d + 4) kX1_reachOf 60 [some (ax_r 1), none, some (ax_i x2), some (ax_i x3), some (ax_i x4), some (ax_i (x5 + 1)), none] I Q) ∧
    (¬ 1024 ≤ x4 →
      (0 ≤ x4 ∧ x4 < 1024) ∧
      (cI (d + 3) kX1_stepFrom [ax_r 1, ax_i (I 9 x4)] I (fun w5 I4 =>
      cI (d + 3) kX1_reach [ax_r 1, ax_i w5, ax_i x3] I4 (fun w7 I6 =>
      RI (d + 4) kX1_reachOf 69 [some (ax_r 1), none, some (ax_i x2), some (ax_i w7), some (ax_i (x4 + 1)), some (ax_i x5), some (ax_i x6)] I6 Q)))))) :
  RI (d + 4) kX1_reachOf 69 [some (ax_r 1), none, some (ax_i x2), some (ax_i x3), some (ax_i x4), some (ax_i x5), some (ax_i x6)] I Q := by
  show Rn _ _ _ _ _ _ _ _
  refine r_iload dX1_reachOf_69 rfl ?_
  refine r_iload dX1_reachOf_71 rfl ?_
  refine r_icmp_ge (tgt := 107) dX1_reachOf_73 (by decide) r4 r6 (fun c1 => ?_) (fun c1 => ?_)
  · have H := H.1 c1
    refine r_iinc dX1_reachOf_107 (by decide) rfl rfl ?_
    refine r_goto (tgt := 60) dX1_reachOf_110 (by decide) ?_
    refine r_drop (ls2 := [some (ax_r 1), none, some (ax_i x2), some (ax_i x3), some (ax_i x4), some (ax_i (x5 + 1)), none]) ?_ (ax_leS (ax_leN (ax_leS (ax_leS (ax_leS (ax_leS (ax_leN ax_leE)))))))
    exact H
  · have H := H.2 c1
    refine r_iload dX1_reachOf_76 rfl ?_
    refine r_sipush (v := 1024) dX1_reachOf_78 (by decide) ?_
    refine r_icmp_ge (tgt := 107) dX1_reachOf_81 (by decide) r4 (by decide) (fun c2 => ?_) (fun c2 => ?_)
    · have H := H.1 c2
      refine r_iinc dX1_reachOf_107 (by decide) rfl rfl ?_
      refine r_goto (tgt := 60) dX1_reachOf_110 (by decide) ?_
      refine r_drop (ls2 := [some (ax_r 1), none, some (ax_i x2), some (ax_i x3), some (ax_i x4), some (ax_i (x5 + 1)), none]) ?_ (ax_leS (ax_leN (ax_leS (ax_leS (ax_leS (ax_leS (ax_leN ax_leE)))))))
      exact H
    · have H := H.2 c2
      refine r_aload_n dX1_reachOf_84 rfl ?_
      refine r_aload_n dX1_reachOf_85 rfl ?_
      refine r_aload_n dX1_reachOf_86 rfl ?_
      refine r_getR clX1 9 (by decide) s0_1 rfl rfl wX1_45 dX1_reachOf_87 ?_
      refine r_iload dX1_reachOf_90 rfl ?_
      have ob3 := H.1
      have H := H.2
      refine r_iald s0_9 (by decide) dX1_reachOf_92 ob3 ?_
      refine r_cI (as := [ax_r 1, ax_i (I 9 x4)]) (how_V (ci := 1) jX1_stepFrom jIX1_stepFrom jVX1_stepFrom rfl s0_1 (by decide) rfl rfl wX1_78 dX1_reachOf_93) rfl (Nat.le_refl _) (Nat.le_of_ble_eq_true rfl) (fun _ => Nat.le_of_ble_eq_true rfl) H (fun w5 I4 H => ?_)
      refine r_iload_n dX1_reachOf_96 rfl ?_
      refine r_cI (as := [ax_r 1, ax_i w5, ax_i x3]) (how_V (ci := 1) jX1_reach jIX1_reach jVX1_reach rfl s0_1 (by decide) rfl rfl wX1_98 dX1_reachOf_97) rfl (Nat.le_refl _) (Nat.le_of_ble_eq_true rfl) (fun _ => Nat.le_of_ble_eq_true rfl) H (fun w7 I6 H => ?_)
      refine r_istore_n dX1_reachOf_100 (by decide) rfl ?_
      refine r_iinc dX1_reachOf_101 (by decide) rfl rfl ?_
      refine r_goto (tgt := 69) dX1_reachOf_104 (by decide) ?_
      exact H

theorem vX1_reach_0 {d : Nat} {Q : Int → ax_H → Prop} {x1 : Int} {x2 : Int} {I : ax_H} (r1 : ax_R x1) (r2 : ax_R x2) (H :
  (x1 < 0 →
    Q x2 I) ∧
  (¬ x1 < 0 →
    (1024 ≤ x1 →
      Q x2 I) ∧
    (¬ 1024 ≤ x1 →
      (x2 < 0 →
        Q x2 I) ∧
      (¬ x2 < 0 →
        (1024 ≤ x2 →
          Q x2 I) ∧
        (¬ 1024 ≤ x2 →
          (0 ≤ x1 ∧ x1 < 1024) ∧
          (((I 8 x1) = 0 →
            (0 ≤ x2 ∧ x2 < 1024) ∧
            (Q (x2 + 1) (ax_st (ax_st I 8 x1 1) 9 x2 x1))) ∧
          (¬ (I 8 x1) = 0 →
            Q x2 I))))))) :
  RI d kX1_reach 0 [some (ax_r 1), some (ax_i x1), some (ax_i x2)] I Q := by
  show Rn _ _ _ _ _ _ _ _
  refine r_iload_n dX1_reach_0 rfl ?_
  refine r_if_lt (tgt := 31) dX1_reach_1 (by decide) r1 (fun c1 => ?_) (fun c1 => ?_)
  · have H := H.1 c1
    refine r_iload_n dX1_reach_31 rfl ?_
    exact r_iret dX1_reach_32 rfl ⟨rfl, _, rfl, H⟩
  · have H := H.2 c1
    refine r_iload_n dX1_reach_4 rfl ?_
    refine r_sipush (v := 1024) dX1_reach_5 (by decide) ?_
    refine r_icmp_ge (tgt := 31) dX1_reach_8 (by decide) r1 (by decide) (fun c2 => ?_) (fun c2 => ?_)
    · have H := H.1 c2
      refine r_iload_n dX1_reach_31 rfl ?_
      exact r_iret dX1_reach_32 rfl ⟨rfl, _, rfl, H⟩
    · have H := H.2 c2
      refine r_iload_n dX1_reach_11 rfl ?_
      refine r_if_lt (tgt := 31) dX1_reach_12 (by decide) r2 (fun c3 => ?_) (fun c3 => ?_)
      · have H := H.1 c3
        refine r_iload_n dX1_reach_31 rfl ?_
        exact r_iret dX1_reach_32 rfl ⟨rfl, _, rfl, H⟩
      · have H := H.2 c3
        refine r_iload_n dX1_reach_15 rfl ?_
        refine r_sipush (v := 1024) dX1_reach_16 (by decide) ?_
        refine r_icmp_ge (tgt := 31) dX1_reach_19 (by decide) r2 (by decide) (fun c4 => ?_) (fun c4 => ?_)
        · have H := H.1 c4
          refine r_iload_n dX1_reach_31 rfl ?_
          exact r_iret dX1_reach_32 rfl ⟨rfl, _, rfl, H⟩
        · have H := H.2 c4
          refine r_aload_n dX1_reach_22 rfl ?_
          refine r_getR clX1 8 (by decide) s0_1 rfl rfl wX1_41 dX1_reach_23 ?_
          refine r_iload_n dX1_reach_26 rfl ?_
          have ob5 := H.1
          have H := H.2
          refine r_zald s0_8 (by decide) dX1_reach_27 ob5 ?_
          refine r_heapR (fun hI6 => ?_)
          refine r_if_eq (tgt := 33) dX1_reach_28 (by decide) (hI6 _ _) (fun c7 => ?_) (fun c7 => ?_)
          · have H := H.1 c7
            refine r_aload_n dX1_reach_33 rfl ?_
            refine r_getR clX1 8 (by decide) s0_1 rfl rfl wX1_41 dX1_reach_34 ?_
            refine r_iload_n dX1_reach_37 rfl ?_
            refine r_iconst dX1_reach_38 ?_
            refine r_zast s0_8 (by decide) dX1_reach_39 ob5 (by decide) ?_
            refine r_aload_n dX1_reach_40 rfl ?_
            refine r_getR clX1 9 (by decide) s0_1 rfl rfl wX1_45 dX1_reach_41 ?_
            refine r_iload_n dX1_reach_44 rfl ?_
            refine r_iload_n dX1_reach_45 rfl ?_
            have ob8 := H.1
            have H := H.2
            refine r_iast s0_9 (by decide) dX1_reach_46 ob8 r1 ?_
            refine r_iload_n dX1_reach_47 rfl ?_
            refine r_iconst dX1_reach_48 ?_
            refine r_iadd dX1_reach_49 ?_
            exact r_iret dX1_reach_50 rfl ⟨rfl, _, rfl, H⟩
          · have H := H.2 c7
            refine r_iload_n dX1_reach_31 rfl ?_
            exact r_iret dX1_reach_32 rfl ⟨rfl, _, rfl, H⟩

theorem vX5_learn_0 {d : Nat} {Q : ax_H → Prop} {I : ax_H} (H :
  ((I 10 4) ≠ (I 1 1) →
    RV (d + 5) kX5_learn 22 [some (ax_r 10), some (ax_r 1), some (ax_i 0), none, none] (ax_st I 10 4 (I 1 1)) Q) ∧
  ((I 10 4) = (I 1 1) →
    Q I)) :
  RV (d + 5) kX5_learn 0 [some (ax_r 10), some (ax_r 1), none, none, none] I Q := by
  show Rn _ _ _ _ _ _ _ _
  refine r_aload_n dX5_learn_0 rfl ?_
  refine r_getI clX5 4 4 (by decide) s0_10 rfl rfl wX5_24 dX5_learn_1 ?_
  refine r_aload_n dX5_learn_4 rfl ?_
  refine r_getI clX1 1 1 (by decide) s0_1 rfl rfl wX5_28 dX5_learn_5 ?_
  refine r_heapR (fun hI1 => ?_)
  refine r_icmp_ne (tgt := 12) dX5_learn_8 (by decide) (hI1 _ _) (hI1 _ _) (fun c2 => ?_) (fun c2 => ?_)
  · have H := H.1 c2
    refine r_aload_n dX5_learn_12 rfl ?_
    refine r_aload_n dX5_learn_13 rfl ?_
    refine r_getI clX1 1 1 (by decide) s0_1 rfl rfl wX5_28 dX5_learn_14 ?_
    refine r_putI clX5 4 4 (by decide) s0_10 rfl rfl rfl (hI1 _ _) rfl rfl wX5_24 dX5_learn_17 ?_
    refine r_iconst dX5_learn_20 ?_
    refine r_istore_n dX5_learn_21 (by decide) rfl ?_
    exact H
  · have H := H.2 c2
    exact r_vret dX5_learn_11 rfl ⟨rfl, rfl, H⟩

theorem vX5_learn_22 {d : Nat} {Q : ax_H → Prop} {x2 : Int} {I : ax_H} (r2 : ax_R x2) (H :
  (1024 ≤ x2 →
    RV (d + 5) kX5_learn 58 [some (ax_r 10), some (ax_r 1), some (ax_i 0), none, none] I Q) ∧
  (¬ 1024 ≤ x2 →
    (0 ≤ x2 ∧ x2 < 1024) ∧
    (RV (d + 5) kX5_learn 22 [some (ax_r 10), some (ax_r 1), some (ax_i (x2 + 1)), none, none] (ax_st (ax_st (ax_st I 11 x2 (-1)) 12 x2 0) 13 x2 (-1)) Q))) :
  RV (d + 5) kX5_learn 22 [some (ax_r 10), some (ax_r 1), some (ax_i x2), none, none] I Q := by
  show Rn _ _ _ _ _ _ _ _
  refine r_iload_n dX5_learn_22 rfl ?_
  refine r_sipush (v := 1024) dX5_learn_23 (by decide) ?_
  refine r_icmp_ge (tgt := 56) dX5_learn_26 (by decide) r2 (by decide) (fun c1 => ?_) (fun c1 => ?_)
  · have H := H.1 c1
    refine r_iconst dX5_learn_56 ?_
    refine r_istore_n dX5_learn_57 (by decide) rfl ?_
    exact H
  · have H := H.2 c1
    refine r_aload_n dX5_learn_29 rfl ?_
    refine r_getR clX5 0 (by decide) s0_10 rfl rfl wX5_9 dX5_learn_30 ?_
    refine r_iload_n dX5_learn_33 rfl ?_
    refine r_iconst dX5_learn_34 ?_
    have ob2 := H.1
    have H := H.2
    refine r_iast s0_11 (by decide) dX5_learn_35 ob2 (by decide) ?_
    refine r_aload_n dX5_learn_36 rfl ?_
    refine r_getR clX5 1 (by decide) s0_10 rfl rfl wX5_15 dX5_learn_37 ?_
    refine r_iload_n dX5_learn_40 rfl ?_
    refine r_iconst dX5_learn_41 ?_
    refine r_iast s0_12 (by decide) dX5_learn_42 ob2 (by decide) ?_
    refine r_aload_n dX5_learn_43 rfl ?_
    refine r_getR clX5 2 (by decide) s0_10 rfl rfl wX5_18 dX5_learn_44 ?_
    refine r_iload_n dX5_learn_47 rfl ?_
    refine r_iconst dX5_learn_48 ?_
    refine r_iast s0_13 (by decide) dX5_learn_49 ob2 (by decide) ?_
    refine r_iinc dX5_learn_50 (by decide) rfl rfl ?_
    refine r_goto (tgt := 22) dX5_learn_53 (by decide) ?_
    exact H

theorem vX5_learn_58 {d : Nat} {Q : ax_H → Prop} {x2 : Int} {I : ax_H} (r2 : ax_R x2) (H :
  (1024 ≤ x2 →
    Q I) ∧
  (¬ 1024 ≤ x2 →
    RV (d + 5) kX5_learn 70 [some (ax_r 10), some (ax_r 1), some (ax_i x2), some (ax_i x2), some (ax_i 0)] I Q)) :
  RV (d + 5) kX5_learn 58 [some (ax_r 10), some (ax_r 1), some (ax_i x2), none, none] I Q := by
  show Rn _ _ _ _ _ _ _ _
  refine r_iload_n dX5_learn_58 rfl ?_
  refine r_sipush (v := 1024) dX5_learn_59 (by decide) ?_
  refine r_icmp_ge (tgt := 148) dX5_learn_62 (by decide) r2 (by decide) (fun c1 => ?_) (fun c1 => ?_)
  · have H := H.1 c1
    exact r_vret dX5_learn_148 rfl ⟨rfl, rfl, H⟩
  · have H := H.2 c1
    refine r_iload_n dX5_learn_65 rfl ?_
    refine r_istore_n dX5_learn_66 (by decide) rfl ?_
    refine r_iconst dX5_learn_67 ?_
    refine r_istore dX5_learn_68 (by decide) rfl ?_
    exact H

theorem vX5_learn_70 {d : Nat} {Q : ax_H → Prop} {x2 : Int} {x3 : Int} {x4 : Int} {I : ax_H} (r2 : ax_R x2) (r3 : ax_R x3) (r4 : ax_R x4) (H :
  (1024 ≤ x4 →
    (x3 < 0 →
      RV (d + 5) kX5_learn 58 [some (ax_r 10), some (ax_r 1), some (ax_i (x2 + 1)), none, none] I Q) ∧
    (¬ x3 < 0 →
      (1024 ≤ x3 →
        RV (d + 5) kX5_learn 58 [some (ax_r 10), some (ax_r 1), some (ax_i (x2 + 1)), none, none] I Q) ∧
      (¬ 1024 ≤ x3 →
        (0 ≤ x3 ∧ x3 < 1024) ∧
        (((I 13 x3) ≠ x2 →
          RV (d + 5) kX5_learn 58 [some (ax_r 10), some (ax_r 1), some (ax_i (x2 + 1)), none, none] I Q) ∧
        ((I 13 x3) = x2 →
          ((I 11 x3) ≠ (-1) →
            RV (d + 5) kX5_learn 58 [some (ax_r 10), some (ax_r 1), some (ax_i (x2 + 1)), none, none] I Q) ∧
          ((I 11 x3) = (-1) →
            cV (d + 4) kX5_goRound [ax_r 10, ax_r 1, ax_i x3] I (fun I8 =>
            RV (d + 5) kX5_learn 58 [some (ax_r 10), some (ax_r 1), some (ax_i (x2 + 1)), none, none] I8 Q))))))) ∧
  (¬ 1024 ≤ x4 →
    cI (d + 4) kX5_isUnmarked [ax_r 10, ax_i x3] I (fun w10 I9 =>
    ax_R w10 ∧
    ((w10 = 0 →
      (x3 < 0 →
        RV (d + 5) kX5_learn 58 [some (ax_r 10), some (ax_r 1), some (ax_i (x2 + 1)), none, none] I9 Q) ∧
      (¬ x3 < 0 →
        (1024 ≤ x3 →
          RV (d + 5) kX5_learn 58 [some (ax_r 10), some (ax_r 1), some (ax_i (x2 + 1)), none, none] I9 Q) ∧
        (¬ 1024 ≤ x3 →
          (0 ≤ x3 ∧ x3 < 1024) ∧
          (((I9 13 x3) ≠ x2 →
            RV (d + 5) kX5_learn 58 [some (ax_r 10), some (ax_r 1), some (ax_i (x2 + 1)), none, none] I9 Q) ∧
          ((I9 13 x3) = x2 →
            ((I9 11 x3) ≠ (-1) →
              RV (d + 5) kX5_learn 58 [some (ax_r 10), some (ax_r 1), some (ax_i (x2 + 1)), none, none] I9 Q) ∧
            ((I9 11 x3) = (-1) →
              cV (d + 4) kX5_goRound [ax_r 10, ax_r 1, ax_i x3] I9 (fun I19 =>
              RV (d + 5) kX5_learn 58 [some (ax_r 10), some (ax_r 1), some (ax_i (x2 + 1)), none, none] I19 Q))))))) ∧
    (¬ w10 = 0 →
      (0 ≤ x3 ∧ x3 < 1024) ∧
      (cI (d + 4) kX1_stepFrom [ax_r 1, ax_i x3] (ax_st I9 13 x3 x2) (fun w22 I21 =>
      RV (d + 5) kX5_learn 70 [some (ax_r 10), some (ax_r 1), some (ax_i x2), some (ax_i w22), some (ax_i (x4 + 1))] I21 Q))))))) :
  RV (d + 5) kX5_learn 70 [some (ax_r 10), some (ax_r 1), some (ax_i x2), some (ax_i x3), some (ax_i x4)] I Q := by
  show Rn _ _ _ _ _ _ _ _
  refine r_iload dX5_learn_70 rfl ?_
  refine r_sipush (v := 1024) dX5_learn_72 (by decide) ?_
  refine r_icmp_ge (tgt := 105) dX5_learn_75 (by decide) r4 (by decide) (fun c1 => ?_) (fun c1 => ?_)
  · have H := H.1 c1
    refine r_iload_n dX5_learn_105 rfl ?_
    refine r_if_lt (tgt := 142) dX5_learn_106 (by decide) r3 (fun c2 => ?_) (fun c2 => ?_)
    · have H := H.1 c2
      refine r_iinc dX5_learn_142 (by decide) rfl rfl ?_
      refine r_goto (tgt := 58) dX5_learn_145 (by decide) ?_
      refine r_drop (ls2 := [some (ax_r 10), some (ax_r 1), some (ax_i (x2 + 1)), none, none]) ?_ (ax_leS (ax_leS (ax_leS (ax_leN (ax_leN ax_leE)))))
      exact H
    · have H := H.2 c2
      refine r_iload_n dX5_learn_109 rfl ?_
      refine r_sipush (v := 1024) dX5_learn_110 (by decide) ?_
      refine r_icmp_ge (tgt := 142) dX5_learn_113 (by decide) r3 (by decide) (fun c3 => ?_) (fun c3 => ?_)
      · have H := H.1 c3
        refine r_iinc dX5_learn_142 (by decide) rfl rfl ?_
        refine r_goto (tgt := 58) dX5_learn_145 (by decide) ?_
        refine r_drop (ls2 := [some (ax_r 10), some (ax_r 1), some (ax_i (x2 + 1)), none, none]) ?_ (ax_leS (ax_leS (ax_leS (ax_leN (ax_leN ax_leE)))))
        exact H
      · have H := H.2 c3
        refine r_aload_n dX5_learn_116 rfl ?_
        refine r_getR clX5 2 (by decide) s0_10 rfl rfl wX5_18 dX5_learn_117 ?_
        refine r_iload_n dX5_learn_120 rfl ?_
        have ob4 := H.1
        have H := H.2
        refine r_iald s0_13 (by decide) dX5_learn_121 ob4 ?_
        refine r_iload_n dX5_learn_122 rfl ?_
        refine r_heapR (fun hI5 => ?_)
        refine r_icmp_ne (tgt := 142) dX5_learn_123 (by decide) (hI5 _ _) r2 (fun c6 => ?_) (fun c6 => ?_)
        · have H := H.1 c6
          refine r_iinc dX5_learn_142 (by decide) rfl rfl ?_
          refine r_goto (tgt := 58) dX5_learn_145 (by decide) ?_
          refine r_drop (ls2 := [some (ax_r 10), some (ax_r 1), some (ax_i (x2 + 1)), none, none]) ?_ (ax_leS (ax_leS (ax_leS (ax_leN (ax_leN ax_leE)))))
          exact H
        · have H := H.2 c6
          refine r_aload_n dX5_learn_126 rfl ?_
          refine r_getR clX5 0 (by decide) s0_10 rfl rfl wX5_9 dX5_learn_127 ?_
          refine r_iload_n dX5_learn_130 rfl ?_
          refine r_iald s0_11 (by decide) dX5_learn_131 ob4 ?_
          refine r_iconst dX5_learn_132 ?_
          refine r_icmp_ne (tgt := 142) dX5_learn_133 (by decide) (hI5 _ _) (by decide) (fun c7 => ?_) (fun c7 => ?_)
          · have H := H.1 c7
            refine r_iinc dX5_learn_142 (by decide) rfl rfl ?_
            refine r_goto (tgt := 58) dX5_learn_145 (by decide) ?_
            refine r_drop (ls2 := [some (ax_r 10), some (ax_r 1), some (ax_i (x2 + 1)), none, none]) ?_ (ax_leS (ax_leS (ax_leS (ax_leN (ax_leN ax_leE)))))
            exact H
          · have H := H.2 c7
            refine r_aload_n dX5_learn_136 rfl ?_
            refine r_aload_n dX5_learn_137 rfl ?_
            refine r_iload_n dX5_learn_138 rfl ?_
            refine r_cV (as := [ax_r 10, ax_r 1, ax_i x3]) (how_V (ci := 5) jX5_goRound jIX5_goRound jVX5_goRound rfl s0_10 (by decide) rfl rfl wX5_39 dX5_learn_139) rfl (Nat.le_refl _) (Nat.le_of_ble_eq_true rfl) (fun _ => Nat.le_of_ble_eq_true rfl) H (fun I8 H => ?_)
            refine r_iinc dX5_learn_142 (by decide) rfl rfl ?_
            refine r_goto (tgt := 58) dX5_learn_145 (by decide) ?_
            refine r_drop (ls2 := [some (ax_r 10), some (ax_r 1), some (ax_i (x2 + 1)), none, none]) ?_ (ax_leS (ax_leS (ax_leS (ax_leN (ax_leN ax_leE)))))
            exact H
  · have H := H.2 c1
    refine r_aload_n dX5_learn_78 rfl ?_
    refine r_iload_n dX5_learn_79 rfl ?_
    refine r_cI (as := [ax_r 10, ax_i x3]) (how_V (ci := 5) jX5_isUnmarked jIX5_isUnmarked jVX5_isUnmarked rfl s0_10 (by decide) rfl rfl wX5_31 dX5_learn_80) rfl (Nat.le_refl _) (Nat.le_of_ble_eq_true rfl) (fun _ => Nat.le_of_ble_eq_true rfl) H (fun w10 I9 H => ?_)
    have ob11 := H.1
    have H := H.2
    refine r_if_eq (tgt := 105) dX5_learn_83 (by decide) ob11 (fun c12 => ?_) (fun c12 => ?_)
    · have H := H.1 c12
      refine r_iload_n dX5_learn_105 rfl ?_
      refine r_if_lt (tgt := 142) dX5_learn_106 (by decide) r3 (fun c13 => ?_) (fun c13 => ?_)
      · have H := H.1 c13
        refine r_iinc dX5_learn_142 (by decide) rfl rfl ?_
        refine r_goto (tgt := 58) dX5_learn_145 (by decide) ?_
        refine r_drop (ls2 := [some (ax_r 10), some (ax_r 1), some (ax_i (x2 + 1)), none, none]) ?_ (ax_leS (ax_leS (ax_leS (ax_leN (ax_leN ax_leE)))))
        exact H
      · have H := H.2 c13
        refine r_iload_n dX5_learn_109 rfl ?_
        refine r_sipush (v := 1024) dX5_learn_110 (by decide) ?_
        refine r_icmp_ge (tgt := 142) dX5_learn_113 (by decide) r3 (by decide) (fun c14 => ?_) (fun c14 => ?_)
        · have H := H.1 c14
          refine r_iinc dX5_learn_142 (by decide) rfl rfl ?_
          refine r_goto (tgt := 58) dX5_learn_145 (by decide) ?_
          refine r_drop (ls2 := [some (ax_r 10), some (ax_r 1), some (ax_i (x2 + 1)), none, none]) ?_ (ax_leS (ax_leS (ax_leS (ax_leN (ax_leN ax_leE)))))
          exact H
        · have H := H.2 c14
          refine r_aload_n dX5_learn_116 rfl ?_
          refine r_getR clX5 2 (by decide) s0_10 rfl rfl wX5_18 dX5_learn_117 ?_
          refine r_iload_n dX5_learn_120 rfl ?_
          have ob15 := H.1
          have H := H.2
          refine r_iald s0_13 (by decide) dX5_learn_121 ob15 ?_
          refine r_iload_n dX5_learn_122 rfl ?_
          refine r_heapR (fun hI16 => ?_)
          refine r_icmp_ne (tgt := 142) dX5_learn_123 (by decide) (hI16 _ _) r2 (fun c17 => ?_) (fun c17 => ?_)
          · have H := H.1 c17
            refine r_iinc dX5_learn_142 (by decide) rfl rfl ?_
            refine r_goto (tgt := 58) dX5_learn_145 (by decide) ?_
            refine r_drop (ls2 := [some (ax_r 10), some (ax_r 1), some (ax_i (x2 + 1)), none, none]) ?_ (ax_leS (ax_leS (ax_leS (ax_leN (ax_leN ax_leE)))))
            exact H
          · have H := H.2 c17
            refine r_aload_n dX5_learn_126 rfl ?_
            refine r_getR clX5 0 (by decide) s0_10 rfl rfl wX5_9 dX5_learn_127 ?_
            refine r_iload_n dX5_learn_130 rfl ?_
            refine r_iald s0_11 (by decide) dX5_learn_131 ob15 ?_
            refine r_iconst dX5_learn_132 ?_
            refine r_icmp_ne (tgt := 142) dX5_learn_133 (by decide) (hI16 _ _) (by decide) (fun c18 => ?_) (fun c18 => ?_)
            · have H := H.1 c18
              refine r_iinc dX5_learn_142 (by decide) rfl rfl ?_
              refine r_goto (tgt := 58) dX5_learn_145 (by decide) ?_
              refine r_drop (ls2 := [some (ax_r 10), some (ax_r 1), some (ax_i (x2 + 1)), none, none]) ?_ (ax_leS (ax_leS (ax_leS (ax_leN (ax_leN ax_leE)))))
              exact H
            · have H := H.2 c18
              refine r_aload_n dX5_learn_136 rfl ?_
              refine r_aload_n dX5_learn_137 rfl ?_
              refine r_iload_n dX5_learn_138 rfl ?_
              refine r_cV (as := [ax_r 10, ax_r 1, ax_i x3]) (how_V (ci := 5) jX5_goRound jIX5_goRound jVX5_goRound rfl s0_10 (by decide) rfl rfl wX5_39 dX5_learn_139) rfl (Nat.le_refl _) (Nat.le_of_ble_eq_true rfl) (fun _ => Nat.le_of_ble_eq_true rfl) H (fun I19 H => ?_)
              refine r_iinc dX5_learn_142 (by decide) rfl rfl ?_
              refine r_goto (tgt := 58) dX5_learn_145 (by decide) ?_
              refine r_drop (ls2 := [some (ax_r 10), some (ax_r 1), some (ax_i (x2 + 1)), none, none]) ?_ (ax_leS (ax_leS (ax_leS (ax_leN (ax_leN ax_leE)))))
              exact H
    · have H := H.2 c12
      refine r_aload_n dX5_learn_86 rfl ?_
      refine r_getR clX5 2 (by decide) s0_10 rfl rfl wX5_18 dX5_learn_87 ?_
      refine r_iload_n dX5_learn_90 rfl ?_
      refine r_iload_n dX5_learn_91 rfl ?_
      have ob20 := H.1
      have H := H.2
      refine r_iast s0_13 (by decide) dX5_learn_92 ob20 r2 ?_
      refine r_aload_n dX5_learn_93 rfl ?_
      refine r_iload_n dX5_learn_94 rfl ?_
      refine r_cI (as := [ax_r 1, ax_i x3]) (how_V (ci := 1) jX1_stepFrom jIX1_stepFrom jVX1_stepFrom rfl s0_1 (by decide) rfl rfl wX5_35 dX5_learn_95) rfl (Nat.le_refl _) (Nat.le_of_ble_eq_true rfl) (fun _ => Nat.le_of_ble_eq_true rfl) H (fun w22 I21 H => ?_)
      refine r_istore_n dX5_learn_98 (by decide) rfl ?_
      refine r_iinc dX5_learn_99 (by decide) rfl rfl ?_
      refine r_goto (tgt := 70) dX5_learn_102 (by decide) ?_
      exact H

theorem vX5_isUnmarked_0 {d : Nat} {Q : Int → ax_H → Prop} {x1 : Int} {I : ax_H} (r1 : ax_R x1) (H :
  (x1 < 0 →
    Q 0 I) ∧
  (¬ x1 < 0 →
    (1024 ≤ x1 →
      Q 0 I) ∧
    (¬ 1024 ≤ x1 →
      (0 ≤ x1 ∧ x1 < 1024) ∧
      (((I 13 x1) ≠ (-1) →
        Q 0 I) ∧
      ((I 13 x1) = (-1) →
        Q 1 I))))) :
  RI d kX5_isUnmarked 0 [some (ax_r 10), some (ax_i x1)] I Q := by
  show Rn _ _ _ _ _ _ _ _
  refine r_iload_n dX5_isUnmarked_0 rfl ?_
  refine r_if_lt (tgt := 25) dX5_isUnmarked_1 (by decide) r1 (fun c1 => ?_) (fun c1 => ?_)
  · have H := H.1 c1
    refine r_iconst dX5_isUnmarked_25 ?_
    exact r_zret dX5_isUnmarked_26 rfl (by decide) ⟨rfl, _, rfl, H⟩
  · have H := H.2 c1
    refine r_iload_n dX5_isUnmarked_4 rfl ?_
    refine r_sipush (v := 1024) dX5_isUnmarked_5 (by decide) ?_
    refine r_icmp_ge (tgt := 25) dX5_isUnmarked_8 (by decide) r1 (by decide) (fun c2 => ?_) (fun c2 => ?_)
    · have H := H.1 c2
      refine r_iconst dX5_isUnmarked_25 ?_
      exact r_zret dX5_isUnmarked_26 rfl (by decide) ⟨rfl, _, rfl, H⟩
    · have H := H.2 c2
      refine r_aload_n dX5_isUnmarked_11 rfl ?_
      refine r_getR clX5 2 (by decide) s0_10 rfl rfl wX5_18 dX5_isUnmarked_12 ?_
      refine r_iload_n dX5_isUnmarked_15 rfl ?_
      have ob3 := H.1
      have H := H.2
      refine r_iald s0_13 (by decide) dX5_isUnmarked_16 ob3 ?_
      refine r_iconst dX5_isUnmarked_17 ?_
      refine r_heapR (fun hI4 => ?_)
      refine r_icmp_ne (tgt := 25) dX5_isUnmarked_18 (by decide) (hI4 _ _) (by decide) (fun c5 => ?_) (fun c5 => ?_)
      · have H := H.1 c5
        refine r_iconst dX5_isUnmarked_25 ?_
        exact r_zret dX5_isUnmarked_26 rfl (by decide) ⟨rfl, _, rfl, H⟩
      · have H := H.2 c5
        refine r_iconst dX5_isUnmarked_21 ?_
        refine r_goto (tgt := 26) dX5_isUnmarked_22 (by decide) ?_
        exact r_zret dX5_isUnmarked_26 rfl (by decide) ⟨rfl, _, rfl, H⟩

theorem vX5_goRound_0 {d : Nat} {Q : ax_H → Prop} {x2 : Int} {I : ax_H} (r2 : ax_R x2) (H :
  (x2 < 0 →
    Q I) ∧
  (¬ x2 < 0 →
    (x2 < 1024 →
      RV (d + 4) kX5_goRound 17 [some (ax_r 10), some (ax_r 1), some (ax_i x2), some (ax_i x2), some (ax_i 0)] I Q) ∧
    (¬ x2 < 1024 →
      Q I))) :
  RV (d + 4) kX5_goRound 0 [some (ax_r 10), some (ax_r 1), some (ax_i x2), none, none] I Q := by
  show Rn _ _ _ _ _ _ _ _
  refine r_iload_n dX5_goRound_0 rfl ?_
  refine r_if_lt (tgt := 11) dX5_goRound_1 (by decide) r2 (fun c1 => ?_) (fun c1 => ?_)
  · have H := H.1 c1
    exact r_vret dX5_goRound_11 rfl ⟨rfl, rfl, H⟩
  · have H := H.2 c1
    refine r_iload_n dX5_goRound_4 rfl ?_
    refine r_sipush (v := 1024) dX5_goRound_5 (by decide) ?_
    refine r_icmp_lt (tgt := 12) dX5_goRound_8 (by decide) r2 (by decide) (fun c2 => ?_) (fun c2 => ?_)
    · have H := H.1 c2
      refine r_iload_n dX5_goRound_12 rfl ?_
      refine r_istore_n dX5_goRound_13 (by decide) rfl ?_
      refine r_iconst dX5_goRound_14 ?_
      refine r_istore dX5_goRound_15 (by decide) rfl ?_
      exact H
    · have H := H.2 c2
      exact r_vret dX5_goRound_11 rfl ⟨rfl, rfl, H⟩

theorem vX5_goRound_17 {d : Nat} {Q : ax_H → Prop} {x2 : Int} {x3 : Int} {x4 : Int} {I : ax_H} (r2 : ax_R x2) (r3 : ax_R x3) (r4 : ax_R x4) (H :
  (1024 ≤ x4 →
    Q I) ∧
  (¬ 1024 ≤ x4 →
    (x3 < 0 →
      Q I) ∧
    (¬ x3 < 0 →
      (1024 ≤ x3 →
        Q I) ∧
      (¬ 1024 ≤ x3 →
        (0 ≤ x3 ∧ x3 < 1024) ∧
        (((I 11 x3) ≠ (-1) →
          Q I) ∧
        ((I 11 x3) = (-1) →
          (0 ≤ x2 ∧ x2 < 1024) ∧
          (ax_R (((ax_st I 11 x3 x2) 12 x2) + 1) ∧
          (cI (d + 3) kX1_stepFrom [ax_r 1, ax_i x3] (ax_st (ax_st I 11 x3 x2) 12 x2 (((ax_st I 11 x3 x2) 12 x2) + 1)) (fun w10 I9 =>
          RV (d + 4) kX5_goRound 17 [some (ax_r 10), some (ax_r 1), some (ax_i x2), some (ax_i w10), some (ax_i (x4 + 1))] I9 Q))))))))) :
  RV (d + 4) kX5_goRound 17 [some (ax_r 10), some (ax_r 1), some (ax_i x2), some (ax_i x3), some (ax_i x4)] I Q := by
  show Rn _ _ _ _ _ _ _ _
  refine r_iload dX5_goRound_17 rfl ?_
  refine r_sipush (v := 1024) dX5_goRound_19 (by decide) ?_
  refine r_icmp_ge (tgt := 75) dX5_goRound_22 (by decide) r4 (by decide) (fun c1 => ?_) (fun c1 => ?_)
  · have H := H.1 c1
    exact r_vret dX5_goRound_75 rfl ⟨rfl, rfl, H⟩
  · have H := H.2 c1
    refine r_iload_n dX5_goRound_25 rfl ?_
    refine r_if_lt (tgt := 75) dX5_goRound_26 (by decide) r3 (fun c2 => ?_) (fun c2 => ?_)
    · have H := H.1 c2
      exact r_vret dX5_goRound_75 rfl ⟨rfl, rfl, H⟩
    · have H := H.2 c2
      refine r_iload_n dX5_goRound_29 rfl ?_
      refine r_sipush (v := 1024) dX5_goRound_30 (by decide) ?_
      refine r_icmp_ge (tgt := 75) dX5_goRound_33 (by decide) r3 (by decide) (fun c3 => ?_) (fun c3 => ?_)
      · have H := H.1 c3
        exact r_vret dX5_goRound_75 rfl ⟨rfl, rfl, H⟩
      · have H := H.2 c3
        refine r_aload_n dX5_goRound_36 rfl ?_
        refine r_getR clX5 0 (by decide) s0_10 rfl rfl wX5_9 dX5_goRound_37 ?_
        refine r_iload_n dX5_goRound_40 rfl ?_
        have ob4 := H.1
        have H := H.2
        refine r_iald s0_11 (by decide) dX5_goRound_41 ob4 ?_
        refine r_iconst dX5_goRound_42 ?_
        refine r_heapR (fun hI5 => ?_)
        refine r_icmp_ne (tgt := 75) dX5_goRound_43 (by decide) (hI5 _ _) (by decide) (fun c6 => ?_) (fun c6 => ?_)
        · have H := H.1 c6
          exact r_vret dX5_goRound_75 rfl ⟨rfl, rfl, H⟩
        · have H := H.2 c6
          refine r_aload_n dX5_goRound_46 rfl ?_
          refine r_getR clX5 0 (by decide) s0_10 rfl rfl wX5_9 dX5_goRound_47 ?_
          refine r_iload_n dX5_goRound_50 rfl ?_
          refine r_iload_n dX5_goRound_51 rfl ?_
          refine r_iast s0_11 (by decide) dX5_goRound_52 ob4 r2 ?_
          refine r_aload_n dX5_goRound_53 rfl ?_
          refine r_getR clX5 1 (by decide) s0_10 rfl rfl wX5_15 dX5_goRound_54 ?_
          refine r_iload_n dX5_goRound_57 rfl ?_
          refine r_dup2 dX5_goRound_58 (fun _ => rfl) (fun _ => rfl) ?_
          have ob7 := H.1
          have H := H.2
          refine r_iald s0_12 (by decide) dX5_goRound_59 ob7 ?_
          refine r_iconst dX5_goRound_60 ?_
          refine r_iadd dX5_goRound_61 ?_
          have ob8 := H.1
          have H := H.2
          refine r_iast s0_12 (by decide) dX5_goRound_62 ob7 ob8 ?_
          refine r_aload_n dX5_goRound_63 rfl ?_
          refine r_iload_n dX5_goRound_64 rfl ?_
          refine r_cI (as := [ax_r 1, ax_i x3]) (how_V (ci := 1) jX1_stepFrom jIX1_stepFrom jVX1_stepFrom rfl s0_1 (by decide) rfl rfl wX5_35 dX5_goRound_65) rfl (Nat.le_refl _) (Nat.le_of_ble_eq_true rfl) (fun _ => Nat.le_of_ble_eq_true rfl) H (fun w10 I9 H => ?_)
          refine r_istore_n dX5_goRound_68 (by decide) rfl ?_
          refine r_iinc dX5_goRound_69 (by decide) rfl rfl ?_
          refine r_goto (tgt := 17) dX5_goRound_72 (by decide) ?_
          exact H

theorem vX5_countThrough_0 {d : Nat} {Q : ax_H → Prop} {x2 : Int} {I : ax_H} (H :
  RV (d + 4) kX5_countThrough 2 [some (ax_r 10), some (ax_r 1), some (ax_i x2), some (ax_i 0), none] I Q) :
  RV (d + 4) kX5_countThrough 0 [some (ax_r 10), some (ax_r 1), some (ax_i x2), none, none] I Q := by
  show Rn _ _ _ _ _ _ _ _
  refine r_iconst dX5_countThrough_0 ?_
  refine r_istore_n dX5_countThrough_1 (by decide) rfl ?_
  exact H

theorem vX5_countThrough_2 {d : Nat} {Q : ax_H → Prop} {x2 : Int} {x3 : Int} {I : ax_H} (r3 : ax_R x3) (H :
  (1024 < x3 →
    RV (d + 4) kX5_countThrough 24 [some (ax_r 10), some (ax_r 1), some (ax_i x2), some (ax_i 0), none] I Q) ∧
  (¬ 1024 < x3 →
    (0 ≤ x3 ∧ x3 < 1025) ∧
    (RV (d + 4) kX5_countThrough 2 [some (ax_r 10), some (ax_r 1), some (ax_i x2), some (ax_i (x3 + 1)), none] (ax_st I 14 x3 0) Q))) :
  RV (d + 4) kX5_countThrough 2 [some (ax_r 10), some (ax_r 1), some (ax_i x2), some (ax_i x3), none] I Q := by
  show Rn _ _ _ _ _ _ _ _
  refine r_iload_n dX5_countThrough_2 rfl ?_
  refine r_sipush (v := 1024) dX5_countThrough_3 (by decide) ?_
  refine r_icmp_gt (tgt := 22) dX5_countThrough_6 (by decide) r3 (by decide) (fun c1 => ?_) (fun c1 => ?_)
  · have H := H.1 c1
    refine r_iconst dX5_countThrough_22 ?_
    refine r_istore_n dX5_countThrough_23 (by decide) rfl ?_
    exact H
  · have H := H.2 c1
    refine r_aload_n dX5_countThrough_9 rfl ?_
    refine r_getR clX5 3 (by decide) s0_10 rfl rfl wX5_21 dX5_countThrough_10 ?_
    refine r_iload_n dX5_countThrough_13 rfl ?_
    refine r_iconst dX5_countThrough_14 ?_
    have ob2 := H.1
    have H := H.2
    refine r_iast s0_14 (by decide) dX5_countThrough_15 ob2 (by decide) ?_
    refine r_iinc dX5_countThrough_16 (by decide) rfl rfl ?_
    refine r_goto (tgt := 2) dX5_countThrough_19 (by decide) ?_
    exact H

theorem vX5_countThrough_24 {d : Nat} {Q : ax_H → Prop} {x2 : Int} {x3 : Int} {I : ax_H} (r3 : ax_R x3) (H :
  (1024 ≤ x3 →
    RV (d + 4) kX5_countThrough 46 [some (ax_r 10), some (ax_r 1), some (ax_i x2), some (ax_i 0), none] I Q) ∧
  (¬ 1024 ≤ x3 →
    (0 ≤ x3 ∧ x3 < 1024) ∧
    (RV (d + 4) kX5_countThrough 24 [some (ax_r 10), some (ax_r 1), some (ax_i x2), some (ax_i (x3 + 1)), none] (ax_st I 13 x3 0) Q))) :
  RV (d + 4) kX5_countThrough 24 [some (ax_r 10), some (ax_r 1), some (ax_i x2), some (ax_i x3), none] I Q := by
  show Rn _ _ _ _ _ _ _ _
  refine r_iload_n dX5_countThrough_24 rfl ?_
  refine r_sipush (v := 1024) dX5_countThrough_25 (by decide) ?_
  refine r_icmp_ge (tgt := 44) dX5_countThrough_28 (by decide) r3 (by decide) (fun c1 => ?_) (fun c1 => ?_)
  · have H := H.1 c1
    refine r_iconst dX5_countThrough_44 ?_
    refine r_istore_n dX5_countThrough_45 (by decide) rfl ?_
    exact H
  · have H := H.2 c1
    refine r_aload_n dX5_countThrough_31 rfl ?_
    refine r_getR clX5 2 (by decide) s0_10 rfl rfl wX5_18 dX5_countThrough_32 ?_
    refine r_iload_n dX5_countThrough_35 rfl ?_
    refine r_iconst dX5_countThrough_36 ?_
    have ob2 := H.1
    have H := H.2
    refine r_iast s0_13 (by decide) dX5_countThrough_37 ob2 (by decide) ?_
    refine r_iinc dX5_countThrough_38 (by decide) rfl rfl ?_
    refine r_goto (tgt := 24) dX5_countThrough_41 (by decide) ?_
    exact H

theorem vX5_countThrough_46 {d : Nat} {Q : ax_H → Prop} {x2 : Int} {x3 : Int} {I : ax_H} (r3 : ax_R x3) (H :
  (1024 ≤ x3 →
    Q I) ∧
  (¬ 1024 ≤ x3 →
    (0 ≤ x3 ∧ x3 < 1024) ∧
    (((I 11 x3) < 0 →
      RV (d + 4) kX5_countThrough 46 [some (ax_r 10), some (ax_r 1), some (ax_i x2), some (ax_i (x3 + 1)), none] I Q) ∧
    (¬ (I 11 x3) < 0 →
      (1024 ≤ (I 11 x3) →
        RV (d + 4) kX5_countThrough 46 [some (ax_r 10), some (ax_r 1), some (ax_i x2), some (ax_i (x3 + 1)), none] I Q) ∧
      (¬ 1024 ≤ (I 11 x3) →
        (0 ≤ (I 11 x3) ∧ (I 11 x3) < 1024) ∧
        (((I 13 (I 11 x3)) ≠ 0 →
          RV (d + 4) kX5_countThrough 46 [some (ax_r 10), some (ax_r 1), some (ax_i x2), some (ax_i (x3 + 1)), none] I Q) ∧
        ((I 13 (I 11 x3)) = 0 →
          cI (d + 3) kX1_keeps [ax_r 1, ax_i x3, ax_i x2] I (fun w9 I8 =>
          ax_R w9 ∧
          ((w9 = 0 →
            RV (d + 4) kX5_countThrough 46 [some (ax_r 10), some (ax_r 1), some (ax_i x2), some (ax_i (x3 + 1)), none] I8 Q) ∧
          (¬ w9 = 0 →
            cV (d + 3) kX5_tallyOne [ax_r 10, ax_i ((ax_st I8 13 (I 11 x3) 1) 12 (I 11 x3))] (ax_st I8 13 (I 11 x3) 1) (fun I12 =>
            RV (d + 4) kX5_countThrough 46 [some (ax_r 10), some (ax_r 1), some (ax_i x2), some (ax_i (x3 + 1)), none] I12 Q))))))))))) :
  RV (d + 4) kX5_countThrough 46 [some (ax_r 10), some (ax_r 1), some (ax_i x2), some (ax_i x3), none] I Q := by
  show Rn _ _ _ _ _ _ _ _
  refine r_iload_n dX5_countThrough_46 rfl ?_
  refine r_sipush (v := 1024) dX5_countThrough_47 (by decide) ?_
  refine r_icmp_ge (tgt := 118) dX5_countThrough_50 (by decide) r3 (by decide) (fun c1 => ?_) (fun c1 => ?_)
  · have H := H.1 c1
    exact r_vret dX5_countThrough_118 rfl ⟨rfl, rfl, H⟩
  · have H := H.2 c1
    refine r_aload_n dX5_countThrough_53 rfl ?_
    refine r_getR clX5 0 (by decide) s0_10 rfl rfl wX5_9 dX5_countThrough_54 ?_
    refine r_iload_n dX5_countThrough_57 rfl ?_
    have ob2 := H.1
    have H := H.2
    refine r_iald s0_11 (by decide) dX5_countThrough_58 ob2 ?_
    refine r_istore dX5_countThrough_59 (by decide) rfl ?_
    refine r_iload dX5_countThrough_61 rfl ?_
    refine r_heapR (fun hI3 => ?_)
    refine r_if_lt (tgt := 112) dX5_countThrough_63 (by decide) (hI3 _ _) (fun c4 => ?_) (fun c4 => ?_)
    · have H := H.1 c4
      refine r_iinc dX5_countThrough_112 (by decide) rfl rfl ?_
      refine r_goto (tgt := 46) dX5_countThrough_115 (by decide) ?_
      refine r_drop (ls2 := [some (ax_r 10), some (ax_r 1), some (ax_i x2), some (ax_i (x3 + 1)), none]) ?_ (ax_leS (ax_leS (ax_leS (ax_leS (ax_leN ax_leE)))))
      exact H
    · have H := H.2 c4
      refine r_iload dX5_countThrough_66 rfl ?_
      refine r_sipush (v := 1024) dX5_countThrough_68 (by decide) ?_
      refine r_icmp_ge (tgt := 112) dX5_countThrough_71 (by decide) (hI3 _ _) (by decide) (fun c5 => ?_) (fun c5 => ?_)
      · have H := H.1 c5
        refine r_iinc dX5_countThrough_112 (by decide) rfl rfl ?_
        refine r_goto (tgt := 46) dX5_countThrough_115 (by decide) ?_
        refine r_drop (ls2 := [some (ax_r 10), some (ax_r 1), some (ax_i x2), some (ax_i (x3 + 1)), none]) ?_ (ax_leS (ax_leS (ax_leS (ax_leS (ax_leN ax_leE)))))
        exact H
      · have H := H.2 c5
        refine r_aload_n dX5_countThrough_74 rfl ?_
        refine r_getR clX5 2 (by decide) s0_10 rfl rfl wX5_18 dX5_countThrough_75 ?_
        refine r_iload dX5_countThrough_78 rfl ?_
        have ob6 := H.1
        have H := H.2
        refine r_iald s0_13 (by decide) dX5_countThrough_80 ob6 ?_
        refine r_if_ne (tgt := 112) dX5_countThrough_81 (by decide) (hI3 _ _) (fun c7 => ?_) (fun c7 => ?_)
        · have H := H.1 c7
          refine r_iinc dX5_countThrough_112 (by decide) rfl rfl ?_
          refine r_goto (tgt := 46) dX5_countThrough_115 (by decide) ?_
          refine r_drop (ls2 := [some (ax_r 10), some (ax_r 1), some (ax_i x2), some (ax_i (x3 + 1)), none]) ?_ (ax_leS (ax_leS (ax_leS (ax_leS (ax_leN ax_leE)))))
          exact H
        · have H := H.2 c7
          refine r_aload_n dX5_countThrough_84 rfl ?_
          refine r_iload_n dX5_countThrough_85 rfl ?_
          refine r_iload_n dX5_countThrough_86 rfl ?_
          refine r_cI (as := [ax_r 1, ax_i x3, ax_i x2]) (how_V (ci := 1) jX1_keeps jIX1_keeps jVX1_keeps rfl s0_1 (by decide) rfl rfl wX5_43 dX5_countThrough_87) rfl (Nat.le_refl _) (Nat.le_of_ble_eq_true rfl) (fun _ => Nat.le_of_ble_eq_true rfl) H (fun w9 I8 H => ?_)
          have ob10 := H.1
          have H := H.2
          refine r_if_eq (tgt := 112) dX5_countThrough_90 (by decide) ob10 (fun c11 => ?_) (fun c11 => ?_)
          · have H := H.1 c11
            refine r_iinc dX5_countThrough_112 (by decide) rfl rfl ?_
            refine r_goto (tgt := 46) dX5_countThrough_115 (by decide) ?_
            refine r_drop (ls2 := [some (ax_r 10), some (ax_r 1), some (ax_i x2), some (ax_i (x3 + 1)), none]) ?_ (ax_leS (ax_leS (ax_leS (ax_leS (ax_leN ax_leE)))))
            exact H
          · have H := H.2 c11
            refine r_aload_n dX5_countThrough_93 rfl ?_
            refine r_getR clX5 2 (by decide) s0_10 rfl rfl wX5_18 dX5_countThrough_94 ?_
            refine r_iload dX5_countThrough_97 rfl ?_
            refine r_iconst dX5_countThrough_99 ?_
            refine r_iast s0_13 (by decide) dX5_countThrough_100 ob6 (by decide) ?_
            refine r_aload_n dX5_countThrough_101 rfl ?_
            refine r_aload_n dX5_countThrough_102 rfl ?_
            refine r_getR clX5 1 (by decide) s0_10 rfl rfl wX5_15 dX5_countThrough_103 ?_
            refine r_iload dX5_countThrough_106 rfl ?_
            refine r_iald s0_12 (by decide) dX5_countThrough_108 ob6 ?_
            refine r_cV (as := [ax_r 10, ax_i ((ax_st I8 13 (I 11 x3) 1) 12 (I 11 x3))]) (how_V (ci := 5) jX5_tallyOne jIX5_tallyOne jVX5_tallyOne rfl s0_10 (by decide) rfl rfl wX5_47 dX5_countThrough_109) rfl (Nat.le_refl _) (Nat.le_of_ble_eq_true rfl) (fun _ => Nat.le_of_ble_eq_true rfl) H (fun I12 H => ?_)
            refine r_iinc dX5_countThrough_112 (by decide) rfl rfl ?_
            refine r_goto (tgt := 46) dX5_countThrough_115 (by decide) ?_
            refine r_drop (ls2 := [some (ax_r 10), some (ax_r 1), some (ax_i x2), some (ax_i (x3 + 1)), none]) ?_ (ax_leS (ax_leS (ax_leS (ax_leS (ax_leN ax_leE)))))
            exact H

theorem vX5_tallyOne_0 {d : Nat} {Q : ax_H → Prop} {x1 : Int} {I : ax_H} (r1 : ax_R x1) (H :
  (x1 < 0 →
    Q I) ∧
  (¬ x1 < 0 →
    (1024 < x1 →
      Q I) ∧
    (¬ 1024 < x1 →
      (0 ≤ x1 ∧ x1 < 1025) ∧
      (ax_R ((I 14 x1) + 1) ∧
      (Q (ax_st I 14 x1 ((I 14 x1) + 1))))))) :
  RV d kX5_tallyOne 0 [some (ax_r 10), some (ax_i x1)] I Q := by
  show Rn _ _ _ _ _ _ _ _
  refine r_iload_n dX5_tallyOne_0 rfl ?_
  refine r_if_lt (tgt := 21) dX5_tallyOne_1 (by decide) r1 (fun c1 => ?_) (fun c1 => ?_)
  · have H := H.1 c1
    exact r_vret dX5_tallyOne_21 rfl ⟨rfl, rfl, H⟩
  · have H := H.2 c1
    refine r_iload_n dX5_tallyOne_4 rfl ?_
    refine r_sipush (v := 1024) dX5_tallyOne_5 (by decide) ?_
    refine r_icmp_gt (tgt := 21) dX5_tallyOne_8 (by decide) r1 (by decide) (fun c2 => ?_) (fun c2 => ?_)
    · have H := H.1 c2
      exact r_vret dX5_tallyOne_21 rfl ⟨rfl, rfl, H⟩
    · have H := H.2 c2
      refine r_aload_n dX5_tallyOne_11 rfl ?_
      refine r_getR clX5 3 (by decide) s0_10 rfl rfl wX5_21 dX5_tallyOne_12 ?_
      refine r_iload_n dX5_tallyOne_15 rfl ?_
      refine r_dup2 dX5_tallyOne_16 (fun _ => rfl) (fun _ => rfl) ?_
      have ob3 := H.1
      have H := H.2
      refine r_iald s0_14 (by decide) dX5_tallyOne_17 ob3 ?_
      refine r_iconst dX5_tallyOne_18 ?_
      refine r_iadd dX5_tallyOne_19 ?_
      have ob4 := H.1
      have H := H.2
      refine r_iast s0_14 (by decide) dX5_tallyOne_20 ob3 ob4 ?_
      exact r_vret dX5_tallyOne_21 rfl ⟨rfl, rfl, H⟩

theorem vX5_total_0 {d : Nat} {Q : Int → ax_H → Prop} {x1 : Int} {I : ax_H} (H :
  RI d kX5_total 4 [some (ax_r 10), some (ax_i x1), some (ax_i 0), some (ax_i 1)] I Q) :
  RI d kX5_total 0 [some (ax_r 10), some (ax_i x1), none, none] I Q := by
  show Rn _ _ _ _ _ _ _ _
  refine r_iconst dX5_total_0 ?_
  refine r_istore_n dX5_total_1 (by decide) rfl ?_
  refine r_iconst dX5_total_2 ?_
  refine r_istore_n dX5_total_3 (by decide) rfl ?_
  exact H

theorem vX5_total_4 {d : Nat} {Q : Int → ax_H → Prop} {x1 : Int} {x2 : Int} {x3 : Int} {I : ax_H} (r1 : ax_R x1) (r3 : ax_R x3) (H :
  (1024 < x3 →
    Q x2 I) ∧
  (¬ 1024 < x3 →
    (0 ≤ x3 ∧ x3 < 1025) ∧
    (((I 14 x3) ≤ 0 →
      RI d kX5_total 4 [some (ax_r 10), some (ax_i x1), some (ax_i x2), some (ax_i (x3 + 1))] I Q) ∧
    (¬ (I 14 x3) ≤ 0 →
      (x1 ≠ 0 →
        (x1 ≠ 1 →
          ∀ y2_52, y2_52 = (x2 + 1) →
          (RI d kX5_total 4 [some (ax_r 10), some (ax_i x1), some (ax_i y2_52), some (ax_i (x3 + 1))] I Q)) ∧
        (x1 = 1 →
          ∀ y2_52, y2_52 = (x2 + ((I 14 x3) * x3)) →
          (RI d kX5_total 4 [some (ax_r 10), some (ax_i x1), some (ax_i y2_52), some (ax_i (x3 + 1))] I Q))) ∧
      (x1 = 0 →
        ∀ y2_52, y2_52 = (x2 + (I 14 x3)) →
        (RI d kX5_total 4 [some (ax_r 10), some (ax_i x1), some (ax_i y2_52), some (ax_i (x3 + 1))] I Q)))))) :
  RI d kX5_total 4 [some (ax_r 10), some (ax_i x1), some (ax_i x2), some (ax_i x3)] I Q := by
  show Rn _ _ _ _ _ _ _ _
  refine r_iload_n dX5_total_4 rfl ?_
  refine r_sipush (v := 1024) dX5_total_5 (by decide) ?_
  refine r_icmp_gt (tgt := 59) dX5_total_8 (by decide) r3 (by decide) (fun c1 => ?_) (fun c1 => ?_)
  · have H := H.1 c1
    refine r_iload_n dX5_total_59 rfl ?_
    exact r_iret dX5_total_60 rfl ⟨rfl, _, rfl, H⟩
  · have H := H.2 c1
    refine r_aload_n dX5_total_11 rfl ?_
    refine r_getR clX5 3 (by decide) s0_10 rfl rfl wX5_21 dX5_total_12 ?_
    refine r_iload_n dX5_total_15 rfl ?_
    have ob2 := H.1
    have H := H.2
    refine r_iald s0_14 (by decide) dX5_total_16 ob2 ?_
    refine r_heapR (fun hI3 => ?_)
    refine r_if_le (tgt := 53) dX5_total_17 (by decide) (hI3 _ _) (fun c4 => ?_) (fun c4 => ?_)
    · have H := H.1 c4
      refine r_iinc dX5_total_53 (by decide) rfl rfl ?_
      refine r_goto (tgt := 4) dX5_total_56 (by decide) ?_
      exact H
    · have H := H.2 c4
      refine r_iload_n dX5_total_20 rfl ?_
      refine r_iload_n dX5_total_21 rfl ?_
      refine r_if_ne (tgt := 34) dX5_total_22 (by decide) r1 (fun c5 => ?_) (fun c5 => ?_)
      · have H := H.1 c5
        refine r_iload_n dX5_total_34 rfl ?_
        refine r_iconst dX5_total_35 ?_
        refine r_icmp_ne (tgt := 50) dX5_total_36 (by decide) r1 (by decide) (fun c6 => ?_) (fun c6 => ?_)
        · have H := H.1 c6
          refine r_iconst dX5_total_50 ?_
          refine r_iadd dX5_total_51 ?_
          refine r_name (fun y2_52 e7 => ?_)
          have H := H y2_52 e7
          refine r_istore_n dX5_total_52 (by decide) rfl ?_
          refine r_iinc dX5_total_53 (by decide) rfl rfl ?_
          refine r_goto (tgt := 4) dX5_total_56 (by decide) ?_
          exact H
        · have H := H.2 c6
          refine r_aload_n dX5_total_39 rfl ?_
          refine r_getR clX5 3 (by decide) s0_10 rfl rfl wX5_21 dX5_total_40 ?_
          refine r_iload_n dX5_total_43 rfl ?_
          refine r_iald s0_14 (by decide) dX5_total_44 ob2 ?_
          refine r_iload_n dX5_total_45 rfl ?_
          refine r_imul dX5_total_46 ?_
          refine r_goto (tgt := 51) dX5_total_47 (by decide) ?_
          refine r_iadd dX5_total_51 ?_
          refine r_name (fun y2_52 e8 => ?_)
          have H := H y2_52 e8
          refine r_istore_n dX5_total_52 (by decide) rfl ?_
          refine r_iinc dX5_total_53 (by decide) rfl rfl ?_
          refine r_goto (tgt := 4) dX5_total_56 (by decide) ?_
          exact H
      · have H := H.2 c5
        refine r_aload_n dX5_total_25 rfl ?_
        refine r_getR clX5 3 (by decide) s0_10 rfl rfl wX5_21 dX5_total_26 ?_
        refine r_iload_n dX5_total_29 rfl ?_
        refine r_iald s0_14 (by decide) dX5_total_30 ob2 ?_
        refine r_goto (tgt := 51) dX5_total_31 (by decide) ?_
        refine r_iadd dX5_total_51 ?_
        refine r_name (fun y2_52 e9 => ?_)
        have H := H y2_52 e9
        refine r_istore_n dX5_total_52 (by decide) rfl ?_
        refine r_iinc dX5_total_53 (by decide) rfl rfl ?_
        refine r_goto (tgt := 4) dX5_total_56 (by decide) ?_
        exact H

theorem vX5_ofLength_0 {d : Nat} {Q : Int → ax_H → Prop} {x1 : Int} {I : ax_H} (r1 : ax_R x1) (H :
  (50 ≤ x1 →
    ∀ y3_27, y3_27 = (x1 - 50) →
    (RI d kX5_ofLength 34 [some (ax_r 10), none, some (ax_i 0), some (ax_i y3_27), some (ax_i 0), some (ax_i 1)] I Q)) ∧
  (¬ 50 ≤ x1 →
    ∀ y3_27, y3_27 = (x1 - 10) →
    (RI d kX5_ofLength 34 [some (ax_r 10), none, some (ax_i 1), some (ax_i y3_27), some (ax_i 0), some (ax_i 1)] I Q))) :
  RI d kX5_ofLength 0 [some (ax_r 10), some (ax_i x1), none, none, none, none] I Q := by
  show Rn _ _ _ _ _ _ _ _
  refine r_iload_n dX5_ofLength_0 rfl ?_
  refine r_bipush (v := 50) dX5_ofLength_1 (by decide) ?_
  refine r_icmp_ge (tgt := 10) dX5_ofLength_3 (by decide) r1 (by decide) (fun c1 => ?_) (fun c1 => ?_)
  · have H := H.1 c1
    refine r_iconst dX5_ofLength_10 ?_
    refine r_istore_n dX5_ofLength_11 (by decide) rfl ?_
    refine r_iload_n dX5_ofLength_12 rfl ?_
    refine r_if_eq (tgt := 23) dX5_ofLength_13 (by decide) (by decide) (fun c2 => ?_) (fun c2 => absurd c2 (by decide))
    refine r_iload_n dX5_ofLength_23 rfl ?_
    refine r_bipush (v := 50) dX5_ofLength_24 (by decide) ?_
    refine r_isub dX5_ofLength_26 ?_
    refine r_name (fun y3_27 e3 => ?_)
    have H := H y3_27 e3
    refine r_istore_n dX5_ofLength_27 (by decide) rfl ?_
    refine r_iconst dX5_ofLength_28 ?_
    refine r_istore dX5_ofLength_29 (by decide) rfl ?_
    refine r_iconst dX5_ofLength_31 ?_
    refine r_istore dX5_ofLength_32 (by decide) rfl ?_
    refine r_drop (ls2 := [some (ax_r 10), none, some (ax_i 0), some (ax_i y3_27), some (ax_i 0), some (ax_i 1)]) ?_ (ax_leS (ax_leN (ax_leS (ax_leS (ax_leS (ax_leS ax_leE))))))
    exact H
  · have H := H.2 c1
    refine r_iconst dX5_ofLength_6 ?_
    refine r_goto (tgt := 11) dX5_ofLength_7 (by decide) ?_
    refine r_istore_n dX5_ofLength_11 (by decide) rfl ?_
    refine r_iload_n dX5_ofLength_12 rfl ?_
    refine r_if_eq (tgt := 23) dX5_ofLength_13 (by decide) (by decide) (fun c4 => absurd c4 (by decide)) (fun c4 => ?_)
    refine r_iload_n dX5_ofLength_16 rfl ?_
    refine r_bipush (v := 10) dX5_ofLength_17 (by decide) ?_
    refine r_isub dX5_ofLength_19 ?_
    refine r_goto (tgt := 27) dX5_ofLength_20 (by decide) ?_
    refine r_name (fun y3_27 e5 => ?_)
    have H := H y3_27 e5
    refine r_istore_n dX5_ofLength_27 (by decide) rfl ?_
    refine r_iconst dX5_ofLength_28 ?_
    refine r_istore dX5_ofLength_29 (by decide) rfl ?_
    refine r_iconst dX5_ofLength_31 ?_
    refine r_istore dX5_ofLength_32 (by decide) rfl ?_
    refine r_drop (ls2 := [some (ax_r 10), none, some (ax_i 1), some (ax_i y3_27), some (ax_i 0), some (ax_i 1)]) ?_ (ax_leS (ax_leN (ax_leS (ax_leS (ax_leS (ax_leS ax_leE))))))
    exact H

theorem vX5_ofLength_34 {d : Nat} {Q : Int → ax_H → Prop} {x2 : Int} {x3 : Int} {x4 : Int} {x5 : Int} {I : ax_H} (r2 : ax_R x2) (r3 : ax_R x3) (r4 : ax_R x4) (r5 : ax_R x5) (H :
  (1024 < x5 →
    Q (-5) I) ∧
  (¬ 1024 < x5 →
    (0 ≤ x5 ∧ x5 < 1025) ∧
    (((I 14 x5) ≤ 0 →
      RI d kX5_ofLength 34 [some (ax_r 10), none, some (ax_i x2), some (ax_i x3), some (ax_i x4), some (ax_i (x5 + 1))] I Q) ∧
    (¬ (I 14 x5) ≤ 0 →
      (x4 ≠ x3 →
        RI d kX5_ofLength 34 [some (ax_r 10), none, some (ax_i x2), some (ax_i x3), some (ax_i (x4 + 1)), some (ax_i (x5 + 1))] I Q) ∧
      (x4 = x3 →
        (x2 = 0 →
          Q (I 14 x5) I) ∧
        (¬ x2 = 0 →
          Q x5 I)))))) :
  RI d kX5_ofLength 34 [some (ax_r 10), none, some (ax_i x2), some (ax_i x3), some (ax_i x4), some (ax_i x5)] I Q := by
  show Rn _ _ _ _ _ _ _ _
  refine r_iload dX5_ofLength_34 rfl ?_
  refine r_sipush (v := 1024) dX5_ofLength_36 (by decide) ?_
  refine r_icmp_gt (tgt := 84) dX5_ofLength_39 (by decide) r5 (by decide) (fun c1 => ?_) (fun c1 => ?_)
  · have H := H.1 c1
    refine r_bipush (v := (-5)) dX5_ofLength_84 (by decide) ?_
    exact r_iret dX5_ofLength_86 rfl ⟨rfl, _, rfl, H⟩
  · have H := H.2 c1
    refine r_aload_n dX5_ofLength_42 rfl ?_
    refine r_getR clX5 3 (by decide) s0_10 rfl rfl wX5_21 dX5_ofLength_43 ?_
    refine r_iload dX5_ofLength_46 rfl ?_
    have ob2 := H.1
    have H := H.2
    refine r_iald s0_14 (by decide) dX5_ofLength_48 ob2 ?_
    refine r_heapR (fun hI3 => ?_)
    refine r_if_le (tgt := 78) dX5_ofLength_49 (by decide) (hI3 _ _) (fun c4 => ?_) (fun c4 => ?_)
    · have H := H.1 c4
      refine r_iinc dX5_ofLength_78 (by decide) rfl rfl ?_
      refine r_goto (tgt := 34) dX5_ofLength_81 (by decide) ?_
      exact H
    · have H := H.2 c4
      refine r_iload dX5_ofLength_52 rfl ?_
      refine r_iload_n dX5_ofLength_54 rfl ?_
      refine r_icmp_ne (tgt := 75) dX5_ofLength_55 (by decide) r4 r3 (fun c5 => ?_) (fun c5 => ?_)
      · have H := H.1 c5
        refine r_iinc dX5_ofLength_75 (by decide) rfl rfl ?_
        refine r_iinc dX5_ofLength_78 (by decide) rfl rfl ?_
        refine r_goto (tgt := 34) dX5_ofLength_81 (by decide) ?_
        exact H
      · have H := H.2 c5
        refine r_iload_n dX5_ofLength_58 rfl ?_
        refine r_if_eq (tgt := 67) dX5_ofLength_59 (by decide) r2 (fun c6 => ?_) (fun c6 => ?_)
        · have H := H.1 c6
          refine r_aload_n dX5_ofLength_67 rfl ?_
          refine r_getR clX5 3 (by decide) s0_10 rfl rfl wX5_21 dX5_ofLength_68 ?_
          refine r_iload dX5_ofLength_71 rfl ?_
          refine r_iald s0_14 (by decide) dX5_ofLength_73 ob2 ?_
          exact r_iret dX5_ofLength_74 rfl ⟨rfl, _, rfl, H⟩
        · have H := H.2 c6
          refine r_iload dX5_ofLength_62 rfl ?_
          refine r_goto (tgt := 74) dX5_ofLength_64 (by decide) ?_
          exact r_iret dX5_ofLength_74 rfl ⟨rfl, _, rfl, H⟩
