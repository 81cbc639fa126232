theorem vX2_behindSteps_0 {d : Nat} {Q : Int → ax_H → Prop} {a1 : Nat} {x2 : Int} {x3 : Int} {x4 : Int} {I : ax_H} (h1 : isT a1) (H :
  cV (d + 4) kX7_becomeUnknown [ax_r 17] I (fun I1 =>
  cV (d + 4) kX7_becomeNumber [ax_r 19, ax_i 1] I1 (fun I2 =>
  cV (d + 4) kX7_becomeNumber [ax_r 22, ax_i x3] I2 (fun I3 =>
  cV (d + 4) kX7_becomeNumber [ax_r 24, ax_i 1] I3 (fun I4 =>
  RI (d + 5) kX2_behindSteps 46 [some (ax_r 15), some (ax_r a1), some (ax_i x2), none, some (ax_i x4), some (ax_i 0)] I4 Q))))) :
  RI (d + 5) kX2_behindSteps 0 [some (ax_r 15), some (ax_r a1), some (ax_i x2), some (ax_i x3), some (ax_i x4), none] I Q := by
  show Rn _ _ _ _ _ _ _ _
  refine r_aload_n dX2_behindSteps_0 rfl ?_
  refine r_getR clX2 0 (by decide) s0_15 rfl rfl wX2_12 dX2_behindSteps_1 ?_
  refine r_getR clX3 0 (by decide) s0_16 rfl rfl wX2_59 dX2_behindSteps_4 ?_
  refine r_cV (as := [ax_r 17]) (how_V (ci := 7) jX7_becomeUnknown jIX7_becomeUnknown jVX7_becomeUnknown rfl s0_17 (by decide) rfl rfl wX2_61 dX2_behindSteps_7) rfl (Nat.le_refl _) (Nat.le_of_ble_eq_true rfl) (fun _ => Nat.le_of_ble_eq_true rfl) H (fun I1 H => ?_)
  refine r_aload_n dX2_behindSteps_10 rfl ?_
  refine r_getR clX2 0 (by decide) s0_15 rfl rfl wX2_12 dX2_behindSteps_11 ?_
  refine r_getR clX3 1 (by decide) s0_16 rfl rfl wX2_64 dX2_behindSteps_14 ?_
  refine r_iconst dX2_behindSteps_17 ?_
  refine r_cV (as := [ax_r 19, ax_i 1]) (how_V (ci := 7) jX7_becomeNumber jIX7_becomeNumber jVX7_becomeNumber rfl s0_19 (by decide) rfl rfl wX2_66 dX2_behindSteps_18) rfl (Nat.le_refl _) (Nat.le_of_ble_eq_true rfl) (fun _ => Nat.le_of_ble_eq_true rfl) H (fun I2 H => ?_)
  refine r_aload_n dX2_behindSteps_21 rfl ?_
  refine r_getR clX2 1 (by decide) s0_15 rfl rfl wX2_18 dX2_behindSteps_22 ?_
  refine r_getR clX3 0 (by decide) s0_21 rfl rfl wX2_59 dX2_behindSteps_25 ?_
  refine r_iload_n dX2_behindSteps_28 rfl ?_
  refine r_cV (as := [ax_r 22, ax_i x3]) (how_V (ci := 7) jX7_becomeNumber jIX7_becomeNumber jVX7_becomeNumber rfl s0_22 (by decide) rfl rfl wX2_66 dX2_behindSteps_29) rfl (Nat.le_refl _) (Nat.le_of_ble_eq_true rfl) (fun _ => Nat.le_of_ble_eq_true rfl) H (fun I3 H => ?_)
  refine r_aload_n dX2_behindSteps_32 rfl ?_
  refine r_getR clX2 1 (by decide) s0_15 rfl rfl wX2_18 dX2_behindSteps_33 ?_
  refine r_getR clX3 1 (by decide) s0_21 rfl rfl wX2_64 dX2_behindSteps_36 ?_
  refine r_iconst dX2_behindSteps_39 ?_
  refine r_cV (as := [ax_r 24, ax_i 1]) (how_V (ci := 7) jX7_becomeNumber jIX7_becomeNumber jVX7_becomeNumber rfl s0_24 (by decide) rfl rfl wX2_66 dX2_behindSteps_40) rfl (Nat.le_refl _) (Nat.le_of_ble_eq_true rfl) (fun _ => Nat.le_of_ble_eq_true rfl) H (fun I4 H => ?_)
  refine r_iconst dX2_behindSteps_43 ?_
  refine r_istore dX2_behindSteps_44 (by decide) rfl ?_
  refine r_drop (ls2 := [some (ax_r 15), some (ax_r a1), some (ax_i x2), none, some (ax_i x4), some (ax_i 0)]) ?_ (ax_leS (ax_leS (ax_leS (ax_leN (ax_leS (ax_leS ax_leE))))))
  exact H

theorem vX2_behindSteps_46 {d : Nat} {Q : Int → ax_H → Prop} {a1 : Nat} {x2 : Int} {x4 : Int} {x5 : Int} {I : ax_H} (h1 : isT a1) (r2 : ax_R x2) (r4 : ax_R x4) (r5 : ax_R x5) (H :
  (x2 ≤ x5 →
    (x4 ≠ 0 →
      cI (d + 4) kX3_ofDegree [ax_r 21] I (fun w4 I3 =>
      Q w4 I3)) ∧
    (x4 = 0 →
      cI (d + 4) kX3_ofDegree [ax_r 16] I (fun w6 I5 =>
      Q w6 I5))) ∧
  (¬ x2 ≤ x5 →
    cI (d + 4) kX2_swaps [ax_r 15, ax_r a1, ax_i 0, ax_r 16, ax_r 21] I (fun w8 I7 =>
    ax_R w8 ∧
    ((w8 = 0 →
      Q (-7) I7) ∧
    (¬ w8 = 0 →
      cI (d + 4) kX2_swaps [ax_r 15, ax_r a1, ax_i 1, ax_r 21, ax_r 16] I7 (fun w12 I11 =>
      ax_R w12 ∧
      ((w12 ≠ 0 →
        RI (d + 5) kX2_behindSteps 46 [some (ax_r 15), some (ax_r a1), some (ax_i x2), none, some (ax_i x4), some (ax_i (x5 + 1))] I11 Q) ∧
      (w12 = 0 →
        Q (-7) I11)))))))) :
  RI (d + 5) kX2_behindSteps 46 [some (ax_r 15), some (ax_r a1), some (ax_i x2), none, some (ax_i x4), some (ax_i x5)] I Q := by
  show Rn _ _ _ _ _ _ _ _
  refine r_iload dX2_behindSteps_46 rfl ?_
  refine r_iload_n dX2_behindSteps_48 rfl ?_
  refine r_icmp_ge (tgt := 95) dX2_behindSteps_49 (by decide) r5 r2 (fun c1 => ?_) (fun c1 => ?_)
  · have H := H.1 c1
    refine r_iload dX2_behindSteps_95 rfl ?_
    refine r_if_ne (tgt := 110) dX2_behindSteps_97 (by decide) r4 (fun c2 => ?_) (fun c2 => ?_)
    · have H := H.1 c2
      refine r_aload_n dX2_behindSteps_110 rfl ?_
      refine r_getR clX2 1 (by decide) s0_15 rfl rfl wX2_18 dX2_behindSteps_111 ?_
      refine r_cI (as := [ax_r 21]) (how_V (ci := 3) jX3_ofDegree jIX3_ofDegree jVX3_ofDegree rfl s0_21 (by decide) rfl rfl wX2_74 dX2_behindSteps_114) rfl (Nat.le_refl _) (Nat.le_of_ble_eq_true rfl) (fun _ => Nat.le_of_ble_eq_true rfl) H (fun w4 I3 H => ?_)
      exact r_iret dX2_behindSteps_117 rfl ⟨rfl, _, rfl, H⟩
    · have H := H.2 c2
      refine r_aload_n dX2_behindSteps_100 rfl ?_
      refine r_getR clX2 0 (by decide) s0_15 rfl rfl wX2_12 dX2_behindSteps_101 ?_
      refine r_cI (as := [ax_r 16]) (how_V (ci := 3) jX3_ofDegree jIX3_ofDegree jVX3_ofDegree rfl s0_16 (by decide) rfl rfl wX2_74 dX2_behindSteps_104) rfl (Nat.le_refl _) (Nat.le_of_ble_eq_true rfl) (fun _ => Nat.le_of_ble_eq_true rfl) H (fun w6 I5 H => ?_)
      refine r_goto (tgt := 117) dX2_behindSteps_107 (by decide) ?_
      exact r_iret dX2_behindSteps_117 rfl ⟨rfl, _, rfl, H⟩
  · have H := H.2 c1
    refine r_aload_n dX2_behindSteps_52 rfl ?_
    refine r_aload_n dX2_behindSteps_53 rfl ?_
    refine r_iconst dX2_behindSteps_54 ?_
    refine r_aload_n dX2_behindSteps_55 rfl ?_
    refine r_getR clX2 0 (by decide) s0_15 rfl rfl wX2_12 dX2_behindSteps_56 ?_
    refine r_aload_n dX2_behindSteps_59 rfl ?_
    refine r_getR clX2 1 (by decide) s0_15 rfl rfl wX2_18 dX2_behindSteps_60 ?_
    refine r_cI (as := [ax_r 15, ax_r a1, ax_i 0, ax_r 16, ax_r 21]) (how_V (ci := 2) jX2_swaps jIX2_swaps jVX2_swaps rfl s0_15 (by decide) rfl rfl wX2_70 dX2_behindSteps_63) rfl (Nat.le_refl _) (Nat.le_of_ble_eq_true rfl) (fun _ => Nat.le_of_ble_eq_true rfl) H (fun w8 I7 H => ?_)
    have ob9 := H.1
    have H := H.2
    refine r_if_eq (tgt := 86) dX2_behindSteps_66 (by decide) ob9 (fun c10 => ?_) (fun c10 => ?_)
    · have H := H.1 c10
      refine r_bipush (v := (-7)) dX2_behindSteps_86 (by decide) ?_
      exact r_iret dX2_behindSteps_88 rfl ⟨rfl, _, rfl, H⟩
    · have H := H.2 c10
      refine r_aload_n dX2_behindSteps_69 rfl ?_
      refine r_aload_n dX2_behindSteps_70 rfl ?_
      refine r_iconst dX2_behindSteps_71 ?_
      refine r_aload_n dX2_behindSteps_72 rfl ?_
      refine r_getR clX2 1 (by decide) s0_15 rfl rfl wX2_18 dX2_behindSteps_73 ?_
      refine r_aload_n dX2_behindSteps_76 rfl ?_
      refine r_getR clX2 0 (by decide) s0_15 rfl rfl wX2_12 dX2_behindSteps_77 ?_
      refine r_cI (as := [ax_r 15, ax_r a1, ax_i 1, ax_r 21, ax_r 16]) (how_V (ci := 2) jX2_swaps jIX2_swaps jVX2_swaps rfl s0_15 (by decide) rfl rfl wX2_70 dX2_behindSteps_80) rfl (Nat.le_refl _) (Nat.le_of_ble_eq_true rfl) (fun _ => Nat.le_of_ble_eq_true rfl) H (fun w12 I11 H => ?_)
      have ob13 := H.1
      have H := H.2
      refine r_if_ne (tgt := 89) dX2_behindSteps_83 (by decide) ob13 (fun c14 => ?_) (fun c14 => ?_)
      · have H := H.1 c14
        refine r_iinc dX2_behindSteps_89 (by decide) rfl rfl ?_
        refine r_goto (tgt := 46) dX2_behindSteps_92 (by decide) ?_
        exact H
      · have H := H.2 c14
        refine r_bipush (v := (-7)) dX2_behindSteps_86 (by decide) ?_
        exact r_iret dX2_behindSteps_88 rfl ⟨rfl, _, rfl, H⟩

theorem vX2_swaps_0 {d : Nat} {Q : Int → ax_H → Prop} {a1 : Nat} {x2 : Int} {a3 : Nat} {a4 : Nat} {I : ax_H} (h1 : isT a1) (h3 : isFr a3) (h4 : isFr a4) (H :
  cV (d + 3) kX2_readSquares [ax_r 15, ax_r a4] I (fun I1 =>
  RI (d + 4) kX2_swaps 9 [some (ax_r 15), some (ax_r a1), some (ax_i x2), some (ax_r a3), none, some (ax_i 0)] I1 Q)) :
  RI (d + 4) kX2_swaps 0 [some (ax_r 15), some (ax_r a1), some (ax_i x2), some (ax_r a3), some (ax_r a4), none] I Q := by
  show Rn _ _ _ _ _ _ _ _
  refine r_aload_n dX2_swaps_0 rfl ?_
  refine r_aload dX2_swaps_1 rfl ?_
  refine r_cV (as := [ax_r 15, ax_r a4]) (how_V (ci := 2) jX2_readSquares jIX2_readSquares jVX2_readSquares rfl s0_15 (by decide) rfl rfl wX2_78 dX2_swaps_3) rfl (Nat.le_refl _) (Nat.le_of_ble_eq_true rfl) (fun _ => Nat.le_of_ble_eq_true rfl) H (fun I1 H => ?_)
  refine r_iconst dX2_swaps_6 ?_
  refine r_istore dX2_swaps_7 (by decide) rfl ?_
  refine r_drop (ls2 := [some (ax_r 15), some (ax_r a1), some (ax_i x2), some (ax_r a3), none, some (ax_i 0)]) ?_ (ax_leS (ax_leS (ax_leS (ax_leS (ax_leN (ax_leS ax_leE))))))
  exact H

theorem vX2_swaps_9 {d : Nat} {Q : Int → ax_H → Prop} {a1 : Nat} {x2 : Int} {a3 : Nat} {x5 : Int} {I : ax_H} (h1 : isT a1) (h3 : isFr a3) (r5 : ax_R x5) (H :
  (3 ≤ x5 →
    cV (d + 3) kX2_readCross [ax_r 15, ax_r 47, ax_i 2, ax_i 1] I (fun I2 =>
    cV (d + 3) kX2_readCross [ax_r 15, ax_r 49, ax_i 2, ax_i 0] I2 (fun I3 =>
    cV (d + 3) kX2_readCross [ax_r 15, ax_r 51, ax_i 1, ax_i 0] I3 (fun I4 =>
    cV (d + 3) kX7_clear [ax_r 53] I4 (fun I5 =>
    cV (d + 3) kX7_addProduct [ax_r 53, ax_r 49, ax_r (a3 + 1), ax_i (-1)] I5 (fun I6 =>
    cV (d + 3) kX7_addProduct [ax_r 53, ax_r 51, ax_r (a3 + 3), ax_i (-1)] I6 (fun I7 =>
    cV (d + 3) kX7_clear [ax_r 55] I7 (fun I8 =>
    cV (d + 3) kX7_addProduct [ax_r 55, ax_r 47, ax_r (a3 + 1), ax_i 1] I8 (fun I9 =>
    cV (d + 3) kX7_addProduct [ax_r 55, ax_r 49, ax_r (a3 + 3), ax_i 1] I9 (fun I10 =>
    cI (d + 3) kX7_isZero [ax_r 53] I10 (fun w12 I11 =>
    ax_R w12 ∧
    ((w12 = 0 →
      cA (d + 3) kX2_commonFactor [ax_r 15] I11 (fun q16 I15 =>
      isPo q16 ∧ cV (d + 3) kX7_divide [ax_r 53, ax_r q16, ax_r (a3 + 1)] I15 (fun I18 =>
      cV (d + 3) kX7_divide [ax_r 55, ax_r q16, ax_r (a3 + 3)] I18 (fun I19 =>
      Q 1 I19)))) ∧
    (¬ w12 = 0 →
      cI (d + 3) kX7_isZero [ax_r 55] I11 (fun w21 I20 =>
      ax_R w21 ∧
      ((w21 = 0 →
        cA (d + 3) kX2_commonFactor [ax_r 15] I20 (fun q25 I24 =>
        isPo q25 ∧ cV (d + 3) kX7_divide [ax_r 53, ax_r q25, ax_r (a3 + 1)] I24 (fun I27 =>
        cV (d + 3) kX7_divide [ax_r 55, ax_r q25, ax_r (a3 + 3)] I27 (fun I28 =>
        Q 1 I28)))) ∧
      (¬ w21 = 0 →
        Q 0 I20)))))))))))))))) ∧
  (¬ 3 ≤ x5 →
    (0 ≤ x5 ∧ x5 < 3) ∧
    (∀ b30, b30 = (34 + 2 * (x5).toNat) → isPo b30 →
    (cV (d + 3) kX2_readRow [ax_r 15, ax_r b30, ax_r a1, ax_i x2, ax_i 0, ax_i x5] I (fun I32 =>
    ∀ b33, b33 = (41 + 2 * (x5).toNat) → isPo b33 →
    (cV (d + 3) kX2_readRow [ax_r 15, ax_r b33, ax_r a1, ax_i x2, ax_i 1, ax_i x5] I32 (fun I35 =>
    RI (d + 4) kX2_swaps 9 [some (ax_r 15), some (ax_r a1), some (ax_i x2), some (ax_r a3), none, some (ax_i (x5 + 1))] I35 Q))))))) :
  RI (d + 4) kX2_swaps 9 [some (ax_r 15), some (ax_r a1), some (ax_i x2), some (ax_r a3), none, some (ax_i x5)] I Q := by
  show Rn _ _ _ _ _ _ _ _
  refine r_iload dX2_swaps_9 rfl ?_
  refine r_iconst dX2_swaps_11 ?_
  refine r_icmp_ge (tgt := 53) dX2_swaps_12 (by decide) r5 (by decide) (fun c1 => ?_) (fun c1 => ?_)
  · have H := H.1 c1
    refine r_aload_n dX2_swaps_53 rfl ?_
    refine r_aload_n dX2_swaps_54 rfl ?_
    refine r_getR clX2 5 (by decide) s0_15 rfl rfl wX2_34 dX2_swaps_55 ?_
    refine r_iconst dX2_swaps_58 ?_
    refine r_iconst dX2_swaps_59 ?_
    refine r_cV (as := [ax_r 15, ax_r 47, ax_i 2, ax_i 1]) (how_V (ci := 2) jX2_readCross jIX2_readCross jVX2_readCross rfl s0_15 (by decide) rfl rfl wX2_86 dX2_swaps_60) rfl (Nat.le_refl _) (Nat.le_of_ble_eq_true rfl) (fun _ => Nat.le_of_ble_eq_true rfl) H (fun I2 H => ?_)
    refine r_aload_n dX2_swaps_63 rfl ?_
    refine r_aload_n dX2_swaps_64 rfl ?_
    refine r_getR clX2 6 (by decide) s0_15 rfl rfl wX2_38 dX2_swaps_65 ?_
    refine r_iconst dX2_swaps_68 ?_
    refine r_iconst dX2_swaps_69 ?_
    refine r_cV (as := [ax_r 15, ax_r 49, ax_i 2, ax_i 0]) (how_V (ci := 2) jX2_readCross jIX2_readCross jVX2_readCross rfl s0_15 (by decide) rfl rfl wX2_86 dX2_swaps_70) rfl (Nat.le_refl _) (Nat.le_of_ble_eq_true rfl) (fun _ => Nat.le_of_ble_eq_true rfl) H (fun I3 H => ?_)
    refine r_aload_n dX2_swaps_73 rfl ?_
    refine r_aload_n dX2_swaps_74 rfl ?_
    refine r_getR clX2 7 (by decide) s0_15 rfl rfl wX2_41 dX2_swaps_75 ?_
    refine r_iconst dX2_swaps_78 ?_
    refine r_iconst dX2_swaps_79 ?_
    refine r_cV (as := [ax_r 15, ax_r 51, ax_i 1, ax_i 0]) (how_V (ci := 2) jX2_readCross jIX2_readCross jVX2_readCross rfl s0_15 (by decide) rfl rfl wX2_86 dX2_swaps_80) rfl (Nat.le_refl _) (Nat.le_of_ble_eq_true rfl) (fun _ => Nat.le_of_ble_eq_true rfl) H (fun I4 H => ?_)
    refine r_aload_n dX2_swaps_83 rfl ?_
    refine r_getR clX2 8 (by decide) s0_15 rfl rfl wX2_44 dX2_swaps_84 ?_
    refine r_cV (as := [ax_r 53]) (how_V (ci := 7) jX7_clear jIX7_clear jVX7_clear rfl s0_53 (by decide) rfl rfl wX2_90 dX2_swaps_87) rfl (Nat.le_refl _) (Nat.le_of_ble_eq_true rfl) (fun _ => Nat.le_of_ble_eq_true rfl) H (fun I5 H => ?_)
    refine r_aload_n dX2_swaps_90 rfl ?_
    refine r_getR clX2 8 (by decide) s0_15 rfl rfl wX2_44 dX2_swaps_91 ?_
    refine r_aload_n dX2_swaps_94 rfl ?_
    refine r_getR clX2 6 (by decide) s0_15 rfl rfl wX2_38 dX2_swaps_95 ?_
    refine r_aload_n dX2_swaps_98 rfl ?_
    refine r_getR clX3 0 (by decide) h3.1 rfl rfl wX2_59 dX2_swaps_99 ?_
    refine r_iconst dX2_swaps_102 ?_
    refine r_cV (as := [ax_r 53, ax_r 49, ax_r (a3 + 1), ax_i (-1)]) (how_V (ci := 7) jX7_addProduct jIX7_addProduct jVX7_addProduct rfl s0_53 (by decide) rfl rfl wX2_93 dX2_swaps_103) rfl (Nat.le_refl _) (Nat.le_of_ble_eq_true rfl) (fun _ => Nat.le_of_ble_eq_true rfl) H (fun I6 H => ?_)
    refine r_aload_n dX2_swaps_106 rfl ?_
    refine r_getR clX2 8 (by decide) s0_15 rfl rfl wX2_44 dX2_swaps_107 ?_
    refine r_aload_n dX2_swaps_110 rfl ?_
    refine r_getR clX2 7 (by decide) s0_15 rfl rfl wX2_41 dX2_swaps_111 ?_
    refine r_aload_n dX2_swaps_114 rfl ?_
    refine r_getR clX3 1 (by decide) h3.1 rfl rfl wX2_64 dX2_swaps_115 ?_
    refine r_iconst dX2_swaps_118 ?_
    refine r_cV (as := [ax_r 53, ax_r 51, ax_r (a3 + 3), ax_i (-1)]) (how_V (ci := 7) jX7_addProduct jIX7_addProduct jVX7_addProduct rfl s0_53 (by decide) rfl rfl wX2_93 dX2_swaps_119) rfl (Nat.le_refl _) (Nat.le_of_ble_eq_true rfl) (fun _ => Nat.le_of_ble_eq_true rfl) H (fun I7 H => ?_)
    refine r_aload_n dX2_swaps_122 rfl ?_
    refine r_getR clX2 9 (by decide) s0_15 rfl rfl wX2_47 dX2_swaps_123 ?_
    refine r_cV (as := [ax_r 55]) (how_V (ci := 7) jX7_clear jIX7_clear jVX7_clear rfl s0_55 (by decide) rfl rfl wX2_90 dX2_swaps_126) rfl (Nat.le_refl _) (Nat.le_of_ble_eq_true rfl) (fun _ => Nat.le_of_ble_eq_true rfl) H (fun I8 H => ?_)
    refine r_aload_n dX2_swaps_129 rfl ?_
    refine r_getR clX2 9 (by decide) s0_15 rfl rfl wX2_47 dX2_swaps_130 ?_
    refine r_aload_n dX2_swaps_133 rfl ?_
    refine r_getR clX2 5 (by decide) s0_15 rfl rfl wX2_34 dX2_swaps_134 ?_
    refine r_aload_n dX2_swaps_137 rfl ?_
    refine r_getR clX3 0 (by decide) h3.1 rfl rfl wX2_59 dX2_swaps_138 ?_
    refine r_iconst dX2_swaps_141 ?_
    refine r_cV (as := [ax_r 55, ax_r 47, ax_r (a3 + 1), ax_i 1]) (how_V (ci := 7) jX7_addProduct jIX7_addProduct jVX7_addProduct rfl s0_55 (by decide) rfl rfl wX2_93 dX2_swaps_142) rfl (Nat.le_refl _) (Nat.le_of_ble_eq_true rfl) (fun _ => Nat.le_of_ble_eq_true rfl) H (fun I9 H => ?_)
    refine r_aload_n dX2_swaps_145 rfl ?_
    refine r_getR clX2 9 (by decide) s0_15 rfl rfl wX2_47 dX2_swaps_146 ?_
    refine r_aload_n dX2_swaps_149 rfl ?_
    refine r_getR clX2 6 (by decide) s0_15 rfl rfl wX2_38 dX2_swaps_150 ?_
    refine r_aload_n dX2_swaps_153 rfl ?_
    refine r_getR clX3 1 (by decide) h3.1 rfl rfl wX2_64 dX2_swaps_154 ?_
    refine r_iconst dX2_swaps_157 ?_
    refine r_cV (as := [ax_r 55, ax_r 49, ax_r (a3 + 3), ax_i 1]) (how_V (ci := 7) jX7_addProduct jIX7_addProduct jVX7_addProduct rfl s0_55 (by decide) rfl rfl wX2_93 dX2_swaps_158) rfl (Nat.le_refl _) (Nat.le_of_ble_eq_true rfl) (fun _ => Nat.le_of_ble_eq_true rfl) H (fun I10 H => ?_)
    refine r_aload_n dX2_swaps_161 rfl ?_
    refine r_getR clX2 8 (by decide) s0_15 rfl rfl wX2_44 dX2_swaps_162 ?_
    refine r_cI (as := [ax_r 53]) (how_V (ci := 7) jX7_isZero jIX7_isZero jVX7_isZero rfl s0_53 (by decide) rfl rfl wX2_97 dX2_swaps_165) rfl (Nat.le_refl _) (Nat.le_of_ble_eq_true rfl) (fun _ => Nat.le_of_ble_eq_true rfl) H (fun w12 I11 H => ?_)
    have ob13 := H.1
    have H := H.2
    refine r_if_eq (tgt := 183) dX2_swaps_168 (by decide) ob13 (fun c14 => ?_) (fun c14 => ?_)
    · have H := H.1 c14
      refine r_aload_n dX2_swaps_183 rfl ?_
      refine r_cA (as := [ax_r 15]) (how_V (ci := 2) jX2_commonFactor jIX2_commonFactor jVX2_commonFactor rfl s0_15 (by decide) rfl rfl wX2_101 dX2_swaps_184) rfl (Nat.le_refl _) (Nat.le_of_ble_eq_true rfl) (fun _ => Nat.le_of_ble_eq_true rfl) H (fun q16 I15 H => ?_)
      obtain ⟨hq17, H⟩ := H
      refine r_astore dX2_swaps_187 (by decide) rfl ?_
      refine r_aload_n dX2_swaps_189 rfl ?_
      refine r_getR clX2 8 (by decide) s0_15 rfl rfl wX2_44 dX2_swaps_190 ?_
      refine r_aload dX2_swaps_193 rfl ?_
      refine r_aload_n dX2_swaps_195 rfl ?_
      refine r_getR clX3 0 (by decide) h3.1 rfl rfl wX2_59 dX2_swaps_196 ?_
      refine r_cV (as := [ax_r 53, ax_r q16, ax_r (a3 + 1)]) (how_V (ci := 7) jX7_divide jIX7_divide jVX7_divide rfl s0_53 (by decide) rfl rfl wX2_105 dX2_swaps_199) rfl (Nat.le_refl _) (Nat.le_of_ble_eq_true rfl) (fun _ => Nat.le_of_ble_eq_true rfl) H (fun I18 H => ?_)
      refine r_aload_n dX2_swaps_202 rfl ?_
      refine r_getR clX2 9 (by decide) s0_15 rfl rfl wX2_47 dX2_swaps_203 ?_
      refine r_aload dX2_swaps_206 rfl ?_
      refine r_aload_n dX2_swaps_208 rfl ?_
      refine r_getR clX3 1 (by decide) h3.1 rfl rfl wX2_64 dX2_swaps_209 ?_
      refine r_cV (as := [ax_r 55, ax_r q16, ax_r (a3 + 3)]) (how_V (ci := 7) jX7_divide jIX7_divide jVX7_divide rfl s0_55 (by decide) rfl rfl wX2_105 dX2_swaps_212) rfl (Nat.le_refl _) (Nat.le_of_ble_eq_true rfl) (fun _ => Nat.le_of_ble_eq_true rfl) H (fun I19 H => ?_)
      refine r_iconst dX2_swaps_215 ?_
      exact r_zret dX2_swaps_216 rfl (by decide) ⟨rfl, _, rfl, H⟩
    · have H := H.2 c14
      refine r_aload_n dX2_swaps_171 rfl ?_
      refine r_getR clX2 9 (by decide) s0_15 rfl rfl wX2_47 dX2_swaps_172 ?_
      refine r_cI (as := [ax_r 55]) (how_V (ci := 7) jX7_isZero jIX7_isZero jVX7_isZero rfl s0_55 (by decide) rfl rfl wX2_97 dX2_swaps_175) rfl (Nat.le_refl _) (Nat.le_of_ble_eq_true rfl) (fun _ => Nat.le_of_ble_eq_true rfl) H (fun w21 I20 H => ?_)
      have ob22 := H.1
      have H := H.2
      refine r_if_eq (tgt := 183) dX2_swaps_178 (by decide) ob22 (fun c23 => ?_) (fun c23 => ?_)
      · have H := H.1 c23
        refine r_aload_n dX2_swaps_183 rfl ?_
        refine r_cA (as := [ax_r 15]) (how_V (ci := 2) jX2_commonFactor jIX2_commonFactor jVX2_commonFactor rfl s0_15 (by decide) rfl rfl wX2_101 dX2_swaps_184) rfl (Nat.le_refl _) (Nat.le_of_ble_eq_true rfl) (fun _ => Nat.le_of_ble_eq_true rfl) H (fun q25 I24 H => ?_)
        obtain ⟨hq26, H⟩ := H
        refine r_astore dX2_swaps_187 (by decide) rfl ?_
        refine r_aload_n dX2_swaps_189 rfl ?_
        refine r_getR clX2 8 (by decide) s0_15 rfl rfl wX2_44 dX2_swaps_190 ?_
        refine r_aload dX2_swaps_193 rfl ?_
        refine r_aload_n dX2_swaps_195 rfl ?_
        refine r_getR clX3 0 (by decide) h3.1 rfl rfl wX2_59 dX2_swaps_196 ?_
        refine r_cV (as := [ax_r 53, ax_r q25, ax_r (a3 + 1)]) (how_V (ci := 7) jX7_divide jIX7_divide jVX7_divide rfl s0_53 (by decide) rfl rfl wX2_105 dX2_swaps_199) rfl (Nat.le_refl _) (Nat.le_of_ble_eq_true rfl) (fun _ => Nat.le_of_ble_eq_true rfl) H (fun I27 H => ?_)
        refine r_aload_n dX2_swaps_202 rfl ?_
        refine r_getR clX2 9 (by decide) s0_15 rfl rfl wX2_47 dX2_swaps_203 ?_
        refine r_aload dX2_swaps_206 rfl ?_
        refine r_aload_n dX2_swaps_208 rfl ?_
        refine r_getR clX3 1 (by decide) h3.1 rfl rfl wX2_64 dX2_swaps_209 ?_
        refine r_cV (as := [ax_r 55, ax_r q25, ax_r (a3 + 3)]) (how_V (ci := 7) jX7_divide jIX7_divide jVX7_divide rfl s0_55 (by decide) rfl rfl wX2_105 dX2_swaps_212) rfl (Nat.le_refl _) (Nat.le_of_ble_eq_true rfl) (fun _ => Nat.le_of_ble_eq_true rfl) H (fun I28 H => ?_)
        refine r_iconst dX2_swaps_215 ?_
        exact r_zret dX2_swaps_216 rfl (by decide) ⟨rfl, _, rfl, H⟩
      · have H := H.2 c23
        refine r_iconst dX2_swaps_181 ?_
        exact r_zret dX2_swaps_182 rfl (by decide) ⟨rfl, _, rfl, H⟩
  · have H := H.2 c1
    refine r_aload_n dX2_swaps_15 rfl ?_
    refine r_aload_n dX2_swaps_16 rfl ?_
    refine r_getR clX2 3 (by decide) s0_15 rfl rfl wX2_28 dX2_swaps_17 ?_
    refine r_iload dX2_swaps_20 rfl ?_
    have ob29 := H.1
    have H := H.2
    obtain ⟨b30, hb31, hb31q⟩ : ∃ q, q = (34 + 2 * (x5).toNat) ∧ isPo q := ⟨_, rfl, (el_33 ob29).2⟩
    have H := H b30 hb31 hb31q
    refine r_aaldP (b := b30) s0_33 (by decide) dX2_swaps_22 ob29 (by rw [hb31]; exact (el_33 ob29).1) ?_
    refine r_aload_n dX2_swaps_23 rfl ?_
    refine r_iload_n dX2_swaps_24 rfl ?_
    refine r_iconst dX2_swaps_25 ?_
    refine r_iload dX2_swaps_26 rfl ?_
    refine r_cV (as := [ax_r 15, ax_r b30, ax_r a1, ax_i x2, ax_i 0, ax_i x5]) (how_V (ci := 2) jX2_readRow jIX2_readRow jVX2_readRow rfl s0_15 (by decide) rfl rfl wX2_82 dX2_swaps_28) rfl (Nat.le_refl _) (Nat.le_of_ble_eq_true rfl) (fun _ => Nat.le_of_ble_eq_true rfl) H (fun I32 H => ?_)
    refine r_aload_n dX2_swaps_31 rfl ?_
    refine r_aload_n dX2_swaps_32 rfl ?_
    refine r_getR clX2 4 (by decide) s0_15 rfl rfl wX2_31 dX2_swaps_33 ?_
    refine r_iload dX2_swaps_36 rfl ?_
    obtain ⟨b33, hb34, hb34q⟩ : ∃ q, q = (41 + 2 * (x5).toNat) ∧ isPo q := ⟨_, rfl, (el_40 ob29).2⟩
    have H := H b33 hb34 hb34q
    refine r_aaldP (b := b33) s0_40 (by decide) dX2_swaps_38 ob29 (by rw [hb34]; exact (el_40 ob29).1) ?_
    refine r_aload_n dX2_swaps_39 rfl ?_
    refine r_iload_n dX2_swaps_40 rfl ?_
    refine r_iconst dX2_swaps_41 ?_
    refine r_iload dX2_swaps_42 rfl ?_
    refine r_cV (as := [ax_r 15, ax_r b33, ax_r a1, ax_i x2, ax_i 1, ax_i x5]) (how_V (ci := 2) jX2_readRow jIX2_readRow jVX2_readRow rfl s0_15 (by decide) rfl rfl wX2_82 dX2_swaps_44) rfl (Nat.le_refl _) (Nat.le_of_ble_eq_true rfl) (fun _ => Nat.le_of_ble_eq_true rfl) H (fun I35 H => ?_)
    refine r_iinc dX2_swaps_47 (by decide) rfl rfl ?_
    refine r_goto (tgt := 9) dX2_swaps_50 (by decide) ?_
    exact H

theorem vX2_readSquares_0 {d : Nat} {Q : ax_H → Prop} {a1 : Nat} {I : ax_H} (h1 : isFr a1) (H :
  RV (d + 3) kX2_readSquares 2 [some (ax_r 15), some (ax_r a1), some (ax_i 0)] I Q) :
  RV (d + 3) kX2_readSquares 0 [some (ax_r 15), some (ax_r a1), none] I Q := by
  show Rn _ _ _ _ _ _ _ _
  refine r_iconst dX2_readSquares_0 ?_
  refine r_istore_n dX2_readSquares_1 (by decide) rfl ?_
  exact H

theorem vX2_readSquares_2 {d : Nat} {Q : ax_H → Prop} {a1 : Nat} {x2 : Int} {I : ax_H} (h1 : isFr a1) (r2 : ax_R x2) (H :
  (3 ≤ x2 →
    cV (d + 2) kX7_addProduct [ax_r 27, ax_r (a1 + 3), ax_r (a1 + 3), ax_i 1] I (fun I2 =>
    cV (d + 2) kX7_addProduct [ax_r 29, ax_r (a1 + 1), ax_r (a1 + 3), ax_i 1] I2 (fun I3 =>
    cV (d + 2) kX7_addProduct [ax_r 31, ax_r (a1 + 1), ax_r (a1 + 1), ax_i 1] I3 (fun I4 =>
    Q I4)))) ∧
  (¬ 3 ≤ x2 →
    (0 ≤ x2 ∧ x2 < 3) ∧
    (∀ b6, b6 = (27 + 2 * (x2).toNat) → isPo b6 →
    (cV (d + 2) kX7_clear [ax_r b6] I (fun I8 =>
    RV (d + 3) kX2_readSquares 2 [some (ax_r 15), some (ax_r a1), some (ax_i (x2 + 1))] I8 Q))))) :
  RV (d + 3) kX2_readSquares 2 [some (ax_r 15), some (ax_r a1), some (ax_i x2)] I Q := by
  show Rn _ _ _ _ _ _ _ _
  refine r_iload_n dX2_readSquares_2 rfl ?_
  refine r_iconst dX2_readSquares_3 ?_
  refine r_icmp_ge (tgt := 22) dX2_readSquares_4 (by decide) r2 (by decide) (fun c1 => ?_) (fun c1 => ?_)
  · have H := H.1 c1
    refine r_aload_n dX2_readSquares_22 rfl ?_
    refine r_getR clX2 2 (by decide) s0_15 rfl rfl wX2_24 dX2_readSquares_23 ?_
    refine r_iconst dX2_readSquares_26 ?_
    refine r_aaldP s0_26 (by decide) dX2_readSquares_27 (by decide) rfl ?_
    refine r_aload_n dX2_readSquares_28 rfl ?_
    refine r_getR clX3 1 (by decide) h1.1 rfl rfl wX2_64 dX2_readSquares_29 ?_
    refine r_aload_n dX2_readSquares_32 rfl ?_
    refine r_getR clX3 1 (by decide) h1.1 rfl rfl wX2_64 dX2_readSquares_33 ?_
    refine r_iconst dX2_readSquares_36 ?_
    refine r_cV (as := [ax_r 27, ax_r (a1 + 3), ax_r (a1 + 3), ax_i 1]) (how_V (ci := 7) jX7_addProduct jIX7_addProduct jVX7_addProduct rfl s0_27 (by decide) rfl rfl wX2_93 dX2_readSquares_37) rfl (Nat.le_refl _) (Nat.le_of_ble_eq_true rfl) (fun _ => Nat.le_of_ble_eq_true rfl) H (fun I2 H => ?_)
    refine r_aload_n dX2_readSquares_40 rfl ?_
    refine r_getR clX2 2 (by decide) s0_15 rfl rfl wX2_24 dX2_readSquares_41 ?_
    refine r_iconst dX2_readSquares_44 ?_
    refine r_aaldP s0_26 (by decide) dX2_readSquares_45 (by decide) rfl ?_
    refine r_aload_n dX2_readSquares_46 rfl ?_
    refine r_getR clX3 0 (by decide) h1.1 rfl rfl wX2_59 dX2_readSquares_47 ?_
    refine r_aload_n dX2_readSquares_50 rfl ?_
    refine r_getR clX3 1 (by decide) h1.1 rfl rfl wX2_64 dX2_readSquares_51 ?_
    refine r_iconst dX2_readSquares_54 ?_
    refine r_cV (as := [ax_r 29, ax_r (a1 + 1), ax_r (a1 + 3), ax_i 1]) (how_V (ci := 7) jX7_addProduct jIX7_addProduct jVX7_addProduct rfl s0_29 (by decide) rfl rfl wX2_93 dX2_readSquares_55) rfl (Nat.le_refl _) (Nat.le_of_ble_eq_true rfl) (fun _ => Nat.le_of_ble_eq_true rfl) H (fun I3 H => ?_)
    refine r_aload_n dX2_readSquares_58 rfl ?_
    refine r_getR clX2 2 (by decide) s0_15 rfl rfl wX2_24 dX2_readSquares_59 ?_
    refine r_iconst dX2_readSquares_62 ?_
    refine r_aaldP s0_26 (by decide) dX2_readSquares_63 (by decide) rfl ?_
    refine r_aload_n dX2_readSquares_64 rfl ?_
    refine r_getR clX3 0 (by decide) h1.1 rfl rfl wX2_59 dX2_readSquares_65 ?_
    refine r_aload_n dX2_readSquares_68 rfl ?_
    refine r_getR clX3 0 (by decide) h1.1 rfl rfl wX2_59 dX2_readSquares_69 ?_
    refine r_iconst dX2_readSquares_72 ?_
    refine r_cV (as := [ax_r 31, ax_r (a1 + 1), ax_r (a1 + 1), ax_i 1]) (how_V (ci := 7) jX7_addProduct jIX7_addProduct jVX7_addProduct rfl s0_31 (by decide) rfl rfl wX2_93 dX2_readSquares_73) rfl (Nat.le_refl _) (Nat.le_of_ble_eq_true rfl) (fun _ => Nat.le_of_ble_eq_true rfl) H (fun I4 H => ?_)
    exact r_vret dX2_readSquares_76 rfl ⟨rfl, rfl, H⟩
  · have H := H.2 c1
    refine r_aload_n dX2_readSquares_7 rfl ?_
    refine r_getR clX2 2 (by decide) s0_15 rfl rfl wX2_24 dX2_readSquares_8 ?_
    refine r_iload_n dX2_readSquares_11 rfl ?_
    have ob5 := H.1
    have H := H.2
    obtain ⟨b6, hb7, hb7q⟩ : ∃ q, q = (27 + 2 * (x2).toNat) ∧ isPo q := ⟨_, rfl, (el_26 ob5).2⟩
    have H := H b6 hb7 hb7q
    refine r_aaldP (b := b6) s0_26 (by decide) dX2_readSquares_12 ob5 (by rw [hb7]; exact (el_26 ob5).1) ?_
    refine r_cV (as := [ax_r b6]) (how_V (ci := 7) jX7_clear jIX7_clear jVX7_clear rfl hb7q.1 (by decide) rfl rfl wX2_90 dX2_readSquares_13) rfl (Nat.le_refl _) (Nat.le_of_ble_eq_true rfl) (fun _ => Nat.le_of_ble_eq_true rfl) H (fun I8 H => ?_)
    refine r_iinc dX2_readSquares_16 (by decide) rfl rfl ?_
    refine r_goto (tgt := 2) dX2_readSquares_19 (by decide) ?_
    exact H

theorem vX2_readRow_0 {d : Nat} {Q : ax_H → Prop} {a1 : Nat} {a2 : Nat} {x3 : Int} {x4 : Int} {x5 : Int} {I : ax_H} (h1 : isPo a1) (h2 : isT a2) (H :
  cV (d + 2) kX7_clear [ax_r a1] I (fun I1 =>
  RV (d + 3) kX2_readRow 7 [some (ax_r 15), some (ax_r a1), some (ax_r a2), some (ax_i x3), some (ax_i x4), some (ax_i x5), some (ax_i 0)] I1 Q)) :
  RV (d + 3) kX2_readRow 0 [some (ax_r 15), some (ax_r a1), some (ax_r a2), some (ax_i x3), some (ax_i x4), some (ax_i x5), none] I Q := by
  show Rn _ _ _ _ _ _ _ _
  refine r_aload_n dX2_readRow_0 rfl ?_
  refine r_cV (as := [ax_r a1]) (how_V (ci := 7) jX7_clear jIX7_clear jVX7_clear rfl h1.1 (by decide) rfl rfl wX2_90 dX2_readRow_1) rfl (Nat.le_refl _) (Nat.le_of_ble_eq_true rfl) (fun _ => Nat.le_of_ble_eq_true rfl) H (fun I1 H => ?_)
  refine r_iconst dX2_readRow_4 ?_
  refine r_istore dX2_readRow_5 (by decide) rfl ?_
  exact H

theorem vX2_readRow_7 {d : Nat} {Q : ax_H → Prop} {a1 : Nat} {a2 : Nat} {x3 : Int} {x4 : Int} {x5 : Int} {x6 : Int} {I : ax_H} (h1 : isPo a1) (h2 : isT a2) (r6 : ax_R x6) (H :
  (3 ≤ x6 →
    Q I) ∧
  (¬ 3 ≤ x6 →
    (0 ≤ x6 ∧ x6 < 3) ∧
    (∀ b3, b3 = (27 + 2 * (x6).toNat) → isPo b3 →
    (cI (d + 2) kX9_numberAlong [ax_r a2, ax_i x3, ax_i x4, ax_i x5, ax_i x6] I (fun w6 I5 =>
    cV (d + 2) kX7_addTimes [ax_r a1, ax_r b3, ax_i w6] I5 (fun I7 =>
    RV (d + 3) kX2_readRow 7 [some (ax_r 15), some (ax_r a1), some (ax_r a2), some (ax_i x3), some (ax_i x4), some (ax_i x5), some (ax_i (x6 + 1))] I7 Q)))))) :
  RV (d + 3) kX2_readRow 7 [some (ax_r 15), some (ax_r a1), some (ax_r a2), some (ax_i x3), some (ax_i x4), some (ax_i x5), some (ax_i x6)] I Q := by
  show Rn _ _ _ _ _ _ _ _
  refine r_iload dX2_readRow_7 rfl ?_
  refine r_iconst dX2_readRow_9 ?_
  refine r_icmp_ge (tgt := 41) dX2_readRow_10 (by decide) r6 (by decide) (fun c1 => ?_) (fun c1 => ?_)
  · have H := H.1 c1
    exact r_vret dX2_readRow_41 rfl ⟨rfl, rfl, H⟩
  · have H := H.2 c1
    refine r_aload_n dX2_readRow_13 rfl ?_
    refine r_aload_n dX2_readRow_14 rfl ?_
    refine r_getR clX2 2 (by decide) s0_15 rfl rfl wX2_24 dX2_readRow_15 ?_
    refine r_iload dX2_readRow_18 rfl ?_
    have ob2 := H.1
    have H := H.2
    obtain ⟨b3, hb4, hb4q⟩ : ∃ q, q = (27 + 2 * (x6).toNat) ∧ isPo q := ⟨_, rfl, (el_26 ob2).2⟩
    have H := H b3 hb4 hb4q
    refine r_aaldP (b := b3) s0_26 (by decide) dX2_readRow_20 ob2 (by rw [hb4]; exact (el_26 ob2).1) ?_
    refine r_aload_n dX2_readRow_21 rfl ?_
    refine r_iload_n dX2_readRow_22 rfl ?_
    refine r_iload dX2_readRow_23 rfl ?_
    refine r_iload dX2_readRow_25 rfl ?_
    refine r_iload dX2_readRow_27 rfl ?_
    refine r_cI (as := [ax_r a2, ax_i x3, ax_i x4, ax_i x5, ax_i x6]) (how_V (ci := 9) jX9_numberAlong jIX9_numberAlong jVX9_numberAlong rfl h2.1 (by decide) rfl rfl wX2_109 dX2_readRow_29) rfl (Nat.le_refl _) (Nat.le_of_ble_eq_true rfl) (fun _ => Nat.le_of_ble_eq_true rfl) H (fun w6 I5 H => ?_)
    refine r_cV (as := [ax_r a1, ax_r b3, ax_i w6]) (how_V (ci := 7) jX7_addTimes jIX7_addTimes jVX7_addTimes rfl h1.1 (by decide) rfl rfl wX2_115 dX2_readRow_32) rfl (Nat.le_refl _) (Nat.le_of_ble_eq_true rfl) (fun _ => Nat.le_of_ble_eq_true rfl) H (fun I7 H => ?_)
    refine r_iinc dX2_readRow_35 (by decide) rfl rfl ?_
    refine r_goto (tgt := 7) dX2_readRow_38 (by decide) ?_
    exact H

theorem vX2_readCross_0 {d : Nat} {Q : ax_H → Prop} {a1 : Nat} {x2 : Int} {x3 : Int} {I : ax_H} (h1 : isPo a1) (r2 : ax_R x2) (r3 : ax_R x3) (H :
  cV (d + 2) kX7_clear [ax_r a1] I (fun I1 =>
  (x3 < 0 →
    Q I1) ∧
  (¬ x3 < 0 →
    (x2 ≤ x3 →
      Q I1) ∧
    (¬ x2 ≤ x3 →
      (3 ≤ x2 →
        Q I1) ∧
      (¬ 3 ≤ x2 →
        (0 ≤ x2 ∧ x2 < 3) ∧
        (∀ b6, b6 = (34 + 2 * (x2).toNat) → isPo b6 →
        ((0 ≤ x3 ∧ x3 < 3) ∧
        (∀ b9, b9 = (41 + 2 * (x3).toNat) → isPo b9 →
        (cV (d + 2) kX7_addProduct [ax_r a1, ax_r b6, ax_r b9, ax_i 1] I1 (fun I11 =>
        ∀ b12, b12 = (34 + 2 * (x3).toNat) → isPo b12 →
        (∀ b14, b14 = (41 + 2 * (x2).toNat) → isPo b14 →
        (cV (d + 2) kX7_addProduct [ax_r a1, ax_r b12, ax_r b14, ax_i (-1)] I11 (fun I16 =>
        Q I16))))))))))))) :
  RV (d + 3) kX2_readCross 0 [some (ax_r 15), some (ax_r a1), some (ax_i x2), some (ax_i x3)] I Q := by
  show Rn _ _ _ _ _ _ _ _
  refine r_aload_n dX2_readCross_0 rfl ?_
  refine r_cV (as := [ax_r a1]) (how_V (ci := 7) jX7_clear jIX7_clear jVX7_clear rfl h1.1 (by decide) rfl rfl wX2_90 dX2_readCross_1) rfl (Nat.le_refl _) (Nat.le_of_ble_eq_true rfl) (fun _ => Nat.le_of_ble_eq_true rfl) H (fun I1 H => ?_)
  refine r_iload_n dX2_readCross_4 rfl ?_
  refine r_if_lt (tgt := 52) dX2_readCross_5 (by decide) r3 (fun c2 => ?_) (fun c2 => ?_)
  · have H := H.1 c2
    exact r_vret dX2_readCross_52 rfl ⟨rfl, rfl, H⟩
  · have H := H.2 c2
    refine r_iload_n dX2_readCross_8 rfl ?_
    refine r_iload_n dX2_readCross_9 rfl ?_
    refine r_icmp_ge (tgt := 52) dX2_readCross_10 (by decide) r3 r2 (fun c3 => ?_) (fun c3 => ?_)
    · have H := H.1 c3
      exact r_vret dX2_readCross_52 rfl ⟨rfl, rfl, H⟩
    · have H := H.2 c3
      refine r_iload_n dX2_readCross_13 rfl ?_
      refine r_iconst dX2_readCross_14 ?_
      refine r_icmp_ge (tgt := 52) dX2_readCross_15 (by decide) r2 (by decide) (fun c4 => ?_) (fun c4 => ?_)
      · have H := H.1 c4
        exact r_vret dX2_readCross_52 rfl ⟨rfl, rfl, H⟩
      · have H := H.2 c4
        refine r_aload_n dX2_readCross_18 rfl ?_
        refine r_aload_n dX2_readCross_19 rfl ?_
        refine r_getR clX2 3 (by decide) s0_15 rfl rfl wX2_28 dX2_readCross_20 ?_
        refine r_iload_n dX2_readCross_23 rfl ?_
        have ob5 := H.1
        have H := H.2
        obtain ⟨b6, hb7, hb7q⟩ : ∃ q, q = (34 + 2 * (x2).toNat) ∧ isPo q := ⟨_, rfl, (el_33 ob5).2⟩
        have H := H b6 hb7 hb7q
        refine r_aaldP (b := b6) s0_33 (by decide) dX2_readCross_24 ob5 (by rw [hb7]; exact (el_33 ob5).1) ?_
        refine r_aload_n dX2_readCross_25 rfl ?_
        refine r_getR clX2 4 (by decide) s0_15 rfl rfl wX2_31 dX2_readCross_26 ?_
        refine r_iload_n dX2_readCross_29 rfl ?_
        have ob8 := H.1
        have H := H.2
        obtain ⟨b9, hb10, hb10q⟩ : ∃ q, q = (41 + 2 * (x3).toNat) ∧ isPo q := ⟨_, rfl, (el_40 ob8).2⟩
        have H := H b9 hb10 hb10q
        refine r_aaldP (b := b9) s0_40 (by decide) dX2_readCross_30 ob8 (by rw [hb10]; exact (el_40 ob8).1) ?_
        refine r_iconst dX2_readCross_31 ?_
        refine r_cV (as := [ax_r a1, ax_r b6, ax_r b9, ax_i 1]) (how_V (ci := 7) jX7_addProduct jIX7_addProduct jVX7_addProduct rfl h1.1 (by decide) rfl rfl wX2_93 dX2_readCross_32) rfl (Nat.le_refl _) (Nat.le_of_ble_eq_true rfl) (fun _ => Nat.le_of_ble_eq_true rfl) H (fun I11 H => ?_)
        refine r_aload_n dX2_readCross_35 rfl ?_
        refine r_aload_n dX2_readCross_36 rfl ?_
        refine r_getR clX2 3 (by decide) s0_15 rfl rfl wX2_28 dX2_readCross_37 ?_
        refine r_iload_n dX2_readCross_40 rfl ?_
        obtain ⟨b12, hb13, hb13q⟩ : ∃ q, q = (34 + 2 * (x3).toNat) ∧ isPo q := ⟨_, rfl, (el_33 ob8).2⟩
        have H := H b12 hb13 hb13q
        refine r_aaldP (b := b12) s0_33 (by decide) dX2_readCross_41 ob8 (by rw [hb13]; exact (el_33 ob8).1) ?_
        refine r_aload_n dX2_readCross_42 rfl ?_
        refine r_getR clX2 4 (by decide) s0_15 rfl rfl wX2_31 dX2_readCross_43 ?_
        refine r_iload_n dX2_readCross_46 rfl ?_
        obtain ⟨b14, hb15, hb15q⟩ : ∃ q, q = (41 + 2 * (x2).toNat) ∧ isPo q := ⟨_, rfl, (el_40 ob5).2⟩
        have H := H b14 hb15 hb15q
        refine r_aaldP (b := b14) s0_40 (by decide) dX2_readCross_47 ob5 (by rw [hb15]; exact (el_40 ob5).1) ?_
        refine r_iconst dX2_readCross_48 ?_
        refine r_cV (as := [ax_r a1, ax_r b12, ax_r b14, ax_i (-1)]) (how_V (ci := 7) jX7_addProduct jIX7_addProduct jVX7_addProduct rfl h1.1 (by decide) rfl rfl wX2_93 dX2_readCross_49) rfl (Nat.le_refl _) (Nat.le_of_ble_eq_true rfl) (fun _ => Nat.le_of_ble_eq_true rfl) H (fun I16 H => ?_)
        exact r_vret dX2_readCross_52 rfl ⟨rfl, rfl, H⟩

theorem vX2_commonFactor_0 {d : Nat} {Q : Nat → ax_H → Prop} {I : ax_H} (H :
  cV (d + 2) kX7_copyFrom [ax_r 57, ax_r 53] I (fun I1 =>
  cV (d + 2) kX7_copyFrom [ax_r 59, ax_r 55] I1 (fun I2 =>
  RA (d + 3) kX2_commonFactor 34 [some (ax_r 15), some (ax_r 57), some (ax_r 59), some (ax_i 0), none] I2 Q))) :
  RA (d + 3) kX2_commonFactor 0 [some (ax_r 15), none, none, none, none] I Q := by
  show Rn _ _ _ _ _ _ _ _
  refine r_aload_n dX2_commonFactor_0 rfl ?_
  refine r_getR clX2 10 (by decide) s0_15 rfl rfl wX2_50 dX2_commonFactor_1 ?_
  refine r_aload_n dX2_commonFactor_4 rfl ?_
  refine r_getR clX2 8 (by decide) s0_15 rfl rfl wX2_44 dX2_commonFactor_5 ?_
  refine r_cV (as := [ax_r 57, ax_r 53]) (how_V (ci := 7) jX7_copyFrom jIX7_copyFrom jVX7_copyFrom rfl s0_57 (by decide) rfl rfl wX2_119 dX2_commonFactor_8) rfl (Nat.le_refl _) (Nat.le_of_ble_eq_true rfl) (fun _ => Nat.le_of_ble_eq_true rfl) H (fun I1 H => ?_)
  refine r_aload_n dX2_commonFactor_11 rfl ?_
  refine r_getR clX2 11 (by decide) s0_15 rfl rfl wX2_53 dX2_commonFactor_12 ?_
  refine r_aload_n dX2_commonFactor_15 rfl ?_
  refine r_getR clX2 9 (by decide) s0_15 rfl rfl wX2_47 dX2_commonFactor_16 ?_
  refine r_cV (as := [ax_r 59, ax_r 55]) (how_V (ci := 7) jX7_copyFrom jIX7_copyFrom jVX7_copyFrom rfl s0_59 (by decide) rfl rfl wX2_119 dX2_commonFactor_19) rfl (Nat.le_refl _) (Nat.le_of_ble_eq_true rfl) (fun _ => Nat.le_of_ble_eq_true rfl) H (fun I2 H => ?_)
  refine r_aload_n dX2_commonFactor_22 rfl ?_
  refine r_getR clX2 10 (by decide) s0_15 rfl rfl wX2_50 dX2_commonFactor_23 ?_
  refine r_astore_n dX2_commonFactor_26 (by decide) rfl ?_
  refine r_aload_n dX2_commonFactor_27 rfl ?_
  refine r_getR clX2 11 (by decide) s0_15 rfl rfl wX2_53 dX2_commonFactor_28 ?_
  refine r_astore_n dX2_commonFactor_31 (by decide) rfl ?_
  refine r_iconst dX2_commonFactor_32 ?_
  refine r_istore_n dX2_commonFactor_33 (by decide) rfl ?_
  exact H

theorem vX2_commonFactor_34 {d : Nat} {Q : Nat → ax_H → Prop} {a1 : Nat} {a2 : Nat} {x3 : Int} {I : ax_H} (h1 : isPo a1) (h2 : isPo a2) (r3 : ax_R x3) (H :
  (2600 ≤ x3 →
    Q a1 I) ∧
  (¬ 2600 ≤ x3 →
    cI (d + 2) kX7_isZero [ax_r a2] I (fun w3 I2 =>
    ax_R w3 ∧
    ((w3 ≠ 0 →
      Q a1 I2) ∧
    (w3 = 0 →
      cV (d + 2) kX7_divide [ax_r a1, ax_r a2, ax_r 61] I2 (fun I6 =>
      RA (d + 3) kX2_commonFactor 34 [some (ax_r 15), some (ax_r a2), some (ax_r a1), some (ax_i (x3 + 1)), none] I6 Q)))))) :
  RA (d + 3) kX2_commonFactor 34 [some (ax_r 15), some (ax_r a1), some (ax_r a2), some (ax_i x3), none] I Q := by
  show Rn _ _ _ _ _ _ _ _
  refine r_iload_n dX2_commonFactor_34 rfl ?_
  refine r_sipush (v := 2600) dX2_commonFactor_35 (by decide) ?_
  refine r_icmp_ge (tgt := 71) dX2_commonFactor_38 (by decide) r3 (by decide) (fun c1 => ?_) (fun c1 => ?_)
  · have H := H.1 c1
    refine r_aload_n dX2_commonFactor_71 rfl ?_
    exact r_aret dX2_commonFactor_72 rfl ⟨rfl, _, rfl, H⟩
  · have H := H.2 c1
    refine r_aload_n dX2_commonFactor_41 rfl ?_
    refine r_cI (as := [ax_r a2]) (how_V (ci := 7) jX7_isZero jIX7_isZero jVX7_isZero rfl h2.1 (by decide) rfl rfl wX2_97 dX2_commonFactor_42) rfl (Nat.le_refl _) (Nat.le_of_ble_eq_true rfl) (fun _ => Nat.le_of_ble_eq_true rfl) H (fun w3 I2 H => ?_)
    have ob4 := H.1
    have H := H.2
    refine r_if_ne (tgt := 71) dX2_commonFactor_45 (by decide) ob4 (fun c5 => ?_) (fun c5 => ?_)
    · have H := H.1 c5
      refine r_aload_n dX2_commonFactor_71 rfl ?_
      exact r_aret dX2_commonFactor_72 rfl ⟨rfl, _, rfl, H⟩
    · have H := H.2 c5
      refine r_aload_n dX2_commonFactor_48 rfl ?_
      refine r_aload_n dX2_commonFactor_49 rfl ?_
      refine r_aload_n dX2_commonFactor_50 rfl ?_
      refine r_getR clX2 12 (by decide) s0_15 rfl rfl wX2_56 dX2_commonFactor_51 ?_
      refine r_cV (as := [ax_r a1, ax_r a2, ax_r 61]) (how_V (ci := 7) jX7_divide jIX7_divide jVX7_divide rfl h1.1 (by decide) rfl rfl wX2_105 dX2_commonFactor_54) rfl (Nat.le_refl _) (Nat.le_of_ble_eq_true rfl) (fun _ => Nat.le_of_ble_eq_true rfl) H (fun I6 H => ?_)
      refine r_aload_n dX2_commonFactor_57 rfl ?_
      refine r_astore dX2_commonFactor_58 (by decide) rfl ?_
      refine r_aload_n dX2_commonFactor_60 rfl ?_
      refine r_astore_n dX2_commonFactor_61 (by decide) rfl ?_
      refine r_aload dX2_commonFactor_62 rfl ?_
      refine r_astore_n dX2_commonFactor_64 (by decide) rfl ?_
      refine r_iinc dX2_commonFactor_65 (by decide) rfl rfl ?_
      refine r_goto (tgt := 34) dX2_commonFactor_68 (by decide) ?_
      refine r_drop (ls2 := [some (ax_r 15), some (ax_r a2), some (ax_r a1), some (ax_i (x3 + 1)), none]) ?_ (ax_leS (ax_leS (ax_leS (ax_leS (ax_leN ax_leE)))))
      exact H

theorem vX3_ofDegree_0 {d : Nat} {Q : Int → ax_H → Prop} {a0 : Nat} {I : ax_H} (h0 : isFr a0) (H :
  cI d kX7_isZero [ax_r (a0 + 1)] I (fun w2 I1 =>
  ax_R w2 ∧
  ((w2 ≠ 0 →
    Q 0 I1) ∧
  (w2 = 0 →
    cI d kX7_isZero [ax_r (a0 + 3)] I1 (fun w6 I5 =>
    ax_R w6 ∧
    ((w6 = 0 →
      cI d kJ9_max_7cf53 [ax_i (I5 (a0 + 1) 1), ax_i (I5 (a0 + 3) 1)] I5 (fun w10 I9 =>
      Q (w10 - 1) I9)) ∧
    (¬ w6 = 0 →
      Q 0 I5))))))) :
  RI (d + 1) kX3_ofDegree 0 [some (ax_r a0)] I Q := by
  show Rn _ _ _ _ _ _ _ _
  refine r_aload_n dX3_ofDegree_0 rfl ?_
  refine r_getR clX3 0 (by decide) h0.1 rfl rfl wX3_10 dX3_ofDegree_1 ?_
  refine r_cI (as := [ax_r (a0 + 1)]) (how_V (ci := 7) jX7_isZero jIX7_isZero jVX7_isZero rfl h0.2.1.1 (by decide) rfl rfl wX3_19 dX3_ofDegree_4) rfl (Nat.le_refl _) (Nat.le_of_ble_eq_true rfl) (fun _ => Nat.le_of_ble_eq_true rfl) H (fun w2 I1 H => ?_)
  have ob3 := H.1
  have H := H.2
  refine r_if_ne (tgt := 20) dX3_ofDegree_7 (by decide) ob3 (fun c4 => ?_) (fun c4 => ?_)
  · have H := H.1 c4
    refine r_iconst dX3_ofDegree_20 ?_
    refine r_goto (tgt := 43) dX3_ofDegree_21 (by decide) ?_
    exact r_iret dX3_ofDegree_43 rfl ⟨rfl, _, rfl, H⟩
  · have H := H.2 c4
    refine r_aload_n dX3_ofDegree_10 rfl ?_
    refine r_getR clX3 1 (by decide) h0.1 rfl rfl wX3_16 dX3_ofDegree_11 ?_
    refine r_cI (as := [ax_r (a0 + 3)]) (how_V (ci := 7) jX7_isZero jIX7_isZero jVX7_isZero rfl h0.2.2.1 (by decide) rfl rfl wX3_19 dX3_ofDegree_14) rfl (Nat.le_refl _) (Nat.le_of_ble_eq_true rfl) (fun _ => Nat.le_of_ble_eq_true rfl) H (fun w6 I5 H => ?_)
    have ob7 := H.1
    have H := H.2
    refine r_if_eq (tgt := 24) dX3_ofDegree_17 (by decide) ob7 (fun c8 => ?_) (fun c8 => ?_)
    · have H := H.1 c8
      refine r_aload_n dX3_ofDegree_24 rfl ?_
      refine r_getR clX3 0 (by decide) h0.1 rfl rfl wX3_10 dX3_ofDegree_25 ?_
      refine r_getI clX7 1 1 (by decide) h0.2.1.1 rfl rfl wX3_23 dX3_ofDegree_28 ?_
      refine r_aload_n dX3_ofDegree_31 rfl ?_
      refine r_getR clX3 1 (by decide) h0.1 rfl rfl wX3_16 dX3_ofDegree_32 ?_
      refine r_getI clX7 1 1 (by decide) h0.2.2.1 rfl rfl wX3_23 dX3_ofDegree_35 ?_
      refine r_cI (as := [ax_i (I5 (a0 + 1) 1), ax_i (I5 (a0 + 3) 1)]) (how_S jJ9_max_7cf53 jSJ9_max_7cf53 rfl wX3_27 dX3_ofDegree_38) rfl (Nat.le_refl _) (Nat.le_of_ble_eq_true rfl) (fun _ => Nat.le_of_ble_eq_true rfl) H (fun w10 I9 H => ?_)
      refine r_iconst dX3_ofDegree_41 ?_
      refine r_isub dX3_ofDegree_42 ?_
      exact r_iret dX3_ofDegree_43 rfl ⟨rfl, _, rfl, H⟩
    · have H := H.2 c8
      refine r_iconst dX3_ofDegree_20 ?_
      refine r_goto (tgt := 43) dX3_ofDegree_21 (by decide) ?_
      exact r_iret dX3_ofDegree_43 rfl ⟨rfl, _, rfl, H⟩

theorem vX7_isZero_0 {d : Nat} {Q : Int → ax_H → Prop} {a0 : Nat} {I : ax_H} (h0 : isPo a0) (H :
  ((I a0 1) ≠ 0 →
    Q 0 I) ∧
  ((I a0 1) = 0 →
    Q 1 I)) :
  RI d kX7_isZero 0 [some (ax_r a0)] I Q := by
  show Rn _ _ _ _ _ _ _ _
  refine r_aload_n dX7_isZero_0 rfl ?_
  refine r_getI clX7 1 1 (by decide) h0.1 rfl rfl wX7_15 dX7_isZero_1 ?_
  refine r_heapR (fun hI1 => ?_)
  refine r_if_ne (tgt := 11) dX7_isZero_4 (by decide) (hI1 _ _) (fun c2 => ?_) (fun c2 => ?_)
  · have H := H.1 c2
    refine r_iconst dX7_isZero_11 ?_
    exact r_zret dX7_isZero_12 rfl (by decide) ⟨rfl, _, rfl, H⟩
  · have H := H.2 c2
    refine r_iconst dX7_isZero_7 ?_
    refine r_goto (tgt := 12) dX7_isZero_8 (by decide) ?_
    exact r_zret dX7_isZero_12 rfl (by decide) ⟨rfl, _, rfl, H⟩

theorem vX7_clear_0 {d : Nat} {Q : ax_H → Prop} {a0 : Nat} {I : ax_H} (h0 : isPo a0) (H :
  RV d kX7_clear 2 [some (ax_r a0), some (ax_i 0)] I Q) :
  RV d kX7_clear 0 [some (ax_r a0), none] I Q := by
  show Rn _ _ _ _ _ _ _ _
  refine r_iconst dX7_clear_0 ?_
  refine r_istore_n dX7_clear_1 (by decide) rfl ?_
  exact H

theorem vX7_clear_2 {d : Nat} {Q : ax_H → Prop} {a0 : Nat} {x1 : Int} {I : ax_H} (h0 : isPo a0) (r1 : ax_R x1) (H :
  ((I a0 1) ≤ x1 →
    Q (ax_st I a0 1 0)) ∧
  (¬ (I a0 1) ≤ x1 →
    (1300 ≤ x1 →
      Q (ax_st I a0 1 0)) ∧
    (¬ 1300 ≤ x1 →
      (0 ≤ x1 ∧ x1 < 1300) ∧
      (RV d kX7_clear 2 [some (ax_r a0), some (ax_i (x1 + 1))] (ax_st I (a0 + 1) x1 0) Q)))) :
  RV d kX7_clear 2 [some (ax_r a0), some (ax_i x1)] I Q := by
  show Rn _ _ _ _ _ _ _ _
  refine r_iload_n dX7_clear_2 rfl ?_
  refine r_aload_n dX7_clear_3 rfl ?_
  refine r_getI clX7 1 1 (by decide) h0.1 rfl rfl wX7_15 dX7_clear_4 ?_
  refine r_heapR (fun hI1 => ?_)
  refine r_icmp_ge (tgt := 30) dX7_clear_7 (by decide) r1 (hI1 _ _) (fun c2 => ?_) (fun c2 => ?_)
  · have H := H.1 c2
    refine r_aload_n dX7_clear_30 rfl ?_
    refine r_iconst dX7_clear_31 ?_
    refine r_putI clX7 1 1 (by decide) h0.1 rfl rfl rfl (by decide) rfl rfl wX7_15 dX7_clear_32 ?_
    exact r_vret dX7_clear_35 rfl ⟨rfl, rfl, H⟩
  · have H := H.2 c2
    refine r_iload_n dX7_clear_10 rfl ?_
    refine r_sipush (v := 1300) dX7_clear_11 (by decide) ?_
    refine r_icmp_ge (tgt := 30) dX7_clear_14 (by decide) r1 (by decide) (fun c3 => ?_) (fun c3 => ?_)
    · have H := H.1 c3
      refine r_aload_n dX7_clear_30 rfl ?_
      refine r_iconst dX7_clear_31 ?_
      refine r_putI clX7 1 1 (by decide) h0.1 rfl rfl rfl (by decide) rfl rfl wX7_15 dX7_clear_32 ?_
      exact r_vret dX7_clear_35 rfl ⟨rfl, rfl, H⟩
    · have H := H.2 c3
      refine r_aload_n dX7_clear_17 rfl ?_
      refine r_getR clX7 0 (by decide) h0.1 rfl rfl wX7_11 dX7_clear_18 ?_
      refine r_iload_n dX7_clear_21 rfl ?_
      refine r_iconst dX7_clear_22 ?_
      have ob4 := H.1
      have H := H.2
      refine r_iast h0.2 (by decide) dX7_clear_23 ob4 (by decide) ?_
      refine r_iinc dX7_clear_24 (by decide) rfl rfl ?_
      refine r_goto (tgt := 2) dX7_clear_27 (by decide) ?_
      exact H

theorem vX7_becomeNumber_0 {d : Nat} {Q : ax_H → Prop} {a0 : Nat} {x1 : Int} {I : ax_H} (h0 : isPo a0) (H :
  cV (d + 1) kX7_clear [ax_r a0] I (fun I1 =>
  cI (d + 1) kX10_modulo [ax_i x1] I1 (fun w3 I2 =>
  ax_R w3 ∧
  (cV (d + 1) kX7_trim [ax_r a0, ax_i 1] (ax_st I2 (a0 + 1) 0 w3) (fun I5 =>
  Q I5))))) :
  RV (d + 2) kX7_becomeNumber 0 [some (ax_r a0), some (ax_i x1)] I Q := by
  show Rn _ _ _ _ _ _ _ _
  refine r_aload_n dX7_becomeNumber_0 rfl ?_
  refine r_cV (as := [ax_r a0]) (how_V (ci := 7) jX7_clear jIX7_clear jVX7_clear rfl h0.1 (by decide) rfl rfl wX7_19 dX7_becomeNumber_1) rfl (Nat.le_refl _) (Nat.le_of_ble_eq_true rfl) (fun _ => Nat.le_of_ble_eq_true rfl) H (fun I1 H => ?_)
  refine r_aload_n dX7_becomeNumber_4 rfl ?_
  refine r_getR clX7 0 (by decide) h0.1 rfl rfl wX7_11 dX7_becomeNumber_5 ?_
  refine r_iconst dX7_becomeNumber_8 ?_
  refine r_iload_n dX7_becomeNumber_9 rfl ?_
  refine r_cI (as := [ax_i x1]) (how_SN jX10_modulo jSX10_modulo rfl wX7_22 dX7_becomeNumber_10) rfl (Nat.le_refl _) (Nat.le_of_ble_eq_true rfl) (fun _ => Nat.le_of_ble_eq_true rfl) H (fun w3 I2 H => ?_)
  have ob4 := H.1
  have H := H.2
  refine r_iast h0.2 (by decide) dX7_becomeNumber_13 (by decide) ob4 ?_
  refine r_aload_n dX7_becomeNumber_14 rfl ?_
  refine r_iconst dX7_becomeNumber_15 ?_
  refine r_cV (as := [ax_r a0, ax_i 1]) (how_V (ci := 7) jX7_trim jIX7_trim jVX7_trim rfl h0.1 (by decide) rfl rfl wX7_26 dX7_becomeNumber_16) rfl (Nat.le_refl _) (Nat.le_of_ble_eq_true rfl) (fun _ => Nat.le_of_ble_eq_true rfl) H (fun I5 H => ?_)
  exact r_vret dX7_becomeNumber_19 rfl ⟨rfl, rfl, H⟩

theorem vX7_becomeUnknown_0 {d : Nat} {Q : ax_H → Prop} {a0 : Nat} {I : ax_H} (h0 : isPo a0) (H :
  cV d kX7_clear [ax_r a0] I (fun I1 =>
  Q (ax_st (ax_st I1 (a0 + 1) 1 1) a0 1 2))) :
  RV (d + 1) kX7_becomeUnknown 0 [some (ax_r a0)] I Q := by
  show Rn _ _ _ _ _ _ _ _
  refine r_aload_n dX7_becomeUnknown_0 rfl ?_
  refine r_cV (as := [ax_r a0]) (how_V (ci := 7) jX7_clear jIX7_clear jVX7_clear rfl h0.1 (by decide) rfl rfl wX7_19 dX7_becomeUnknown_1) rfl (Nat.le_refl _) (Nat.le_of_ble_eq_true rfl) (fun _ => Nat.le_of_ble_eq_true rfl) H (fun I1 H => ?_)
  refine r_aload_n dX7_becomeUnknown_4 rfl ?_
  refine r_getR clX7 0 (by decide) h0.1 rfl rfl wX7_11 dX7_becomeUnknown_5 ?_
  refine r_iconst dX7_becomeUnknown_8 ?_
  refine r_iconst dX7_becomeUnknown_9 ?_
  refine r_iast h0.2 (by decide) dX7_becomeUnknown_10 (by decide) (by decide) ?_
  refine r_aload_n dX7_becomeUnknown_11 rfl ?_
  refine r_iconst dX7_becomeUnknown_12 ?_
  refine r_putI clX7 1 1 (by decide) h0.1 rfl rfl rfl (by decide) rfl rfl wX7_15 dX7_becomeUnknown_13 ?_
  exact r_vret dX7_becomeUnknown_16 rfl ⟨rfl, rfl, H⟩

theorem vX7_copyFrom_0 {d : Nat} {Q : ax_H → Prop} {a0 : Nat} {a1 : Nat} {I : ax_H} (h0 : isPo a0) (h1 : isPo a1) (H :
  Q (ax_st (ax_cp I (a1 + 1) 0 (a0 + 1) 0 1300) a0 1 ((ax_cp I (a1 + 1) 0 (a0 + 1) 0 1300) a1 1))) :
  RV (d + 1) kX7_copyFrom 0 [some (ax_r a0), some (ax_r a1)] I Q := by
  show Rn _ _ _ _ _ _ _ _
  refine r_aload_n dX7_copyFrom_0 rfl ?_
  refine r_getR clX7 0 (by decide) h1.1 rfl rfl wX7_11 dX7_copyFrom_1 ?_
  refine r_iconst dX7_copyFrom_4 ?_
  refine r_aload_n dX7_copyFrom_5 rfl ?_
  refine r_getR clX7 0 (by decide) h0.1 rfl rfl wX7_11 dX7_copyFrom_6 ?_
  refine r_iconst dX7_copyFrom_9 ?_
  refine r_sipush (v := 1300) dX7_copyFrom_10 (by decide) ?_
  refine r_copy (by simp) h1.2 h0.2 (by decide) (by decide) (by decide) (by decide) (by decide) (by decide) (by decide) (fun _ => Nat.le_of_ble_eq_true rfl) wX7_30 wNat wSta wIni dX7_copyFrom_13 ?_
  refine r_aload_n dX7_copyFrom_16 rfl ?_
  refine r_aload_n dX7_copyFrom_17 rfl ?_
  refine r_getI clX7 1 1 (by decide) h1.1 rfl rfl wX7_15 dX7_copyFrom_18 ?_
  refine r_heapR (fun hI1 => ?_)
  refine r_putI clX7 1 1 (by decide) h0.1 rfl rfl rfl (hI1 _ _) rfl rfl wX7_15 dX7_copyFrom_21 ?_
  exact r_vret dX7_copyFrom_24 rfl ⟨rfl, rfl, H⟩

theorem vX7_trim_0 {d : Nat} {Q : ax_H → Prop} {a0 : Nat} {x1 : Int} {I : ax_H} (h0 : isPo a0) (r1 : ax_R x1) (H :
  (1300 ≤ x1 →
    RV d kX7_trim 18 [some (ax_r a0), none] (ax_st I a0 1 1300) Q) ∧
  (¬ 1300 ≤ x1 →
    RV d kX7_trim 18 [some (ax_r a0), none] (ax_st I a0 1 x1) Q)) :
  RV d kX7_trim 0 [some (ax_r a0), some (ax_i x1)] I Q := by
  show Rn _ _ _ _ _ _ _ _
  refine r_aload_n dX7_trim_0 rfl ?_
  refine r_iload_n dX7_trim_1 rfl ?_
  refine r_sipush (v := 1300) dX7_trim_2 (by decide) ?_
  refine r_icmp_ge (tgt := 12) dX7_trim_5 (by decide) r1 (by decide) (fun c1 => ?_) (fun c1 => ?_)
  · have H := H.1 c1
    refine r_sipush (v := 1300) dX7_trim_12 (by decide) ?_
    refine r_putI clX7 1 1 (by decide) h0.1 rfl rfl rfl (by decide) rfl rfl wX7_15 dX7_trim_15 ?_
    refine r_drop (ls2 := [some (ax_r a0), none]) ?_ (ax_leS (ax_leN ax_leE))
    exact H
  · have H := H.2 c1
    refine r_iload_n dX7_trim_8 rfl ?_
    refine r_goto (tgt := 15) dX7_trim_9 (by decide) ?_
    refine r_putI clX7 1 1 (by decide) h0.1 rfl rfl rfl r1 rfl rfl wX7_15 dX7_trim_15 ?_
    refine r_drop (ls2 := [some (ax_r a0), none]) ?_ (ax_leS (ax_leN ax_leE))
    exact H

theorem vX7_trim_18 {d : Nat} {Q : ax_H → Prop} {a0 : Nat} {I : ax_H} (h0 : isPo a0) (H :
  ((I a0 1) ≤ 0 →
    Q I) ∧
  (¬ (I a0 1) ≤ 0 →
    (0 ≤ ((I a0 1) - 1) ∧ ((I a0 1) - 1) < 1300) ∧
    (((I (a0 + 1) ((I a0 1) - 1)) ≠ 0 →
      Q I) ∧
    ((I (a0 + 1) ((I a0 1) - 1)) = 0 →
      ax_R ((I a0 1) - 1) ∧
      (RV d kX7_trim 18 [some (ax_r a0), none] (ax_st I a0 1 ((I a0 1) - 1)) Q))))) :
  RV d kX7_trim 18 [some (ax_r a0), none] I Q := by
  show Rn _ _ _ _ _ _ _ _
  refine r_aload_n dX7_trim_18 rfl ?_
  refine r_getI clX7 1 1 (by decide) h0.1 rfl rfl wX7_15 dX7_trim_19 ?_
  refine r_heapR (fun hI1 => ?_)
  refine r_if_le (tgt := 52) dX7_trim_22 (by decide) (hI1 _ _) (fun c2 => ?_) (fun c2 => ?_)
  · have H := H.1 c2
    exact r_vret dX7_trim_52 rfl ⟨rfl, rfl, H⟩
  · have H := H.2 c2
    refine r_aload_n dX7_trim_25 rfl ?_
    refine r_getR clX7 0 (by decide) h0.1 rfl rfl wX7_11 dX7_trim_26 ?_
    refine r_aload_n dX7_trim_29 rfl ?_
    refine r_getI clX7 1 1 (by decide) h0.1 rfl rfl wX7_15 dX7_trim_30 ?_
    refine r_iconst dX7_trim_33 ?_
    refine r_isub dX7_trim_34 ?_
    have ob3 := H.1
    have H := H.2
    refine r_iald h0.2 (by decide) dX7_trim_35 ob3 ?_
    refine r_if_ne (tgt := 52) dX7_trim_36 (by decide) (hI1 _ _) (fun c4 => ?_) (fun c4 => ?_)
    · have H := H.1 c4
      exact r_vret dX7_trim_52 rfl ⟨rfl, rfl, H⟩
    · have H := H.2 c4
      refine r_aload_n dX7_trim_39 rfl ?_
      refine r_dup dX7_trim_40 (fun _ => rfl) ?_
      refine r_getI clX7 1 1 (by decide) h0.1 rfl rfl wX7_15 dX7_trim_41 ?_
      refine r_iconst dX7_trim_44 ?_
      refine r_isub dX7_trim_45 ?_
      have ob5 := H.1
      have H := H.2
      refine r_putI clX7 1 1 (by decide) h0.1 rfl rfl rfl ob5 rfl rfl wX7_15 dX7_trim_46 ?_
      refine r_goto (tgt := 18) dX7_trim_49 (by decide) ?_
      exact H

theorem vX7_addTimes_0 {d : Nat} {Q : ax_H → Prop} {a0 : Nat} {a1 : Nat} {x2 : Int} {I : ax_H} (h0 : isPo a0) (h1 : isPo a1) (H :
  RV (d + 2) kX7_addTimes 2 [some (ax_r a0), some (ax_r a1), some (ax_i x2), some (ax_i 0)] I Q) :
  RV (d + 2) kX7_addTimes 0 [some (ax_r a0), some (ax_r a1), some (ax_i x2), none] I Q := by
  show Rn _ _ _ _ _ _ _ _
  refine r_iconst dX7_addTimes_0 ?_
  refine r_istore_n dX7_addTimes_1 (by decide) rfl ?_
  exact H

theorem vX7_addTimes_2 {d : Nat} {Q : ax_H → Prop} {a0 : Nat} {a1 : Nat} {x2 : Int} {x3 : Int} {I : ax_H} (h0 : isPo a0) (h1 : isPo a1) (r3 : ax_R x3) (H :
  ((I a1 1) ≤ x3 →
    cI (d + 1) kJ9_max_7cf53 [ax_i (I a0 1), ax_i (I a1 1)] I (fun w4 I3 =>
    cV (d + 1) kX7_trim [ax_r a0, ax_i w4] I3 (fun I5 =>
    Q I5))) ∧
  (¬ (I a1 1) ≤ x3 →
    (1300 ≤ x3 →
      cI (d + 1) kJ9_max_7cf53 [ax_i (I a0 1), ax_i (I a1 1)] I (fun w8 I7 =>
      cV (d + 1) kX7_trim [ax_r a0, ax_i w8] I7 (fun I9 =>
      Q I9))) ∧
    (¬ 1300 ≤ x3 →
      (0 ≤ x3 ∧ x3 < 1300) ∧
      (cI (d + 1) kX10_modulo [ax_i ((I (a0 + 1) x3) + (x2 * (I (a1 + 1) x3)))] I (fun w12 I11 =>
      ax_R w12 ∧
      (RV (d + 2) kX7_addTimes 2 [some (ax_r a0), some (ax_r a1), some (ax_i x2), some (ax_i (x3 + 1))] (ax_st I11 (a0 + 1) x3 w12) Q)))))) :
  RV (d + 2) kX7_addTimes 2 [some (ax_r a0), some (ax_r a1), some (ax_i x2), some (ax_i x3)] I Q := by
  show Rn _ _ _ _ _ _ _ _
  refine r_iload_n dX7_addTimes_2 rfl ?_
  refine r_aload_n dX7_addTimes_3 rfl ?_
  refine r_getI clX7 1 1 (by decide) h1.1 rfl rfl wX7_15 dX7_addTimes_4 ?_
  refine r_heapR (fun hI1 => ?_)
  refine r_icmp_ge (tgt := 47) dX7_addTimes_7 (by decide) r3 (hI1 _ _) (fun c2 => ?_) (fun c2 => ?_)
  · have H := H.1 c2
    refine r_aload_n dX7_addTimes_47 rfl ?_
    refine r_aload_n dX7_addTimes_48 rfl ?_
    refine r_getI clX7 1 1 (by decide) h0.1 rfl rfl wX7_15 dX7_addTimes_49 ?_
    refine r_aload_n dX7_addTimes_52 rfl ?_
    refine r_getI clX7 1 1 (by decide) h1.1 rfl rfl wX7_15 dX7_addTimes_53 ?_
    refine r_cI (as := [ax_i (I a0 1), ax_i (I a1 1)]) (how_S jJ9_max_7cf53 jSJ9_max_7cf53 rfl wX7_36 dX7_addTimes_56) rfl (Nat.le_refl _) (Nat.le_of_ble_eq_true rfl) (fun _ => Nat.le_of_ble_eq_true rfl) H (fun w4 I3 H => ?_)
    refine r_cV (as := [ax_r a0, ax_i w4]) (how_V (ci := 7) jX7_trim jIX7_trim jVX7_trim rfl h0.1 (by decide) rfl rfl wX7_26 dX7_addTimes_59) rfl (Nat.le_refl _) (Nat.le_of_ble_eq_true rfl) (fun _ => Nat.le_of_ble_eq_true rfl) H (fun I5 H => ?_)
    exact r_vret dX7_addTimes_62 rfl ⟨rfl, rfl, H⟩
  · have H := H.2 c2
    refine r_iload_n dX7_addTimes_10 rfl ?_
    refine r_sipush (v := 1300) dX7_addTimes_11 (by decide) ?_
    refine r_icmp_ge (tgt := 47) dX7_addTimes_14 (by decide) r3 (by decide) (fun c6 => ?_) (fun c6 => ?_)
    · have H := H.1 c6
      refine r_aload_n dX7_addTimes_47 rfl ?_
      refine r_aload_n dX7_addTimes_48 rfl ?_
      refine r_getI clX7 1 1 (by decide) h0.1 rfl rfl wX7_15 dX7_addTimes_49 ?_
      refine r_aload_n dX7_addTimes_52 rfl ?_
      refine r_getI clX7 1 1 (by decide) h1.1 rfl rfl wX7_15 dX7_addTimes_53 ?_
      refine r_cI (as := [ax_i (I a0 1), ax_i (I a1 1)]) (how_S jJ9_max_7cf53 jSJ9_max_7cf53 rfl wX7_36 dX7_addTimes_56) rfl (Nat.le_refl _) (Nat.le_of_ble_eq_true rfl) (fun _ => Nat.le_of_ble_eq_true rfl) H (fun w8 I7 H => ?_)
      refine r_cV (as := [ax_r a0, ax_i w8]) (how_V (ci := 7) jX7_trim jIX7_trim jVX7_trim rfl h0.1 (by decide) rfl rfl wX7_26 dX7_addTimes_59) rfl (Nat.le_refl _) (Nat.le_of_ble_eq_true rfl) (fun _ => Nat.le_of_ble_eq_true rfl) H (fun I9 H => ?_)
      exact r_vret dX7_addTimes_62 rfl ⟨rfl, rfl, H⟩
    · have H := H.2 c6
      refine r_aload_n dX7_addTimes_17 rfl ?_
      refine r_getR clX7 0 (by decide) h0.1 rfl rfl wX7_11 dX7_addTimes_18 ?_
      refine r_iload_n dX7_addTimes_21 rfl ?_
      refine r_aload_n dX7_addTimes_22 rfl ?_
      refine r_getR clX7 0 (by decide) h0.1 rfl rfl wX7_11 dX7_addTimes_23 ?_
      refine r_iload_n dX7_addTimes_26 rfl ?_
      have ob10 := H.1
      have H := H.2
      refine r_iald h0.2 (by decide) dX7_addTimes_27 ob10 ?_
      refine r_iload_n dX7_addTimes_28 rfl ?_
      refine r_aload_n dX7_addTimes_29 rfl ?_
      refine r_getR clX7 0 (by decide) h1.1 rfl rfl wX7_11 dX7_addTimes_30 ?_
      refine r_iload_n dX7_addTimes_33 rfl ?_
      refine r_iald h1.2 (by decide) dX7_addTimes_34 ob10 ?_
      refine r_imul dX7_addTimes_35 ?_
      refine r_iadd dX7_addTimes_36 ?_
      refine r_cI (as := [ax_i ((I (a0 + 1) x3) + (x2 * (I (a1 + 1) x3)))]) (how_SN jX10_modulo jSX10_modulo rfl wX7_22 dX7_addTimes_37) rfl (Nat.le_refl _) (Nat.le_of_ble_eq_true rfl) (fun _ => Nat.le_of_ble_eq_true rfl) H (fun w12 I11 H => ?_)
      have ob13 := H.1
      have H := H.2
      refine r_iast h0.2 (by decide) dX7_addTimes_40 ob10 ob13 ?_
      refine r_iinc dX7_addTimes_41 (by decide) rfl rfl ?_
      refine r_goto (tgt := 2) dX7_addTimes_44 (by decide) ?_
      exact H

theorem vX7_addProduct_0 {d : Nat} {Q : ax_H → Prop} {a0 : Nat} {a1 : Nat} {a2 : Nat} {x3 : Int} {I : ax_H} (h0 : isPo a0) (h1 : isPo a1) (h2 : isPo a2) (H :
  RV (d + 2) kX7_addProduct 3 [some (ax_r a0), some (ax_r a1), some (ax_r a2), some (ax_i x3), some (ax_i 0), none, none] I Q) :
  RV (d + 2) kX7_addProduct 0 [some (ax_r a0), some (ax_r a1), some (ax_r a2), some (ax_i x3), none, none, none] I Q := by
  show Rn _ _ _ _ _ _ _ _
  refine r_iconst dX7_addProduct_0 ?_
  refine r_istore dX7_addProduct_1 (by decide) rfl ?_
  exact H

theorem vX7_addProduct_3 {d : Nat} {Q : ax_H → Prop} {a0 : Nat} {a1 : Nat} {a2 : Nat} {x3 : Int} {x4 : Int} {I : ax_H} (h0 : isPo a0) (h1 : isPo a1) (h2 : isPo a2) (r4 : ax_R x4) (H :
  ((I a1 1) ≤ x4 →
    cI (d + 1) kJ9_max_7cf53 [ax_i (I a0 1), ax_i ((I a1 1) + (I a2 1))] I (fun w4 I3 =>
    cI (d + 1) kJ9_min_7cf53 [ax_i 1300, ax_i w4] I3 (fun w6 I5 =>
    RV (d + 2) kX7_addProduct 121 [some (ax_r a0), none, none, none, some (ax_i w6), some (ax_i 0), none] I5 Q))) ∧
  (¬ (I a1 1) ≤ x4 →
    (1300 ≤ x4 →
      cI (d + 1) kJ9_max_7cf53 [ax_i (I a0 1), ax_i ((I a1 1) + (I a2 1))] I (fun w9 I8 =>
      cI (d + 1) kJ9_min_7cf53 [ax_i 1300, ax_i w9] I8 (fun w11 I10 =>
      RV (d + 2) kX7_addProduct 121 [some (ax_r a0), none, none, none, some (ax_i w11), some (ax_i 0), none] I10 Q))) ∧
    (¬ 1300 ≤ x4 →
      (0 ≤ x4 ∧ x4 < 1300) ∧
      (∀ y5_29, y5_29 = (x3 * (I (a1 + 1) x4)) →
      (RV (d + 2) kX7_addProduct 34 [some (ax_r a0), some (ax_r a1), some (ax_r a2), some (ax_i x3), some (ax_i x4), some (ax_i y5_29), some (ax_i 0)] I Q))))) :
  RV (d + 2) kX7_addProduct 3 [some (ax_r a0), some (ax_r a1), some (ax_r a2), some (ax_i x3), some (ax_i x4), none, none] I Q := by
  show Rn _ _ _ _ _ _ _ _
  refine r_iload dX7_addProduct_3 rfl ?_
  refine r_aload_n dX7_addProduct_5 rfl ?_
  refine r_getI clX7 1 1 (by decide) h1.1 rfl rfl wX7_15 dX7_addProduct_6 ?_
  refine r_heapR (fun hI1 => ?_)
  refine r_icmp_ge (tgt := 94) dX7_addProduct_9 (by decide) r4 (hI1 _ _) (fun c2 => ?_) (fun c2 => ?_)
  · have H := H.1 c2
    refine r_sipush (v := 1300) dX7_addProduct_94 (by decide) ?_
    refine r_aload_n dX7_addProduct_97 rfl ?_
    refine r_getI clX7 1 1 (by decide) h0.1 rfl rfl wX7_15 dX7_addProduct_98 ?_
    refine r_aload_n dX7_addProduct_101 rfl ?_
    refine r_getI clX7 1 1 (by decide) h1.1 rfl rfl wX7_15 dX7_addProduct_102 ?_
    refine r_aload_n dX7_addProduct_105 rfl ?_
    refine r_getI clX7 1 1 (by decide) h2.1 rfl rfl wX7_15 dX7_addProduct_106 ?_
    refine r_iadd dX7_addProduct_109 ?_
    refine r_cI (as := [ax_i (I a0 1), ax_i ((I a1 1) + (I a2 1))]) (how_S jJ9_max_7cf53 jSJ9_max_7cf53 rfl wX7_36 dX7_addProduct_110) rfl (Nat.le_refl _) (Nat.le_of_ble_eq_true rfl) (fun _ => Nat.le_of_ble_eq_true rfl) H (fun w4 I3 H => ?_)
    refine r_cI (as := [ax_i 1300, ax_i w4]) (how_S jJ9_min_7cf53 jSJ9_min_7cf53 rfl wX7_42 dX7_addProduct_113) rfl (Nat.le_refl _) (Nat.le_of_ble_eq_true rfl) (fun _ => Nat.le_of_ble_eq_true rfl) H (fun w6 I5 H => ?_)
    refine r_istore dX7_addProduct_116 (by decide) rfl ?_
    refine r_iconst dX7_addProduct_118 ?_
    refine r_istore dX7_addProduct_119 (by decide) rfl ?_
    refine r_drop (ls2 := [some (ax_r a0), none, none, none, some (ax_i w6), some (ax_i 0), none]) ?_ (ax_leS (ax_leN (ax_leN (ax_leN (ax_leS (ax_leS (ax_leN ax_leE)))))))
    exact H
  · have H := H.2 c2
    refine r_iload dX7_addProduct_12 rfl ?_
    refine r_sipush (v := 1300) dX7_addProduct_14 (by decide) ?_
    refine r_icmp_ge (tgt := 94) dX7_addProduct_17 (by decide) r4 (by decide) (fun c7 => ?_) (fun c7 => ?_)
    · have H := H.1 c7
      refine r_sipush (v := 1300) dX7_addProduct_94 (by decide) ?_
      refine r_aload_n dX7_addProduct_97 rfl ?_
      refine r_getI clX7 1 1 (by decide) h0.1 rfl rfl wX7_15 dX7_addProduct_98 ?_
      refine r_aload_n dX7_addProduct_101 rfl ?_
      refine r_getI clX7 1 1 (by decide) h1.1 rfl rfl wX7_15 dX7_addProduct_102 ?_
      refine r_aload_n dX7_addProduct_105 rfl ?_
      refine r_getI clX7 1 1 (by decide) h2.1 rfl rfl wX7_15 dX7_addProduct_106 ?_
      refine r_iadd dX7_addProduct_109 ?_
      refine r_cI (as := [ax_i (I a0 1), ax_i ((I a1 1) + (I a2 1))]) (how_S jJ9_max_7cf53 jSJ9_max_7cf53 rfl wX7_36 dX7_addProduct_110) rfl (Nat.le_refl _) (Nat.le_of_ble_eq_true rfl) (fun _ => Nat.le_of_ble_eq_true rfl) H (fun w9 I8 H => ?_)
      refine r_cI (as := [ax_i 1300, ax_i w9]) (how_S jJ9_min_7cf53 jSJ9_min_7cf53 rfl wX7_42 dX7_addProduct_113) rfl (Nat.le_refl _) (Nat.le_of_ble_eq_true rfl) (fun _ => Nat.le_of_ble_eq_true rfl) H (fun w11 I10 H => ?_)
      refine r_istore dX7_addProduct_116 (by decide) rfl ?_
      refine r_iconst dX7_addProduct_118 ?_
      refine r_istore dX7_addProduct_119 (by decide) rfl ?_
      refine r_drop (ls2 := [some (ax_r a0), none, none, none, some (ax_i w11), some (ax_i 0), none]) ?_ (ax_leS (ax_leN (ax_leN (ax_leN (ax_leS (ax_leS (ax_leN ax_leE)))))))
      exact H
    · have H := H.2 c7
      refine r_iload_n dX7_addProduct_20 rfl ?_
      refine r_aload_n dX7_addProduct_21 rfl ?_
      refine r_getR clX7 0 (by decide) h1.1 rfl rfl wX7_11 dX7_addProduct_22 ?_
      refine r_iload dX7_addProduct_25 rfl ?_
      have ob12 := H.1
      have H := H.2
      refine r_iald h1.2 (by decide) dX7_addProduct_27 ob12 ?_
      refine r_imul dX7_addProduct_28 ?_
      refine r_name (fun y5_29 e13 => ?_)
      have H := H y5_29 e13
      refine r_istore dX7_addProduct_29 (by decide) rfl ?_
      refine r_iconst dX7_addProduct_31 ?_
      refine r_istore dX7_addProduct_32 (by decide) rfl ?_
      exact H

theorem vX7_addProduct_34 {d : Nat} {Q : ax_H → Prop} {a0 : Nat} {a1 : Nat} {a2 : Nat} {x3 : Int} {x4 : Int} {x5 : Int} {x6 : Int} {I : ax_H} (h0 : isPo a0) (h1 : isPo a1) (h2 : isPo a2) (r5 : ax_R x5) (r6 : ax_R x6) (H :
  (x5 = 0 →
    RV (d + 2) kX7_addProduct 3 [some (ax_r a0), some (ax_r a1), some (ax_r a2), some (ax_i x3), some (ax_i (x4 + 1)), none, none] I Q) ∧
  (¬ x5 = 0 →
    ((I a2 1) ≤ x6 →
      RV (d + 2) kX7_addProduct 3 [some (ax_r a0), some (ax_r a1), some (ax_r a2), some (ax_i x3), some (ax_i (x4 + 1)), none, none] I Q) ∧
    (¬ (I a2 1) ≤ x6 →
      ax_R (x4 + x6) ∧
      ((1300 ≤ (x4 + x6) →
        RV (d + 2) kX7_addProduct 3 [some (ax_r a0), some (ax_r a1), some (ax_r a2), some (ax_i x3), some (ax_i (x4 + 1)), none, none] I Q) ∧
      (¬ 1300 ≤ (x4 + x6) →
        (0 ≤ (x4 + x6) ∧ (x4 + x6) < 1300) ∧
        ((0 ≤ x6 ∧ x6 < 1300) ∧
        (ax_R ((I (a0 + 1) (x4 + x6)) + (x5 * (I (a2 + 1) x6))) ∧
        (RV (d + 2) kX7_addProduct 34 [some (ax_r a0), some (ax_r a1), some (ax_r a2), some (ax_i x3), some (ax_i x4), some (ax_i x5), some (ax_i (x6 + 1))] (ax_st I (a0 + 1) (x4 + x6) ((I (a0 + 1) (x4 + x6)) + (x5 * (I (a2 + 1) x6)))) Q)))))))) :
  RV (d + 2) kX7_addProduct 34 [some (ax_r a0), some (ax_r a1), some (ax_r a2), some (ax_i x3), some (ax_i x4), some (ax_i x5), some (ax_i x6)] I Q := by
  show Rn _ _ _ _ _ _ _ _
  refine r_iload dX7_addProduct_34 rfl ?_
  refine r_if_eq (tgt := 88) dX7_addProduct_36 (by decide) r5 (fun c1 => ?_) (fun c1 => ?_)
  · have H := H.1 c1
    refine r_iinc dX7_addProduct_88 (by decide) rfl rfl ?_
    refine r_goto (tgt := 3) dX7_addProduct_91 (by decide) ?_
    refine r_drop (ls2 := [some (ax_r a0), some (ax_r a1), some (ax_r a2), some (ax_i x3), some (ax_i (x4 + 1)), none, none]) ?_ (ax_leS (ax_leS (ax_leS (ax_leS (ax_leS (ax_leN (ax_leN ax_leE)))))))
    exact H
  · have H := H.2 c1
    refine r_iload dX7_addProduct_39 rfl ?_
    refine r_aload_n dX7_addProduct_41 rfl ?_
    refine r_getI clX7 1 1 (by decide) h2.1 rfl rfl wX7_15 dX7_addProduct_42 ?_
    refine r_heapR (fun hI2 => ?_)
    refine r_icmp_ge (tgt := 88) dX7_addProduct_45 (by decide) r6 (hI2 _ _) (fun c3 => ?_) (fun c3 => ?_)
    · have H := H.1 c3
      refine r_iinc dX7_addProduct_88 (by decide) rfl rfl ?_
      refine r_goto (tgt := 3) dX7_addProduct_91 (by decide) ?_
      refine r_drop (ls2 := [some (ax_r a0), some (ax_r a1), some (ax_r a2), some (ax_i x3), some (ax_i (x4 + 1)), none, none]) ?_ (ax_leS (ax_leS (ax_leS (ax_leS (ax_leS (ax_leN (ax_leN ax_leE)))))))
      exact H
    · have H := H.2 c3
      refine r_iload dX7_addProduct_48 rfl ?_
      refine r_iload dX7_addProduct_50 rfl ?_
      refine r_iadd dX7_addProduct_52 ?_
      refine r_sipush (v := 1300) dX7_addProduct_53 (by decide) ?_
      have ob4 := H.1
      have H := H.2
      refine r_icmp_ge (tgt := 88) dX7_addProduct_56 (by decide) ob4 (by decide) (fun c5 => ?_) (fun c5 => ?_)
      · have H := H.1 c5
        refine r_iinc dX7_addProduct_88 (by decide) rfl rfl ?_
        refine r_goto (tgt := 3) dX7_addProduct_91 (by decide) ?_
        refine r_drop (ls2 := [some (ax_r a0), some (ax_r a1), some (ax_r a2), some (ax_i x3), some (ax_i (x4 + 1)), none, none]) ?_ (ax_leS (ax_leS (ax_leS (ax_leS (ax_leS (ax_leN (ax_leN ax_leE)))))))
        exact H
      · have H := H.2 c5
        refine r_aload_n dX7_addProduct_59 rfl ?_
        refine r_getR clX7 0 (by decide) h0.1 rfl rfl wX7_11 dX7_addProduct_60 ?_
        refine r_iload dX7_addProduct_63 rfl ?_
        refine r_iload dX7_addProduct_65 rfl ?_
        refine r_iadd dX7_addProduct_67 ?_
        refine r_dup2 dX7_addProduct_68 (fun _ => rfl) (fun _ => rfl) ?_
        have ob6 := H.1
        have H := H.2
        refine r_iald h0.2 (by decide) dX7_addProduct_69 ob6 ?_
        refine r_iload dX7_addProduct_70 rfl ?_
        refine r_aload_n dX7_addProduct_72 rfl ?_
        refine r_getR clX7 0 (by decide) h2.1 rfl rfl wX7_11 dX7_addProduct_73 ?_
        refine r_iload dX7_addProduct_76 rfl ?_
        have ob7 := H.1
        have H := H.2
        refine r_iald h2.2 (by decide) dX7_addProduct_78 ob7 ?_
        refine r_imul dX7_addProduct_79 ?_
        refine r_iadd dX7_addProduct_80 ?_
        have ob8 := H.1
        have H := H.2
        refine r_iast h0.2 (by decide) dX7_addProduct_81 ob6 ob8 ?_
        refine r_iinc dX7_addProduct_82 (by decide) rfl rfl ?_
        refine r_goto (tgt := 34) dX7_addProduct_85 (by decide) ?_
        exact H

theorem vX7_addProduct_121 {d : Nat} {Q : ax_H → Prop} {a0 : Nat} {x4 : Int} {x5 : Int} {I : ax_H} (h0 : isPo a0) (r4 : ax_R x4) (r5 : ax_R x5) (H :
  (x4 ≤ x5 →
    cV (d + 1) kX7_trim [ax_r a0, ax_i x4] I (fun I2 =>
    Q I2)) ∧
  (¬ x4 ≤ x5 →
    (0 ≤ x5 ∧ x5 < 1300) ∧
    (cI (d + 1) kX10_modulo [ax_i (I (a0 + 1) x5)] I (fun w5 I4 =>
    ax_R w5 ∧
    (RV (d + 2) kX7_addProduct 121 [some (ax_r a0), none, none, none, some (ax_i x4), some (ax_i (x5 + 1)), none] (ax_st I4 (a0 + 1) x5 w5) Q))))) :
  RV (d + 2) kX7_addProduct 121 [some (ax_r a0), none, none, none, some (ax_i x4), some (ax_i x5), none] I Q := by
  show Rn _ _ _ _ _ _ _ _
  refine r_iload dX7_addProduct_121 rfl ?_
  refine r_iload dX7_addProduct_123 rfl ?_
  refine r_icmp_ge (tgt := 151) dX7_addProduct_125 (by decide) r5 r4 (fun c1 => ?_) (fun c1 => ?_)
  · have H := H.1 c1
    refine r_aload_n dX7_addProduct_151 rfl ?_
    refine r_iload dX7_addProduct_152 rfl ?_
    refine r_cV (as := [ax_r a0, ax_i x4]) (how_V (ci := 7) jX7_trim jIX7_trim jVX7_trim rfl h0.1 (by decide) rfl rfl wX7_26 dX7_addProduct_154) rfl (Nat.le_refl _) (Nat.le_of_ble_eq_true rfl) (fun _ => Nat.le_of_ble_eq_true rfl) H (fun I2 H => ?_)
    exact r_vret dX7_addProduct_157 rfl ⟨rfl, rfl, H⟩
  · have H := H.2 c1
    refine r_aload_n dX7_addProduct_128 rfl ?_
    refine r_getR clX7 0 (by decide) h0.1 rfl rfl wX7_11 dX7_addProduct_129 ?_
    refine r_iload dX7_addProduct_132 rfl ?_
    refine r_aload_n dX7_addProduct_134 rfl ?_
    refine r_getR clX7 0 (by decide) h0.1 rfl rfl wX7_11 dX7_addProduct_135 ?_
    refine r_iload dX7_addProduct_138 rfl ?_
    have ob3 := H.1
    have H := H.2
    refine r_iald h0.2 (by decide) dX7_addProduct_140 ob3 ?_
    refine r_cI (as := [ax_i (I (a0 + 1) x5)]) (how_SN jX10_modulo jSX10_modulo rfl wX7_22 dX7_addProduct_141) rfl (Nat.le_refl _) (Nat.le_of_ble_eq_true rfl) (fun _ => Nat.le_of_ble_eq_true rfl) H (fun w5 I4 H => ?_)
    have ob6 := H.1
    have H := H.2
    refine r_iast h0.2 (by decide) dX7_addProduct_144 ob3 ob6 ?_
    refine r_iinc dX7_addProduct_145 (by decide) rfl rfl ?_
    refine r_goto (tgt := 121) dX7_addProduct_148 (by decide) ?_
    exact H

theorem vX7_divide_0 {d : Nat} {Q : ax_H → Prop} {a0 : Nat} {a1 : Nat} {a2 : Nat} {I : ax_H} (h0 : isPo a0) (h1 : isPo a1) (h2 : isPo a2) (H :
  cV (d + 1) kX7_clear [ax_r a2] I (fun I1 =>
  ((I1 a1 1) < 1 →
    Q I1) ∧
  (¬ (I1 a1 1) < 1 →
    (1300 < (I1 a1 1) →
      Q I1) ∧
    (¬ 1300 < (I1 a1 1) →
      (1300 < (I1 a0 1) →
        Q I1) ∧
      (¬ 1300 < (I1 a0 1) →
        ((I1 a1 1) ≤ (I1 a0 1) →
          (0 ≤ ((I1 a1 1) - 1) ∧ ((I1 a1 1) - 1) < 1300) ∧
          (cI (d + 1) kX10_modulo [ax_i (I1 (a1 + 1) ((I1 a1 1) - 1))] I1 (fun w9 I8 =>
          (0 ≤ w9 ∧ w9 < 31) ∧
          (∀ y3_62, y3_62 = (ax_inv w9) →
          (∀ y4_72, y4_72 = ((I8 a0 1) - (I8 a1 1)) →
          (RV (d + 2) kX7_divide 74 [some (ax_r a0), some (ax_r a1), some (ax_r a2), some (ax_i y3_62), some (ax_i y4_72), none, none] I8 Q)))))) ∧
        (¬ (I1 a1 1) ≤ (I1 a0 1) →
          Q I1)))))) :
  RV (d + 2) kX7_divide 0 [some (ax_r a0), some (ax_r a1), some (ax_r a2), none, none, none, none] I Q := by
  show Rn _ _ _ _ _ _ _ _
  refine r_aload_n dX7_divide_0 rfl ?_
  refine r_cV (as := [ax_r a2]) (how_V (ci := 7) jX7_clear jIX7_clear jVX7_clear rfl h2.1 (by decide) rfl rfl wX7_19 dX7_divide_1) rfl (Nat.le_refl _) (Nat.le_of_ble_eq_true rfl) (fun _ => Nat.le_of_ble_eq_true rfl) H (fun I1 H => ?_)
  refine r_aload_n dX7_divide_4 rfl ?_
  refine r_getI clX7 1 1 (by decide) h1.1 rfl rfl wX7_15 dX7_divide_5 ?_
  refine r_iconst dX7_divide_8 ?_
  refine r_heapR (fun hI2 => ?_)
  refine r_icmp_lt (tgt := 43) dX7_divide_9 (by decide) (hI2 _ _) (by decide) (fun c3 => ?_) (fun c3 => ?_)
  · have H := H.1 c3
    exact r_vret dX7_divide_43 rfl ⟨rfl, rfl, H⟩
  · have H := H.2 c3
    refine r_aload_n dX7_divide_12 rfl ?_
    refine r_getI clX7 1 1 (by decide) h1.1 rfl rfl wX7_15 dX7_divide_13 ?_
    refine r_sipush (v := 1300) dX7_divide_16 (by decide) ?_
    refine r_icmp_gt (tgt := 43) dX7_divide_19 (by decide) (hI2 _ _) (by decide) (fun c4 => ?_) (fun c4 => ?_)
    · have H := H.1 c4
      exact r_vret dX7_divide_43 rfl ⟨rfl, rfl, H⟩
    · have H := H.2 c4
      refine r_aload_n dX7_divide_22 rfl ?_
      refine r_getI clX7 1 1 (by decide) h0.1 rfl rfl wX7_15 dX7_divide_23 ?_
      refine r_sipush (v := 1300) dX7_divide_26 (by decide) ?_
      refine r_icmp_gt (tgt := 43) dX7_divide_29 (by decide) (hI2 _ _) (by decide) (fun c5 => ?_) (fun c5 => ?_)
      · have H := H.1 c5
        exact r_vret dX7_divide_43 rfl ⟨rfl, rfl, H⟩
      · have H := H.2 c5
        refine r_aload_n dX7_divide_32 rfl ?_
        refine r_getI clX7 1 1 (by decide) h0.1 rfl rfl wX7_15 dX7_divide_33 ?_
        refine r_aload_n dX7_divide_36 rfl ?_
        refine r_getI clX7 1 1 (by decide) h1.1 rfl rfl wX7_15 dX7_divide_37 ?_
        refine r_icmp_ge (tgt := 44) dX7_divide_40 (by decide) (hI2 _ _) (hI2 _ _) (fun c6 => ?_) (fun c6 => ?_)
        · have H := H.1 c6
          refine r_getInvN dX7_divide_44 wX7_45 ?_
          refine r_aload_n dX7_divide_47 rfl ?_
          refine r_getR clX7 0 (by decide) h1.1 rfl rfl wX7_11 dX7_divide_48 ?_
          refine r_aload_n dX7_divide_51 rfl ?_
          refine r_getI clX7 1 1 (by decide) h1.1 rfl rfl wX7_15 dX7_divide_52 ?_
          refine r_iconst dX7_divide_55 ?_
          refine r_isub dX7_divide_56 ?_
          have ob7 := H.1
          have H := H.2
          refine r_iald h1.2 (by decide) dX7_divide_57 ob7 ?_
          refine r_cI (as := [ax_i (I1 (a1 + 1) ((I1 a1 1) - 1))]) (how_SN jX10_modulo jSX10_modulo rfl wX7_22 dX7_divide_58) rfl (Nat.le_refl _) (Nat.le_of_ble_eq_true rfl) (fun _ => Nat.le_of_ble_eq_true rfl) H (fun w9 I8 H => ?_)
          have ob10 := H.1
          have H := H.2
          refine r_ialdInv dX7_divide_61 ob10 ?_
          refine r_name (fun y3_62 e11 => ?_)
          have H := H y3_62 e11
          refine r_istore_n dX7_divide_62 (by decide) rfl ?_
          refine r_aload_n dX7_divide_63 rfl ?_
          refine r_getI clX7 1 1 (by decide) h0.1 rfl rfl wX7_15 dX7_divide_64 ?_
          refine r_aload_n dX7_divide_67 rfl ?_
          refine r_getI clX7 1 1 (by decide) h1.1 rfl rfl wX7_15 dX7_divide_68 ?_
          refine r_isub dX7_divide_71 ?_
          refine r_name (fun y4_72 e12 => ?_)
          have H := H y4_72 e12
          refine r_istore dX7_divide_72 (by decide) rfl ?_
          exact H
        · have H := H.2 c6
          exact r_vret dX7_divide_43 rfl ⟨rfl, rfl, H⟩

theorem vX7_divide_74 {d : Nat} {Q : ax_H → Prop} {a0 : Nat} {a1 : Nat} {a2 : Nat} {x3 : Int} {x4 : Int} {I : ax_H} (h0 : isPo a0) (h1 : isPo a1) (h2 : isPo a2) (r4 : ax_R x4) (H :
  (x4 < 0 →
    cV (d + 1) kX7_trim [ax_r a2, ax_i (((I a0 1) - (I a1 1)) + 1)] I (fun I2 =>
    cV (d + 1) kX7_trim [ax_r a0, ax_i (I2 a0 1)] I2 (fun I3 =>
    Q I3))) ∧
  (¬ x4 < 0 →
    (0 ≤ ((x4 + (I a1 1)) - 1) ∧ ((x4 + (I a1 1)) - 1) < 1300) ∧
    ((0 ≤ ((I (a0 + 1) ((x4 + (I a1 1)) - 1)) * x3) ∧ ((I (a0 + 1) ((x4 + (I a1 1)) - 1)) * x3) < 2147483648) ∧
    (∀ y5_98, y5_98 = (((I (a0 + 1) ((x4 + (I a1 1)) - 1)) * x3) % 31) →
    ((0 ≤ x4 ∧ x4 < 1300) ∧
    (ax_R y5_98 ∧
    (RV (d + 2) kX7_divide 112 [some (ax_r a0), some (ax_r a1), some (ax_r a2), some (ax_i x3), some (ax_i x4), some (ax_i y5_98), some (ax_i 0)] (ax_st I (a2 + 1) x4 y5_98) Q))))))) :
  RV (d + 2) kX7_divide 74 [some (ax_r a0), some (ax_r a1), some (ax_r a2), some (ax_i x3), some (ax_i x4), none, none] I Q := by
  show Rn _ _ _ _ _ _ _ _
  refine r_iload dX7_divide_74 rfl ?_
  refine r_if_lt (tgt := 172) dX7_divide_76 (by decide) r4 (fun c1 => ?_) (fun c1 => ?_)
  · have H := H.1 c1
    refine r_aload_n dX7_divide_172 rfl ?_
    refine r_aload_n dX7_divide_173 rfl ?_
    refine r_getI clX7 1 1 (by decide) h0.1 rfl rfl wX7_15 dX7_divide_174 ?_
    refine r_aload_n dX7_divide_177 rfl ?_
    refine r_getI clX7 1 1 (by decide) h1.1 rfl rfl wX7_15 dX7_divide_178 ?_
    refine r_isub dX7_divide_181 ?_
    refine r_iconst dX7_divide_182 ?_
    refine r_iadd dX7_divide_183 ?_
    refine r_cV (as := [ax_r a2, ax_i (((I a0 1) - (I a1 1)) + 1)]) (how_V (ci := 7) jX7_trim jIX7_trim jVX7_trim rfl h2.1 (by decide) rfl rfl wX7_26 dX7_divide_184) rfl (Nat.le_refl _) (Nat.le_of_ble_eq_true rfl) (fun _ => Nat.le_of_ble_eq_true rfl) H (fun I2 H => ?_)
    refine r_aload_n dX7_divide_187 rfl ?_
    refine r_aload_n dX7_divide_188 rfl ?_
    refine r_getI clX7 1 1 (by decide) h0.1 rfl rfl wX7_15 dX7_divide_189 ?_
    refine r_cV (as := [ax_r a0, ax_i (I2 a0 1)]) (how_V (ci := 7) jX7_trim jIX7_trim jVX7_trim rfl h0.1 (by decide) rfl rfl wX7_26 dX7_divide_192) rfl (Nat.le_refl _) (Nat.le_of_ble_eq_true rfl) (fun _ => Nat.le_of_ble_eq_true rfl) H (fun I3 H => ?_)
    exact r_vret dX7_divide_195 rfl ⟨rfl, rfl, H⟩
  · have H := H.2 c1
    refine r_aload_n dX7_divide_79 rfl ?_
    refine r_getR clX7 0 (by decide) h0.1 rfl rfl wX7_11 dX7_divide_80 ?_
    refine r_iload dX7_divide_83 rfl ?_
    refine r_aload_n dX7_divide_85 rfl ?_
    refine r_getI clX7 1 1 (by decide) h1.1 rfl rfl wX7_15 dX7_divide_86 ?_
    refine r_iadd dX7_divide_89 ?_
    refine r_iconst dX7_divide_90 ?_
    refine r_isub dX7_divide_91 ?_
    have ob4 := H.1
    have H := H.2
    refine r_iald h0.2 (by decide) dX7_divide_92 ob4 ?_
    refine r_iload_n dX7_divide_93 rfl ?_
    refine r_imul dX7_divide_94 ?_
    refine r_bipush (v := 31) dX7_divide_95 (by decide) ?_
    have ob5 := H.1
    have H := H.2
    refine r_iremp dX7_divide_97 ob5 (by decide) ?_
    refine r_name (fun y5_98 e6 => ?_)
    have H := H y5_98 e6
    refine r_istore dX7_divide_98 (by decide) rfl ?_
    refine r_aload_n dX7_divide_100 rfl ?_
    refine r_getR clX7 0 (by decide) h2.1 rfl rfl wX7_11 dX7_divide_101 ?_
    refine r_iload dX7_divide_104 rfl ?_
    refine r_iload dX7_divide_106 rfl ?_
    have ob7 := H.1
    have H := H.2
    have ob8 := H.1
    have H := H.2
    refine r_iast h2.2 (by decide) dX7_divide_108 ob7 ob8 ?_
    refine r_iconst dX7_divide_109 ?_
    refine r_istore dX7_divide_110 (by decide) rfl ?_
    exact H

theorem vX7_divide_112 {d : Nat} {Q : ax_H → Prop} {a0 : Nat} {a1 : Nat} {a2 : Nat} {x3 : Int} {x4 : Int} {x5 : Int} {x6 : Int} {I : ax_H} (h0 : isPo a0) (h1 : isPo a1) (h2 : isPo a2) (r5 : ax_R x5) (r6 : ax_R x6) (H :
  (x5 = 0 →
    RV (d + 2) kX7_divide 74 [some (ax_r a0), some (ax_r a1), some (ax_r a2), some (ax_i x3), some (ax_i (x4 + (-1))), none, none] I Q) ∧
  (¬ x5 = 0 →
    ((I a1 1) ≤ x6 →
      RV (d + 2) kX7_divide 74 [some (ax_r a0), some (ax_r a1), some (ax_r a2), some (ax_i x3), some (ax_i (x4 + (-1))), none, none] I Q) ∧
    (¬ (I a1 1) ≤ x6 →
      (0 ≤ (x4 + x6) ∧ (x4 + x6) < 1300) ∧
      ((0 ≤ x6 ∧ x6 < 1300) ∧
      (cI (d + 1) kX10_modulo [ax_i ((I (a0 + 1) (x4 + x6)) - (x5 * (I (a1 + 1) x6)))] I (fun w7 I6 =>
      ax_R w7 ∧
      (RV (d + 2) kX7_divide 112 [some (ax_r a0), some (ax_r a1), some (ax_r a2), some (ax_i x3), some (ax_i x4), some (ax_i x5), some (ax_i (x6 + 1))] (ax_st I6 (a0 + 1) (x4 + x6) w7) Q))))))) :
  RV (d + 2) kX7_divide 112 [some (ax_r a0), some (ax_r a1), some (ax_r a2), some (ax_i x3), some (ax_i x4), some (ax_i x5), some (ax_i x6)] I Q := by
  show Rn _ _ _ _ _ _ _ _
  refine r_iload dX7_divide_112 rfl ?_
  refine r_if_eq (tgt := 166) dX7_divide_114 (by decide) r5 (fun c1 => ?_) (fun c1 => ?_)
  · have H := H.1 c1
    refine r_iinc dX7_divide_166 (by decide) rfl rfl ?_
    refine r_goto (tgt := 74) dX7_divide_169 (by decide) ?_
    refine r_drop (ls2 := [some (ax_r a0), some (ax_r a1), some (ax_r a2), some (ax_i x3), some (ax_i (x4 + (-1))), none, none]) ?_ (ax_leS (ax_leS (ax_leS (ax_leS (ax_leS (ax_leN (ax_leN ax_leE)))))))
    exact H
  · have H := H.2 c1
    refine r_iload dX7_divide_117 rfl ?_
    refine r_aload_n dX7_divide_119 rfl ?_
    refine r_getI clX7 1 1 (by decide) h1.1 rfl rfl wX7_15 dX7_divide_120 ?_
    refine r_heapR (fun hI2 => ?_)
    refine r_icmp_ge (tgt := 166) dX7_divide_123 (by decide) r6 (hI2 _ _) (fun c3 => ?_) (fun c3 => ?_)
    · have H := H.1 c3
      refine r_iinc dX7_divide_166 (by decide) rfl rfl ?_
      refine r_goto (tgt := 74) dX7_divide_169 (by decide) ?_
      refine r_drop (ls2 := [some (ax_r a0), some (ax_r a1), some (ax_r a2), some (ax_i x3), some (ax_i (x4 + (-1))), none, none]) ?_ (ax_leS (ax_leS (ax_leS (ax_leS (ax_leS (ax_leN (ax_leN ax_leE)))))))
      exact H
    · have H := H.2 c3
      refine r_aload_n dX7_divide_126 rfl ?_
      refine r_getR clX7 0 (by decide) h0.1 rfl rfl wX7_11 dX7_divide_127 ?_
      refine r_iload dX7_divide_130 rfl ?_
      refine r_iload dX7_divide_132 rfl ?_
      refine r_iadd dX7_divide_134 ?_
      refine r_aload_n dX7_divide_135 rfl ?_
      refine r_getR clX7 0 (by decide) h0.1 rfl rfl wX7_11 dX7_divide_136 ?_
      refine r_iload dX7_divide_139 rfl ?_
      refine r_iload dX7_divide_141 rfl ?_
      refine r_iadd dX7_divide_143 ?_
      have ob4 := H.1
      have H := H.2
      refine r_iald h0.2 (by decide) dX7_divide_144 ob4 ?_
      refine r_iload dX7_divide_145 rfl ?_
      refine r_aload_n dX7_divide_147 rfl ?_
      refine r_getR clX7 0 (by decide) h1.1 rfl rfl wX7_11 dX7_divide_148 ?_
      refine r_iload dX7_divide_151 rfl ?_
      have ob5 := H.1
      have H := H.2
      refine r_iald h1.2 (by decide) dX7_divide_153 ob5 ?_
      refine r_imul dX7_divide_154 ?_
      refine r_isub dX7_divide_155 ?_
      refine r_cI (as := [ax_i ((I (a0 + 1) (x4 + x6)) - (x5 * (I (a1 + 1) x6)))]) (how_SN jX10_modulo jSX10_modulo rfl wX7_22 dX7_divide_156) rfl (Nat.le_refl _) (Nat.le_of_ble_eq_true rfl) (fun _ => Nat.le_of_ble_eq_true rfl) H (fun w7 I6 H => ?_)
      have ob8 := H.1
      have H := H.2
      refine r_iast h0.2 (by decide) dX7_divide_159 ob4 ob8 ?_
      refine r_iinc dX7_divide_160 (by decide) rfl rfl ?_
      refine r_goto (tgt := 112) dX7_divide_163 (by decide) ?_
      exact H
