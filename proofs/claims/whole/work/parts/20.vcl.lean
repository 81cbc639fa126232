theorem vX0_append_0 {d : Nat} {Q : ax_H → Prop} {a0 : Nat} {x1 : Int} {I : ax_H} (h0 : isBy a0) (r1 : ax_R x1) (H :
  ((I a0 1) < 0 →
    Q I) ∧
  (¬ (I a0 1) < 0 →
    (60 ≤ (I a0 1) →
      Q I) ∧
    (¬ 60 ≤ (I a0 1) →
      (0 ≤ (I a0 1) ∧ (I a0 1) < 60) ∧
      (ax_R (((ax_st I (a0 + 1) (I a0 1) x1) a0 1) + 1) ∧
      (Q (ax_st (ax_st I (a0 + 1) (I a0 1) x1) a0 1 (((ax_st I (a0 + 1) (I a0 1) x1) a0 1) + 1))))))) :
  RV d kX0_append 0 [some (ax_r a0), some (ax_i x1)] I Q := by
  show Rn _ _ _ _ _ _ _ _
  refine r_aload_n dX0_append_0 rfl ?_
  refine r_getI clX0 1 1 (by decide) h0.1 rfl rfl wX0_15 dX0_append_1 ?_
  refine r_heapR (fun hI1 => ?_)
  refine r_if_lt (tgt := 39) dX0_append_4 (by decide) (hI1 _ _) (fun c2 => ?_) (fun c2 => ?_)
  · have H := H.1 c2
    exact r_vret dX0_append_39 rfl ⟨rfl, rfl, H⟩
  · have H := H.2 c2
    refine r_aload_n dX0_append_7 rfl ?_
    refine r_getI clX0 1 1 (by decide) h0.1 rfl rfl wX0_15 dX0_append_8 ?_
    refine r_aload_n dX0_append_11 rfl ?_
    refine r_getR clX0 0 (by decide) h0.1 rfl rfl wX0_9 dX0_append_12 ?_
    refine r_alen h0.2 dX0_append_15 60 rfl ?_
    refine r_icmp_ge (tgt := 39) dX0_append_16 (by decide) (hI1 _ _) (by decide) (fun c3 => ?_) (fun c3 => ?_)
    · have H := H.1 c3
      exact r_vret dX0_append_39 rfl ⟨rfl, rfl, H⟩
    · have H := H.2 c3
      refine r_aload_n dX0_append_19 rfl ?_
      refine r_getR clX0 0 (by decide) h0.1 rfl rfl wX0_9 dX0_append_20 ?_
      refine r_aload_n dX0_append_23 rfl ?_
      refine r_getI clX0 1 1 (by decide) h0.1 rfl rfl wX0_15 dX0_append_24 ?_
      refine r_iload_n dX0_append_27 rfl ?_
      have ob4 := H.1
      have H := H.2
      refine r_iast h0.2 (by decide) dX0_append_28 ob4 r1 ?_
      refine r_aload_n dX0_append_29 rfl ?_
      refine r_dup dX0_append_30 (fun _ => rfl) ?_
      refine r_getI clX0 1 1 (by decide) h0.1 rfl rfl wX0_15 dX0_append_31 ?_
      refine r_iconst dX0_append_34 ?_
      refine r_iadd dX0_append_35 ?_
      have ob5 := H.1
      have H := H.2
      refine r_putI clX0 1 1 (by decide) h0.1 rfl rfl rfl ob5 rfl rfl wX0_15 dX0_append_36 ?_
      exact r_vret dX0_append_39 rfl ⟨rfl, rfl, H⟩

theorem vX0_byteAt_0 {d : Nat} {Q : Int → ax_H → Prop} {a0 : Nat} {x1 : Int} {I : ax_H} (h0 : isBy a0) (r1 : ax_R x1) (H :
  (x1 < 0 →
    Q 0 I) ∧
  (¬ x1 < 0 →
    ((I a0 1) ≤ x1 →
      Q 0 I) ∧
    (¬ (I a0 1) ≤ x1 →
      (60 ≤ x1 →
        Q 0 I) ∧
      (¬ 60 ≤ x1 →
        (0 ≤ x1 ∧ x1 < 60) ∧
        (Q (I (a0 + 1) x1) I))))) :
  RI d kX0_byteAt 0 [some (ax_r a0), some (ax_i x1)] I Q := by
  show Rn _ _ _ _ _ _ _ _
  refine r_iload_n dX0_byteAt_0 rfl ?_
  refine r_if_lt (tgt := 30) dX0_byteAt_1 (by decide) r1 (fun c1 => ?_) (fun c1 => ?_)
  · have H := H.1 c1
    refine r_iconst dX0_byteAt_30 ?_
    exact r_iret dX0_byteAt_31 rfl ⟨rfl, _, rfl, H⟩
  · have H := H.2 c1
    refine r_iload_n dX0_byteAt_4 rfl ?_
    refine r_aload_n dX0_byteAt_5 rfl ?_
    refine r_getI clX0 1 1 (by decide) h0.1 rfl rfl wX0_15 dX0_byteAt_6 ?_
    refine r_heapR (fun hI2 => ?_)
    refine r_icmp_ge (tgt := 30) dX0_byteAt_9 (by decide) r1 (hI2 _ _) (fun c3 => ?_) (fun c3 => ?_)
    · have H := H.1 c3
      refine r_iconst dX0_byteAt_30 ?_
      exact r_iret dX0_byteAt_31 rfl ⟨rfl, _, rfl, H⟩
    · have H := H.2 c3
      refine r_iload_n dX0_byteAt_12 rfl ?_
      refine r_aload_n dX0_byteAt_13 rfl ?_
      refine r_getR clX0 0 (by decide) h0.1 rfl rfl wX0_9 dX0_byteAt_14 ?_
      refine r_alen h0.2 dX0_byteAt_17 60 rfl ?_
      refine r_icmp_ge (tgt := 30) dX0_byteAt_18 (by decide) r1 (by decide) (fun c4 => ?_) (fun c4 => ?_)
      · have H := H.1 c4
        refine r_iconst dX0_byteAt_30 ?_
        exact r_iret dX0_byteAt_31 rfl ⟨rfl, _, rfl, H⟩
      · have H := H.2 c4
        refine r_aload_n dX0_byteAt_21 rfl ?_
        refine r_getR clX0 0 (by decide) h0.1 rfl rfl wX0_9 dX0_byteAt_22 ?_
        refine r_iload_n dX0_byteAt_25 rfl ?_
        have ob5 := H.1
        have H := H.2
        refine r_iald h0.2 (by decide) dX0_byteAt_26 ob5 ?_
        refine r_goto (tgt := 31) dX0_byteAt_27 (by decide) ?_
        exact r_iret dX0_byteAt_31 rfl ⟨rfl, _, rfl, H⟩

theorem vX0_alikeFrom_0 {d : Nat} {Q : Int → ax_H → Prop} {a0 : Nat} {x1 : Int} {x2 : Int} {I : ax_H} (h0 : isBy a0) (r2 : ax_R x2) (H :
  cI d kX0_byteAt [ax_r a0, ax_i x1] I (fun w2 I1 =>
  ax_R w2 ∧
  ((w2 = x2 →
    cI d kX0_byteAt [ax_r a0, ax_i (x1 + 1)] I1 (fun w6 I5 =>
    ax_R w6 ∧
    ((w6 ≠ x2 →
      Q 1 I5) ∧
    (w6 = x2 →
      Q 2 I5)))) ∧
  (¬ w2 = x2 →
    Q 0 I1)))) :
  RI (d + 1) kX0_alikeFrom 0 [some (ax_r a0), some (ax_i x1), some (ax_i x2)] I Q := by
  show Rn _ _ _ _ _ _ _ _
  refine r_aload_n dX0_alikeFrom_0 rfl ?_
  refine r_iload_n dX0_alikeFrom_1 rfl ?_
  refine r_cI (as := [ax_r a0, ax_i x1]) (how_V (ci := 0) jX0_byteAt jIX0_byteAt jVX0_byteAt rfl h0.1 (by decide) rfl rfl wX0_19 dX0_alikeFrom_2) rfl (Nat.le_refl _) (Nat.le_of_ble_eq_true rfl) (fun _ => Nat.le_of_ble_eq_true rfl) H (fun w2 I1 H => ?_)
  refine r_iload_n dX0_alikeFrom_5 rfl ?_
  have ob3 := H.1
  have H := H.2
  refine r_icmp_eq (tgt := 11) dX0_alikeFrom_6 (by decide) ob3 r2 (fun c4 => ?_) (fun c4 => ?_)
  · have H := H.1 c4
    refine r_aload_n dX0_alikeFrom_11 rfl ?_
    refine r_iload_n dX0_alikeFrom_12 rfl ?_
    refine r_iconst dX0_alikeFrom_13 ?_
    refine r_iadd dX0_alikeFrom_14 ?_
    refine r_cI (as := [ax_r a0, ax_i (x1 + 1)]) (how_V (ci := 0) jX0_byteAt jIX0_byteAt jVX0_byteAt rfl h0.1 (by decide) rfl rfl wX0_19 dX0_alikeFrom_15) rfl (Nat.le_refl _) (Nat.le_of_ble_eq_true rfl) (fun _ => Nat.le_of_ble_eq_true rfl) H (fun w6 I5 H => ?_)
    refine r_iload_n dX0_alikeFrom_18 rfl ?_
    have ob7 := H.1
    have H := H.2
    refine r_icmp_ne (tgt := 26) dX0_alikeFrom_19 (by decide) ob7 r2 (fun c8 => ?_) (fun c8 => ?_)
    · have H := H.1 c8
      refine r_iconst dX0_alikeFrom_26 ?_
      exact r_iret dX0_alikeFrom_27 rfl ⟨rfl, _, rfl, H⟩
    · have H := H.2 c8
      refine r_iconst dX0_alikeFrom_22 ?_
      refine r_goto (tgt := 27) dX0_alikeFrom_23 (by decide) ?_
      exact r_iret dX0_alikeFrom_27 rfl ⟨rfl, _, rfl, H⟩
  · have H := H.2 c4
    refine r_iconst dX0_alikeFrom_9 ?_
    exact r_iret dX0_alikeFrom_10 rfl ⟨rfl, _, rfl, H⟩

theorem vX0_readTerms_0 {d : Nat} {Q : Int → ax_H → Prop} {a0 : Nat} {I : ax_H} (h0 : isBy a0) (H :
  RI (d + 3) kX0_readTerms 2 [some (ax_r a0), some (ax_r 77), some (ax_i 0), none, none, none, none, none] I Q) :
  RI (d + 3) kX0_readTerms 0 [some (ax_r a0), some (ax_r 77), none, none, none, none, none, none] I Q := by
  show Rn _ _ _ _ _ _ _ _
  refine r_iconst dX0_readTerms_0 ?_
  refine r_istore_n dX0_readTerms_1 (by decide) rfl ?_
  exact H

theorem vX0_readTerms_2 {d : Nat} {Q : Int → ax_H → Prop} {a0 : Nat} {x2 : Int} {I : ax_H} (h0 : isBy a0) (r2 : ax_R x2) (H :
  (9 ≤ x2 →
    RI (d + 3) kX0_readTerms 22 [some (ax_r a0), some (ax_r 77), some (ax_i 0), some (ax_i 1), none, none, none, none] I Q) ∧
  (¬ 9 ≤ x2 →
    (0 ≤ x2 ∧ x2 < 9) ∧
    (RI (d + 3) kX0_readTerms 2 [some (ax_r a0), some (ax_r 77), some (ax_i (x2 + 1)), none, none, none, none, none] (ax_st I 77 x2 0) Q))) :
  RI (d + 3) kX0_readTerms 2 [some (ax_r a0), some (ax_r 77), some (ax_i x2), none, none, none, none, none] I Q := by
  show Rn _ _ _ _ _ _ _ _
  refine r_iload_n dX0_readTerms_2 rfl ?_
  refine r_aload_n dX0_readTerms_3 rfl ?_
  refine r_alen s0_77 dX0_readTerms_4 9 rfl ?_
  refine r_icmp_ge (tgt := 18) dX0_readTerms_5 (by decide) r2 (by decide) (fun c1 => ?_) (fun c1 => ?_)
  · have H := H.1 c1
    refine r_iconst dX0_readTerms_18 ?_
    refine r_istore_n dX0_readTerms_19 (by decide) rfl ?_
    refine r_iconst dX0_readTerms_20 ?_
    refine r_istore_n dX0_readTerms_21 (by decide) rfl ?_
    exact H
  · have H := H.2 c1
    refine r_aload_n dX0_readTerms_8 rfl ?_
    refine r_iload_n dX0_readTerms_9 rfl ?_
    refine r_iconst dX0_readTerms_10 ?_
    have ob2 := H.1
    have H := H.2
    refine r_iast s0_77 (by decide) dX0_readTerms_11 ob2 (by decide) ?_
    refine r_iinc dX0_readTerms_12 (by decide) rfl rfl ?_
    refine r_goto (tgt := 2) dX0_readTerms_15 (by decide) ?_
    exact H

theorem vX0_readTerms_22 {d : Nat} {Q : Int → ax_H → Prop} {a0 : Nat} {x2 : Int} {x3 : Int} {I : ax_H} (h0 : isBy a0) (r3 : ax_R x3) (H :
  (60 < x3 →
    Q ((-100) - x2) I) ∧
  (¬ 60 < x3 →
    cI (d + 2) kX0_byteAt [ax_r a0, ax_i x2] I (fun w3 I2 =>
    ∀ y4_36, y4_36 = (w3 - 48) →
    (ax_R y4_36 ∧
    ((y4_36 < 1 →
      Q ((-100) - x2) I2) ∧
    (¬ y4_36 < 1 →
      (y4_36 ≤ 9 →
        cI (d + 2) kX0_byteAt [ax_r a0, ax_i (x2 + 1)] I2 (fun w9 I8 =>
        ∀ y5_67, y5_67 = (w9 - 48) →
        (ax_R y5_67 ∧
        ((y5_67 < 0 →
          cI (d + 2) kX0_alikeFrom [ax_r a0, ax_i (x2 + 1), ax_i 120] I8 (fun w14 I13 =>
          ∀ y2_120, y2_120 = ((x2 + 1) + w14) →
          (cI (d + 2) kX0_alikeFrom [ax_r a0, ax_i y2_120, ax_i 121] I13 (fun w17 I16 =>
          ∀ y2_134, y2_134 = (y2_120 + w17) →
          (cV (d + 2) kX0_addTo [ax_r 77, ax_i ((3 * w14) + w17), ax_i y4_36] I16 (fun I19 =>
          ax_R y2_134 ∧
          ((y2_134 < (I19 a0 1) →
            cI (d + 2) kX0_byteAt [ax_r a0, ax_i y2_134] I19 (fun w24 I23 =>
            ax_R w24 ∧
            ((w24 = 43 →
              RI (d + 3) kX0_readTerms 22 [some (ax_r a0), some (ax_r 77), some (ax_i (y2_134 + 1)), some (ax_i (x3 + 1)), none, none, none, none] I23 Q) ∧
            (¬ w24 = 43 →
              Q ((-100) - y2_134) I23)))) ∧
          (¬ y2_134 < (I19 a0 1) →
            Q x3 I19)))))))) ∧
        (¬ y5_67 < 0 →
          (9 < y5_67 →
            cI (d + 2) kX0_alikeFrom [ax_r a0, ax_i (x2 + 1), ax_i 120] I8 (fun w29 I28 =>
            ∀ y2_120, y2_120 = ((x2 + 1) + w29) →
            (cI (d + 2) kX0_alikeFrom [ax_r a0, ax_i y2_120, ax_i 121] I28 (fun w32 I31 =>
            ∀ y2_134, y2_134 = (y2_120 + w32) →
            (cV (d + 2) kX0_addTo [ax_r 77, ax_i ((3 * w29) + w32), ax_i y4_36] I31 (fun I34 =>
            ax_R y2_134 ∧
            ((y2_134 < (I34 a0 1) →
              cI (d + 2) kX0_byteAt [ax_r a0, ax_i y2_134] I34 (fun w39 I38 =>
              ax_R w39 ∧
              ((w39 = 43 →
                RI (d + 3) kX0_readTerms 22 [some (ax_r a0), some (ax_r 77), some (ax_i (y2_134 + 1)), some (ax_i (x3 + 1)), none, none, none, none] I38 Q) ∧
              (¬ w39 = 43 →
                Q ((-100) - y2_134) I38)))) ∧
            (¬ y2_134 < (I34 a0 1) →
              Q x3 I34)))))))) ∧
          (¬ 9 < y5_67 →
            ax_R ((10 * y4_36) + y5_67) ∧
            ((30 < ((10 * y4_36) + y5_67) →
              cI (d + 2) kX0_alikeFrom [ax_r a0, ax_i (x2 + 1), ax_i 120] I8 (fun w45 I44 =>
              ∀ y2_120, y2_120 = ((x2 + 1) + w45) →
              (cI (d + 2) kX0_alikeFrom [ax_r a0, ax_i y2_120, ax_i 121] I44 (fun w48 I47 =>
              ∀ y2_134, y2_134 = (y2_120 + w48) →
              (cV (d + 2) kX0_addTo [ax_r 77, ax_i ((3 * w45) + w48), ax_i y4_36] I47 (fun I50 =>
              ax_R y2_134 ∧
              ((y2_134 < (I50 a0 1) →
                cI (d + 2) kX0_byteAt [ax_r a0, ax_i y2_134] I50 (fun w55 I54 =>
                ax_R w55 ∧
                ((w55 = 43 →
                  RI (d + 3) kX0_readTerms 22 [some (ax_r a0), some (ax_r 77), some (ax_i (y2_134 + 1)), some (ax_i (x3 + 1)), none, none, none, none] I54 Q) ∧
                (¬ w55 = 43 →
                  Q ((-100) - y2_134) I54)))) ∧
              (¬ y2_134 < (I50 a0 1) →
                Q x3 I50)))))))) ∧
            (¬ 30 < ((10 * y4_36) + y5_67) →
              ∀ y4_102, y4_102 = ((10 * y4_36) + y5_67) →
              (cI (d + 2) kX0_alikeFrom [ax_r a0, ax_i ((x2 + 1) + 1), ax_i 120] I8 (fun w60 I59 =>
              ∀ y2_120, y2_120 = (((x2 + 1) + 1) + w60) →
              (cI (d + 2) kX0_alikeFrom [ax_r a0, ax_i y2_120, ax_i 121] I59 (fun w63 I62 =>
              ∀ y2_134, y2_134 = (y2_120 + w63) →
              (cV (d + 2) kX0_addTo [ax_r 77, ax_i ((3 * w60) + w63), ax_i y4_102] I62 (fun I65 =>
              ax_R y2_134 ∧
              ((y2_134 < (I65 a0 1) →
                cI (d + 2) kX0_byteAt [ax_r a0, ax_i y2_134] I65 (fun w70 I69 =>
                ax_R w70 ∧
                ((w70 = 43 →
                  RI (d + 3) kX0_readTerms 22 [some (ax_r a0), some (ax_r 77), some (ax_i (y2_134 + 1)), some (ax_i (x3 + 1)), none, none, none, none] I69 Q) ∧
                (¬ w70 = 43 →
                  Q ((-100) - y2_134) I69)))) ∧
              (¬ y2_134 < (I65 a0 1) →
                Q x3 I65)))))))))))))))) ∧
      (¬ y4_36 ≤ 9 →
        Q ((-100) - x2) I2))))))) :
  RI (d + 3) kX0_readTerms 22 [some (ax_r a0), some (ax_r 77), some (ax_i x2), some (ax_i x3), none, none, none, none] I Q := by
  show Rn _ _ _ _ _ _ _ _
  refine r_iload_n dX0_readTerms_22 rfl ?_
  refine r_bipush (v := 60) dX0_readTerms_23 (by decide) ?_
  refine r_icmp_gt (tgt := 182) dX0_readTerms_25 (by decide) r3 (by decide) (fun c1 => ?_) (fun c1 => ?_)
  · have H := H.1 c1
    refine r_bipush (v := (-100)) dX0_readTerms_182 (by decide) ?_
    refine r_iload_n dX0_readTerms_184 rfl ?_
    refine r_isub dX0_readTerms_185 ?_
    exact r_iret dX0_readTerms_186 rfl ⟨rfl, _, rfl, H⟩
  · have H := H.2 c1
    refine r_aload_n dX0_readTerms_28 rfl ?_
    refine r_iload_n dX0_readTerms_29 rfl ?_
    refine r_cI (as := [ax_r a0, ax_i x2]) (how_V (ci := 0) jX0_byteAt jIX0_byteAt jVX0_byteAt rfl h0.1 (by decide) rfl rfl wX0_19 dX0_readTerms_30) rfl (Nat.le_refl _) (Nat.le_of_ble_eq_true rfl) (fun _ => Nat.le_of_ble_eq_true rfl) H (fun w3 I2 H => ?_)
    refine r_bipush (v := 48) dX0_readTerms_33 (by decide) ?_
    refine r_isub dX0_readTerms_35 ?_
    refine r_name (fun y4_36 e4 => ?_)
    have H := H y4_36 e4
    refine r_istore dX0_readTerms_36 (by decide) rfl ?_
    refine r_iload dX0_readTerms_38 rfl ?_
    refine r_iconst dX0_readTerms_40 ?_
    have ob5 := H.1
    have H := H.2
    refine r_icmp_lt (tgt := 51) dX0_readTerms_41 (by decide) ob5 (by decide) (fun c6 => ?_) (fun c6 => ?_)
    · have H := H.1 c6
      refine r_bipush (v := (-100)) dX0_readTerms_51 (by decide) ?_
      refine r_iload_n dX0_readTerms_53 rfl ?_
      refine r_isub dX0_readTerms_54 ?_
      exact r_iret dX0_readTerms_55 rfl ⟨rfl, _, rfl, H⟩
    · have H := H.2 c6
      refine r_iload dX0_readTerms_44 rfl ?_
      refine r_bipush (v := 9) dX0_readTerms_46 (by decide) ?_
      refine r_icmp_le (tgt := 56) dX0_readTerms_48 (by decide) ob5 (by decide) (fun c7 => ?_) (fun c7 => ?_)
      · have H := H.1 c7
        refine r_iinc dX0_readTerms_56 (by decide) rfl rfl ?_
        refine r_aload_n dX0_readTerms_59 rfl ?_
        refine r_iload_n dX0_readTerms_60 rfl ?_
        refine r_cI (as := [ax_r a0, ax_i (x2 + 1)]) (how_V (ci := 0) jX0_byteAt jIX0_byteAt jVX0_byteAt rfl h0.1 (by decide) rfl rfl wX0_19 dX0_readTerms_61) rfl (Nat.le_refl _) (Nat.le_of_ble_eq_true rfl) (fun _ => Nat.le_of_ble_eq_true rfl) H (fun w9 I8 H => ?_)
        refine r_bipush (v := 48) dX0_readTerms_64 (by decide) ?_
        refine r_isub dX0_readTerms_66 ?_
        refine r_name (fun y5_67 e10 => ?_)
        have H := H y5_67 e10
        refine r_istore dX0_readTerms_67 (by decide) rfl ?_
        refine r_iload dX0_readTerms_69 rfl ?_
        have ob11 := H.1
        have H := H.2
        refine r_if_lt (tgt := 107) dX0_readTerms_71 (by decide) ob11 (fun c12 => ?_) (fun c12 => ?_)
        · have H := H.1 c12
          refine r_aload_n dX0_readTerms_107 rfl ?_
          refine r_iload_n dX0_readTerms_108 rfl ?_
          refine r_bipush (v := 120) dX0_readTerms_109 (by decide) ?_
          refine r_cI (as := [ax_r a0, ax_i (x2 + 1), ax_i 120]) (how_V (ci := 0) jX0_alikeFrom jIX0_alikeFrom jVX0_alikeFrom rfl h0.1 (by decide) rfl rfl wX0_23 dX0_readTerms_111) rfl (Nat.le_refl _) (Nat.le_of_ble_eq_true rfl) (fun _ => Nat.le_of_ble_eq_true rfl) H (fun w14 I13 H => ?_)
          refine r_istore dX0_readTerms_114 (by decide) rfl ?_
          refine r_iload_n dX0_readTerms_116 rfl ?_
          refine r_iload dX0_readTerms_117 rfl ?_
          refine r_iadd dX0_readTerms_119 ?_
          refine r_name (fun y2_120 e15 => ?_)
          have H := H y2_120 e15
          refine r_istore_n dX0_readTerms_120 (by decide) rfl ?_
          refine r_aload_n dX0_readTerms_121 rfl ?_
          refine r_iload_n dX0_readTerms_122 rfl ?_
          refine r_bipush (v := 121) dX0_readTerms_123 (by decide) ?_
          refine r_cI (as := [ax_r a0, ax_i y2_120, ax_i 121]) (how_V (ci := 0) jX0_alikeFrom jIX0_alikeFrom jVX0_alikeFrom rfl h0.1 (by decide) rfl rfl wX0_23 dX0_readTerms_125) rfl (Nat.le_refl _) (Nat.le_of_ble_eq_true rfl) (fun _ => Nat.le_of_ble_eq_true rfl) H (fun w17 I16 H => ?_)
          refine r_istore dX0_readTerms_128 (by decide) rfl ?_
          refine r_iload_n dX0_readTerms_130 rfl ?_
          refine r_iload dX0_readTerms_131 rfl ?_
          refine r_iadd dX0_readTerms_133 ?_
          refine r_name (fun y2_134 e18 => ?_)
          have H := H y2_134 e18
          refine r_istore_n dX0_readTerms_134 (by decide) rfl ?_
          refine r_aload_n dX0_readTerms_135 rfl ?_
          refine r_iconst dX0_readTerms_136 ?_
          refine r_iload dX0_readTerms_137 rfl ?_
          refine r_imul dX0_readTerms_139 ?_
          refine r_iload dX0_readTerms_140 rfl ?_
          refine r_iadd dX0_readTerms_142 ?_
          refine r_iload dX0_readTerms_143 rfl ?_
          refine r_cV (as := [ax_r 77, ax_i ((3 * w14) + w17), ax_i y4_36]) (how_S jX0_addTo jSX0_addTo rfl wX0_27 dX0_readTerms_145) rfl (Nat.le_refl _) (Nat.le_of_ble_eq_true rfl) (fun _ => Nat.le_of_ble_eq_true rfl) H (fun I19 H => ?_)
          refine r_iload_n dX0_readTerms_148 rfl ?_
          refine r_aload_n dX0_readTerms_149 rfl ?_
          refine r_getI clX0 1 1 (by decide) h0.1 rfl rfl wX0_15 dX0_readTerms_150 ?_
          have ob20 := H.1
          have H := H.2
          refine r_heapR (fun hI21 => ?_)
          refine r_icmp_lt (tgt := 158) dX0_readTerms_153 (by decide) ob20 (hI21 _ _) (fun c22 => ?_) (fun c22 => ?_)
          · have H := H.1 c22
            refine r_aload_n dX0_readTerms_158 rfl ?_
            refine r_iload_n dX0_readTerms_159 rfl ?_
            refine r_cI (as := [ax_r a0, ax_i y2_134]) (how_V (ci := 0) jX0_byteAt jIX0_byteAt jVX0_byteAt rfl h0.1 (by decide) rfl rfl wX0_19 dX0_readTerms_160) rfl (Nat.le_refl _) (Nat.le_of_ble_eq_true rfl) (fun _ => Nat.le_of_ble_eq_true rfl) H (fun w24 I23 H => ?_)
            refine r_bipush (v := 43) dX0_readTerms_163 (by decide) ?_
            have ob25 := H.1
            have H := H.2
            refine r_icmp_eq (tgt := 173) dX0_readTerms_165 (by decide) ob25 (by decide) (fun c26 => ?_) (fun c26 => ?_)
            · have H := H.1 c26
              refine r_iinc dX0_readTerms_173 (by decide) rfl rfl ?_
              refine r_iinc dX0_readTerms_176 (by decide) rfl rfl ?_
              refine r_goto (tgt := 22) dX0_readTerms_179 (by decide) ?_
              refine r_drop (ls2 := [some (ax_r a0), some (ax_r 77), some (ax_i (y2_134 + 1)), some (ax_i (x3 + 1)), none, none, none, none]) ?_ (ax_leS (ax_leS (ax_leS (ax_leS (ax_leN (ax_leN (ax_leN (ax_leN ax_leE))))))))
              exact H
            · have H := H.2 c26
              refine r_bipush (v := (-100)) dX0_readTerms_168 (by decide) ?_
              refine r_iload_n dX0_readTerms_170 rfl ?_
              refine r_isub dX0_readTerms_171 ?_
              exact r_iret dX0_readTerms_172 rfl ⟨rfl, _, rfl, H⟩
          · have H := H.2 c22
            refine r_iload_n dX0_readTerms_156 rfl ?_
            exact r_iret dX0_readTerms_157 rfl ⟨rfl, _, rfl, H⟩
        · have H := H.2 c12
          refine r_iload dX0_readTerms_74 rfl ?_
          refine r_bipush (v := 9) dX0_readTerms_76 (by decide) ?_
          refine r_icmp_gt (tgt := 107) dX0_readTerms_78 (by decide) ob11 (by decide) (fun c27 => ?_) (fun c27 => ?_)
          · have H := H.1 c27
            refine r_aload_n dX0_readTerms_107 rfl ?_
            refine r_iload_n dX0_readTerms_108 rfl ?_
            refine r_bipush (v := 120) dX0_readTerms_109 (by decide) ?_
            refine r_cI (as := [ax_r a0, ax_i (x2 + 1), ax_i 120]) (how_V (ci := 0) jX0_alikeFrom jIX0_alikeFrom jVX0_alikeFrom rfl h0.1 (by decide) rfl rfl wX0_23 dX0_readTerms_111) rfl (Nat.le_refl _) (Nat.le_of_ble_eq_true rfl) (fun _ => Nat.le_of_ble_eq_true rfl) H (fun w29 I28 H => ?_)
            refine r_istore dX0_readTerms_114 (by decide) rfl ?_
            refine r_iload_n dX0_readTerms_116 rfl ?_
            refine r_iload dX0_readTerms_117 rfl ?_
            refine r_iadd dX0_readTerms_119 ?_
            refine r_name (fun y2_120 e30 => ?_)
            have H := H y2_120 e30
            refine r_istore_n dX0_readTerms_120 (by decide) rfl ?_
            refine r_aload_n dX0_readTerms_121 rfl ?_
            refine r_iload_n dX0_readTerms_122 rfl ?_
            refine r_bipush (v := 121) dX0_readTerms_123 (by decide) ?_
            refine r_cI (as := [ax_r a0, ax_i y2_120, ax_i 121]) (how_V (ci := 0) jX0_alikeFrom jIX0_alikeFrom jVX0_alikeFrom rfl h0.1 (by decide) rfl rfl wX0_23 dX0_readTerms_125) rfl (Nat.le_refl _) (Nat.le_of_ble_eq_true rfl) (fun _ => Nat.le_of_ble_eq_true rfl) H (fun w32 I31 H => ?_)
            refine r_istore dX0_readTerms_128 (by decide) rfl ?_
            refine r_iload_n dX0_readTerms_130 rfl ?_
            refine r_iload dX0_readTerms_131 rfl ?_
            refine r_iadd dX0_readTerms_133 ?_
            refine r_name (fun y2_134 e33 => ?_)
            have H := H y2_134 e33
            refine r_istore_n dX0_readTerms_134 (by decide) rfl ?_
            refine r_aload_n dX0_readTerms_135 rfl ?_
            refine r_iconst dX0_readTerms_136 ?_
            refine r_iload dX0_readTerms_137 rfl ?_
            refine r_imul dX0_readTerms_139 ?_
            refine r_iload dX0_readTerms_140 rfl ?_
            refine r_iadd dX0_readTerms_142 ?_
            refine r_iload dX0_readTerms_143 rfl ?_
            refine r_cV (as := [ax_r 77, ax_i ((3 * w29) + w32), ax_i y4_36]) (how_S jX0_addTo jSX0_addTo rfl wX0_27 dX0_readTerms_145) rfl (Nat.le_refl _) (Nat.le_of_ble_eq_true rfl) (fun _ => Nat.le_of_ble_eq_true rfl) H (fun I34 H => ?_)
            refine r_iload_n dX0_readTerms_148 rfl ?_
            refine r_aload_n dX0_readTerms_149 rfl ?_
            refine r_getI clX0 1 1 (by decide) h0.1 rfl rfl wX0_15 dX0_readTerms_150 ?_
            have ob35 := H.1
            have H := H.2
            refine r_heapR (fun hI36 => ?_)
            refine r_icmp_lt (tgt := 158) dX0_readTerms_153 (by decide) ob35 (hI36 _ _) (fun c37 => ?_) (fun c37 => ?_)
            · have H := H.1 c37
              refine r_aload_n dX0_readTerms_158 rfl ?_
              refine r_iload_n dX0_readTerms_159 rfl ?_
              refine r_cI (as := [ax_r a0, ax_i y2_134]) (how_V (ci := 0) jX0_byteAt jIX0_byteAt jVX0_byteAt rfl h0.1 (by decide) rfl rfl wX0_19 dX0_readTerms_160) rfl (Nat.le_refl _) (Nat.le_of_ble_eq_true rfl) (fun _ => Nat.le_of_ble_eq_true rfl) H (fun w39 I38 H => ?_)
              refine r_bipush (v := 43) dX0_readTerms_163 (by decide) ?_
              have ob40 := H.1
              have H := H.2
              refine r_icmp_eq (tgt := 173) dX0_readTerms_165 (by decide) ob40 (by decide) (fun c41 => ?_) (fun c41 => ?_)
              · have H := H.1 c41
                refine r_iinc dX0_readTerms_173 (by decide) rfl rfl ?_
                refine r_iinc dX0_readTerms_176 (by decide) rfl rfl ?_
                refine r_goto (tgt := 22) dX0_readTerms_179 (by decide) ?_
                refine r_drop (ls2 := [some (ax_r a0), some (ax_r 77), some (ax_i (y2_134 + 1)), some (ax_i (x3 + 1)), none, none, none, none]) ?_ (ax_leS (ax_leS (ax_leS (ax_leS (ax_leN (ax_leN (ax_leN (ax_leN ax_leE))))))))
                exact H
              · have H := H.2 c41
                refine r_bipush (v := (-100)) dX0_readTerms_168 (by decide) ?_
                refine r_iload_n dX0_readTerms_170 rfl ?_
                refine r_isub dX0_readTerms_171 ?_
                exact r_iret dX0_readTerms_172 rfl ⟨rfl, _, rfl, H⟩
            · have H := H.2 c37
              refine r_iload_n dX0_readTerms_156 rfl ?_
              exact r_iret dX0_readTerms_157 rfl ⟨rfl, _, rfl, H⟩
          · have H := H.2 c27
            refine r_bipush (v := 10) dX0_readTerms_81 (by decide) ?_
            refine r_iload dX0_readTerms_83 rfl ?_
            refine r_imul dX0_readTerms_85 ?_
            refine r_iload dX0_readTerms_86 rfl ?_
            refine r_iadd dX0_readTerms_88 ?_
            refine r_bipush (v := 30) dX0_readTerms_89 (by decide) ?_
            have ob42 := H.1
            have H := H.2
            refine r_icmp_gt (tgt := 107) dX0_readTerms_91 (by decide) ob42 (by decide) (fun c43 => ?_) (fun c43 => ?_)
            · have H := H.1 c43
              refine r_aload_n dX0_readTerms_107 rfl ?_
              refine r_iload_n dX0_readTerms_108 rfl ?_
              refine r_bipush (v := 120) dX0_readTerms_109 (by decide) ?_
              refine r_cI (as := [ax_r a0, ax_i (x2 + 1), ax_i 120]) (how_V (ci := 0) jX0_alikeFrom jIX0_alikeFrom jVX0_alikeFrom rfl h0.1 (by decide) rfl rfl wX0_23 dX0_readTerms_111) rfl (Nat.le_refl _) (Nat.le_of_ble_eq_true rfl) (fun _ => Nat.le_of_ble_eq_true rfl) H (fun w45 I44 H => ?_)
              refine r_istore dX0_readTerms_114 (by decide) rfl ?_
              refine r_iload_n dX0_readTerms_116 rfl ?_
              refine r_iload dX0_readTerms_117 rfl ?_
              refine r_iadd dX0_readTerms_119 ?_
              refine r_name (fun y2_120 e46 => ?_)
              have H := H y2_120 e46
              refine r_istore_n dX0_readTerms_120 (by decide) rfl ?_
              refine r_aload_n dX0_readTerms_121 rfl ?_
              refine r_iload_n dX0_readTerms_122 rfl ?_
              refine r_bipush (v := 121) dX0_readTerms_123 (by decide) ?_
              refine r_cI (as := [ax_r a0, ax_i y2_120, ax_i 121]) (how_V (ci := 0) jX0_alikeFrom jIX0_alikeFrom jVX0_alikeFrom rfl h0.1 (by decide) rfl rfl wX0_23 dX0_readTerms_125) rfl (Nat.le_refl _) (Nat.le_of_ble_eq_true rfl) (fun _ => Nat.le_of_ble_eq_true rfl) H (fun w48 I47 H => ?_)
              refine r_istore dX0_readTerms_128 (by decide) rfl ?_
              refine r_iload_n dX0_readTerms_130 rfl ?_
              refine r_iload dX0_readTerms_131 rfl ?_
              refine r_iadd dX0_readTerms_133 ?_
              refine r_name (fun y2_134 e49 => ?_)
              have H := H y2_134 e49
              refine r_istore_n dX0_readTerms_134 (by decide) rfl ?_
              refine r_aload_n dX0_readTerms_135 rfl ?_
              refine r_iconst dX0_readTerms_136 ?_
              refine r_iload dX0_readTerms_137 rfl ?_
              refine r_imul dX0_readTerms_139 ?_
              refine r_iload dX0_readTerms_140 rfl ?_
              refine r_iadd dX0_readTerms_142 ?_
              refine r_iload dX0_readTerms_143 rfl ?_
              refine r_cV (as := [ax_r 77, ax_i ((3 * w45) + w48), ax_i y4_36]) (how_S jX0_addTo jSX0_addTo rfl wX0_27 dX0_readTerms_145) rfl (Nat.le_refl _) (Nat.le_of_ble_eq_true rfl) (fun _ => Nat.le_of_ble_eq_true rfl) H (fun I50 H => ?_)
              refine r_iload_n dX0_readTerms_148 rfl ?_
              refine r_aload_n dX0_readTerms_149 rfl ?_
              refine r_getI clX0 1 1 (by decide) h0.1 rfl rfl wX0_15 dX0_readTerms_150 ?_
              have ob51 := H.1
              have H := H.2
              refine r_heapR (fun hI52 => ?_)
              refine r_icmp_lt (tgt := 158) dX0_readTerms_153 (by decide) ob51 (hI52 _ _) (fun c53 => ?_) (fun c53 => ?_)
              · have H := H.1 c53
                refine r_aload_n dX0_readTerms_158 rfl ?_
                refine r_iload_n dX0_readTerms_159 rfl ?_
                refine r_cI (as := [ax_r a0, ax_i y2_134]) (how_V (ci := 0) jX0_byteAt jIX0_byteAt jVX0_byteAt rfl h0.1 (by decide) rfl rfl wX0_19 dX0_readTerms_160) rfl (Nat.le_refl _) (Nat.le_of_ble_eq_true rfl) (fun _ => Nat.le_of_ble_eq_true rfl) H (fun w55 I54 H => ?_)
                refine r_bipush (v := 43) dX0_readTerms_163 (by decide) ?_
                have ob56 := H.1
                have H := H.2
                refine r_icmp_eq (tgt := 173) dX0_readTerms_165 (by decide) ob56 (by decide) (fun c57 => ?_) (fun c57 => ?_)
                · have H := H.1 c57
                  refine r_iinc dX0_readTerms_173 (by decide) rfl rfl ?_
                  refine r_iinc dX0_readTerms_176 (by decide) rfl rfl ?_
                  refine r_goto (tgt := 22) dX0_readTerms_179 (by decide) ?_
                  refine r_drop (ls2 := [some (ax_r a0), some (ax_r 77), some (ax_i (y2_134 + 1)), some (ax_i (x3 + 1)), none, none, none, none]) ?_ (ax_leS (ax_leS (ax_leS (ax_leS (ax_leN (ax_leN (ax_leN (ax_leN ax_leE))))))))
                  exact H
                · have H := H.2 c57
                  refine r_bipush (v := (-100)) dX0_readTerms_168 (by decide) ?_
                  refine r_iload_n dX0_readTerms_170 rfl ?_
                  refine r_isub dX0_readTerms_171 ?_
                  exact r_iret dX0_readTerms_172 rfl ⟨rfl, _, rfl, H⟩
              · have H := H.2 c53
                refine r_iload_n dX0_readTerms_156 rfl ?_
                exact r_iret dX0_readTerms_157 rfl ⟨rfl, _, rfl, H⟩
            · have H := H.2 c43
              refine r_bipush (v := 10) dX0_readTerms_94 (by decide) ?_
              refine r_iload dX0_readTerms_96 rfl ?_
              refine r_imul dX0_readTerms_98 ?_
              refine r_iload dX0_readTerms_99 rfl ?_
              refine r_iadd dX0_readTerms_101 ?_
              refine r_name (fun y4_102 e58 => ?_)
              have H := H y4_102 e58
              refine r_istore dX0_readTerms_102 (by decide) rfl ?_
              refine r_iinc dX0_readTerms_104 (by decide) rfl rfl ?_
              refine r_aload_n dX0_readTerms_107 rfl ?_
              refine r_iload_n dX0_readTerms_108 rfl ?_
              refine r_bipush (v := 120) dX0_readTerms_109 (by decide) ?_
              refine r_cI (as := [ax_r a0, ax_i ((x2 + 1) + 1), ax_i 120]) (how_V (ci := 0) jX0_alikeFrom jIX0_alikeFrom jVX0_alikeFrom rfl h0.1 (by decide) rfl rfl wX0_23 dX0_readTerms_111) rfl (Nat.le_refl _) (Nat.le_of_ble_eq_true rfl) (fun _ => Nat.le_of_ble_eq_true rfl) H (fun w60 I59 H => ?_)
              refine r_istore dX0_readTerms_114 (by decide) rfl ?_
              refine r_iload_n dX0_readTerms_116 rfl ?_
              refine r_iload dX0_readTerms_117 rfl ?_
              refine r_iadd dX0_readTerms_119 ?_
              refine r_name (fun y2_120 e61 => ?_)
              have H := H y2_120 e61
              refine r_istore_n dX0_readTerms_120 (by decide) rfl ?_
              refine r_aload_n dX0_readTerms_121 rfl ?_
              refine r_iload_n dX0_readTerms_122 rfl ?_
              refine r_bipush (v := 121) dX0_readTerms_123 (by decide) ?_
              refine r_cI (as := [ax_r a0, ax_i y2_120, ax_i 121]) (how_V (ci := 0) jX0_alikeFrom jIX0_alikeFrom jVX0_alikeFrom rfl h0.1 (by decide) rfl rfl wX0_23 dX0_readTerms_125) rfl (Nat.le_refl _) (Nat.le_of_ble_eq_true rfl) (fun _ => Nat.le_of_ble_eq_true rfl) H (fun w63 I62 H => ?_)
              refine r_istore dX0_readTerms_128 (by decide) rfl ?_
              refine r_iload_n dX0_readTerms_130 rfl ?_
              refine r_iload dX0_readTerms_131 rfl ?_
              refine r_iadd dX0_readTerms_133 ?_
              refine r_name (fun y2_134 e64 => ?_)
              have H := H y2_134 e64
              refine r_istore_n dX0_readTerms_134 (by decide) rfl ?_
              refine r_aload_n dX0_readTerms_135 rfl ?_
              refine r_iconst dX0_readTerms_136 ?_
              refine r_iload dX0_readTerms_137 rfl ?_
              refine r_imul dX0_readTerms_139 ?_
              refine r_iload dX0_readTerms_140 rfl ?_
              refine r_iadd dX0_readTerms_142 ?_
              refine r_iload dX0_readTerms_143 rfl ?_
              refine r_cV (as := [ax_r 77, ax_i ((3 * w60) + w63), ax_i y4_102]) (how_S jX0_addTo jSX0_addTo rfl wX0_27 dX0_readTerms_145) rfl (Nat.le_refl _) (Nat.le_of_ble_eq_true rfl) (fun _ => Nat.le_of_ble_eq_true rfl) H (fun I65 H => ?_)
              refine r_iload_n dX0_readTerms_148 rfl ?_
              refine r_aload_n dX0_readTerms_149 rfl ?_
              refine r_getI clX0 1 1 (by decide) h0.1 rfl rfl wX0_15 dX0_readTerms_150 ?_
              have ob66 := H.1
              have H := H.2
              refine r_heapR (fun hI67 => ?_)
              refine r_icmp_lt (tgt := 158) dX0_readTerms_153 (by decide) ob66 (hI67 _ _) (fun c68 => ?_) (fun c68 => ?_)
              · have H := H.1 c68
                refine r_aload_n dX0_readTerms_158 rfl ?_
                refine r_iload_n dX0_readTerms_159 rfl ?_
                refine r_cI (as := [ax_r a0, ax_i y2_134]) (how_V (ci := 0) jX0_byteAt jIX0_byteAt jVX0_byteAt rfl h0.1 (by decide) rfl rfl wX0_19 dX0_readTerms_160) rfl (Nat.le_refl _) (Nat.le_of_ble_eq_true rfl) (fun _ => Nat.le_of_ble_eq_true rfl) H (fun w70 I69 H => ?_)
                refine r_bipush (v := 43) dX0_readTerms_163 (by decide) ?_
                have ob71 := H.1
                have H := H.2
                refine r_icmp_eq (tgt := 173) dX0_readTerms_165 (by decide) ob71 (by decide) (fun c72 => ?_) (fun c72 => ?_)
                · have H := H.1 c72
                  refine r_iinc dX0_readTerms_173 (by decide) rfl rfl ?_
                  refine r_iinc dX0_readTerms_176 (by decide) rfl rfl ?_
                  refine r_goto (tgt := 22) dX0_readTerms_179 (by decide) ?_
                  refine r_drop (ls2 := [some (ax_r a0), some (ax_r 77), some (ax_i (y2_134 + 1)), some (ax_i (x3 + 1)), none, none, none, none]) ?_ (ax_leS (ax_leS (ax_leS (ax_leS (ax_leN (ax_leN (ax_leN (ax_leN ax_leE))))))))
                  exact H
                · have H := H.2 c72
                  refine r_bipush (v := (-100)) dX0_readTerms_168 (by decide) ?_
                  refine r_iload_n dX0_readTerms_170 rfl ?_
                  refine r_isub dX0_readTerms_171 ?_
                  exact r_iret dX0_readTerms_172 rfl ⟨rfl, _, rfl, H⟩
              · have H := H.2 c68
                refine r_iload_n dX0_readTerms_156 rfl ?_
                exact r_iret dX0_readTerms_157 rfl ⟨rfl, _, rfl, H⟩
      · have H := H.2 c7
        refine r_bipush (v := (-100)) dX0_readTerms_51 (by decide) ?_
        refine r_iload_n dX0_readTerms_53 rfl ?_
        refine r_isub dX0_readTerms_54 ?_
        exact r_iret dX0_readTerms_55 rfl ⟨rfl, _, rfl, H⟩

theorem vX0_addTo_0 {d : Nat} {Q : ax_H → Prop} {x1 : Int} {x2 : Int} {I : ax_H} (r1 : ax_R x1) (H :
  (x1 < 0 →
    Q I) ∧
  (¬ x1 < 0 →
    (9 ≤ x1 →
      Q I) ∧
    (¬ 9 ≤ x1 →
      (0 ≤ x1 ∧ x1 < 9) ∧
      (cI (d + 1) kX10_modulo [ax_i ((I 77 x1) + x2)] I (fun w5 I4 =>
      ax_R w5 ∧
      (Q (ax_st I4 77 x1 w5))))))) :
  RV (d + 2) kX0_addTo 0 [some (ax_r 77), some (ax_i x1), some (ax_i x2)] I Q := by
  show Rn _ _ _ _ _ _ _ _
  refine r_iload_n dX0_addTo_0 rfl ?_
  refine r_if_lt (tgt := 21) dX0_addTo_1 (by decide) r1 (fun c1 => ?_) (fun c1 => ?_)
  · have H := H.1 c1
    exact r_vret dX0_addTo_21 rfl ⟨rfl, rfl, H⟩
  · have H := H.2 c1
    refine r_iload_n dX0_addTo_4 rfl ?_
    refine r_aload_n dX0_addTo_5 rfl ?_
    refine r_alen s0_77 dX0_addTo_6 9 rfl ?_
    refine r_icmp_ge (tgt := 21) dX0_addTo_7 (by decide) r1 (by decide) (fun c2 => ?_) (fun c2 => ?_)
    · have H := H.1 c2
      exact r_vret dX0_addTo_21 rfl ⟨rfl, rfl, H⟩
    · have H := H.2 c2
      refine r_aload_n dX0_addTo_10 rfl ?_
      refine r_iload_n dX0_addTo_11 rfl ?_
      refine r_aload_n dX0_addTo_12 rfl ?_
      refine r_iload_n dX0_addTo_13 rfl ?_
      have ob3 := H.1
      have H := H.2
      refine r_iald s0_77 (by decide) dX0_addTo_14 ob3 ?_
      refine r_iload_n dX0_addTo_15 rfl ?_
      refine r_iadd dX0_addTo_16 ?_
      refine r_cI (as := [ax_i ((I 77 x1) + x2)]) (how_SN jX10_modulo jSX10_modulo rfl wX0_31 dX0_addTo_17) rfl (Nat.le_refl _) (Nat.le_of_ble_eq_true rfl) (fun _ => Nat.le_of_ble_eq_true rfl) H (fun w5 I4 H => ?_)
      have ob6 := H.1
      have H := H.2
      refine r_iast s0_77 (by decide) dX0_addTo_20 ob3 ob6 ?_
      exact r_vret dX0_addTo_21 rfl ⟨rfl, rfl, H⟩

theorem vX0_writeTerms_0 {d : Nat} {Q : ax_H → Prop} {a0 : Nat} {a1 : Nat} {x2 : Int} {I : ax_H} (h0 : isBy a0) (h1 : isT a1) (H :
  RV (d + 2) kX0_writeTerms 7 [some (ax_r a0), some (ax_r a1), some (ax_i x2), some (ax_i 2), none, none] (ax_st I a0 1 0) Q) :
  RV (d + 2) kX0_writeTerms 0 [some (ax_r a0), some (ax_r a1), some (ax_i x2), none, none, none] I Q := by
  show Rn _ _ _ _ _ _ _ _
  refine r_aload_n dX0_writeTerms_0 rfl ?_
  refine r_iconst dX0_writeTerms_1 ?_
  refine r_putI clX0 1 1 (by decide) h0.1 rfl rfl rfl (by decide) rfl rfl wX0_15 dX0_writeTerms_2 ?_
  refine r_iconst dX0_writeTerms_5 ?_
  refine r_istore_n dX0_writeTerms_6 (by decide) rfl ?_
  exact H

theorem vX0_writeTerms_7 {d : Nat} {Q : ax_H → Prop} {a0 : Nat} {a1 : Nat} {x2 : Int} {x3 : Int} {I : ax_H} (h0 : isBy a0) (h1 : isT a1) (r3 : ax_R x3) (H :
  (x3 < 0 →
    Q I) ∧
  (¬ x3 < 0 →
    RV (d + 2) kX0_writeTerms 14 [some (ax_r a0), some (ax_r a1), some (ax_i x2), some (ax_i x3), some (ax_i 2), none] I Q)) :
  RV (d + 2) kX0_writeTerms 7 [some (ax_r a0), some (ax_r a1), some (ax_i x2), some (ax_i x3), none, none] I Q := by
  show Rn _ _ _ _ _ _ _ _
  refine r_iload_n dX0_writeTerms_7 rfl ?_
  refine r_if_lt (tgt := 55) dX0_writeTerms_8 (by decide) r3 (fun c1 => ?_) (fun c1 => ?_)
  · have H := H.1 c1
    exact r_vret dX0_writeTerms_55 rfl ⟨rfl, rfl, H⟩
  · have H := H.2 c1
    refine r_iconst dX0_writeTerms_11 ?_
    refine r_istore dX0_writeTerms_12 (by decide) rfl ?_
    exact H

theorem vX0_writeTerms_14 {d : Nat} {Q : ax_H → Prop} {a0 : Nat} {a1 : Nat} {x2 : Int} {x3 : Int} {x4 : Int} {I : ax_H} (h0 : isBy a0) (h1 : isT a1) (r4 : ax_R x4) (H :
  (x4 < 0 →
    RV (d + 2) kX0_writeTerms 7 [some (ax_r a0), some (ax_r a1), some (ax_i x2), some (ax_i (x3 + (-1))), none, none] I Q) ∧
  (¬ x4 < 0 →
    cI (d + 1) kX9_numberAt [ax_r a1, ax_i x2, ax_i x3, ax_i x4] I (fun w3 I2 =>
    ax_R w3 ∧
    ((w3 ≤ 0 →
      RV (d + 2) kX0_writeTerms 14 [some (ax_r a0), some (ax_r a1), some (ax_i x2), some (ax_i x3), some (ax_i (x4 + (-1))), none] I2 Q) ∧
    (¬ w3 ≤ 0 →
      cV (d + 1) kX0_writeTerm [ax_r a0, ax_i w3, ax_i x3, ax_i x4] I2 (fun I6 =>
      RV (d + 2) kX0_writeTerms 14 [some (ax_r a0), some (ax_r a1), some (ax_i x2), some (ax_i x3), some (ax_i (x4 + (-1))), none] I6 Q)))))) :
  RV (d + 2) kX0_writeTerms 14 [some (ax_r a0), some (ax_r a1), some (ax_i x2), some (ax_i x3), some (ax_i x4), none] I Q := by
  show Rn _ _ _ _ _ _ _ _
  refine r_iload dX0_writeTerms_14 rfl ?_
  refine r_if_lt (tgt := 49) dX0_writeTerms_16 (by decide) r4 (fun c1 => ?_) (fun c1 => ?_)
  · have H := H.1 c1
    refine r_iinc dX0_writeTerms_49 (by decide) rfl rfl ?_
    refine r_goto (tgt := 7) dX0_writeTerms_52 (by decide) ?_
    refine r_drop (ls2 := [some (ax_r a0), some (ax_r a1), some (ax_i x2), some (ax_i (x3 + (-1))), none, none]) ?_ (ax_leS (ax_leS (ax_leS (ax_leS (ax_leN (ax_leN ax_leE))))))
    exact H
  · have H := H.2 c1
    refine r_aload_n dX0_writeTerms_19 rfl ?_
    refine r_iload_n dX0_writeTerms_20 rfl ?_
    refine r_iload_n dX0_writeTerms_21 rfl ?_
    refine r_iload dX0_writeTerms_22 rfl ?_
    refine r_cI (as := [ax_r a1, ax_i x2, ax_i x3, ax_i x4]) (how_V (ci := 9) jX9_numberAt jIX9_numberAt jVX9_numberAt rfl h1.1 (by decide) rfl rfl wX0_34 dX0_writeTerms_24) rfl (Nat.le_refl _) (Nat.le_of_ble_eq_true rfl) (fun _ => Nat.le_of_ble_eq_true rfl) H (fun w3 I2 H => ?_)
    refine r_istore dX0_writeTerms_27 (by decide) rfl ?_
    refine r_iload dX0_writeTerms_29 rfl ?_
    have ob4 := H.1
    have H := H.2
    refine r_if_le (tgt := 43) dX0_writeTerms_31 (by decide) ob4 (fun c5 => ?_) (fun c5 => ?_)
    · have H := H.1 c5
      refine r_iinc dX0_writeTerms_43 (by decide) rfl rfl ?_
      refine r_goto (tgt := 14) dX0_writeTerms_46 (by decide) ?_
      refine r_drop (ls2 := [some (ax_r a0), some (ax_r a1), some (ax_i x2), some (ax_i x3), some (ax_i (x4 + (-1))), none]) ?_ (ax_leS (ax_leS (ax_leS (ax_leS (ax_leS (ax_leN ax_leE))))))
      exact H
    · have H := H.2 c5
      refine r_aload_n dX0_writeTerms_34 rfl ?_
      refine r_iload dX0_writeTerms_35 rfl ?_
      refine r_iload_n dX0_writeTerms_37 rfl ?_
      refine r_iload dX0_writeTerms_38 rfl ?_
      refine r_cV (as := [ax_r a0, ax_i w3, ax_i x3, ax_i x4]) (how_V (ci := 0) jX0_writeTerm jIX0_writeTerm jVX0_writeTerm rfl h0.1 (by decide) rfl rfl wX0_40 dX0_writeTerms_40) rfl (Nat.le_refl _) (Nat.le_of_ble_eq_true rfl) (fun _ => Nat.le_of_ble_eq_true rfl) H (fun I6 H => ?_)
      refine r_iinc dX0_writeTerms_43 (by decide) rfl rfl ?_
      refine r_goto (tgt := 14) dX0_writeTerms_46 (by decide) ?_
      refine r_drop (ls2 := [some (ax_r a0), some (ax_r a1), some (ax_i x2), some (ax_i x3), some (ax_i (x4 + (-1))), none]) ?_ (ax_leS (ax_leS (ax_leS (ax_leS (ax_leS (ax_leN ax_leE))))))
      exact H

theorem vX0_writeTerm_0 {d : Nat} {Q : ax_H → Prop} {a0 : Nat} {x1 : Int} {x2 : Int} {x3 : Int} {I : ax_H} (h0 : isBy a0) (r1 : ax_R x1) (H :
  ((I a0 1) ≤ 0 →
    (x1 ≤ 9 →
      (0 ≤ x1 ∧ x1 < 2147483648) ∧
      (cV d kX0_append [ax_r a0, ax_i (48 + (x1 % 10))] I (fun I5 =>
      RV (d + 1) kX0_writeTerm 44 [some (ax_r a0), none, some (ax_i x2), some (ax_i x3), some (ax_i 0)] I5 Q))) ∧
    (¬ x1 ≤ 9 →
      (0 ≤ x1 ∧ x1 < 2147483648) ∧
      (cV d kX0_append [ax_r a0, ax_i (48 + (x1 / 10))] I (fun I7 =>
      cV d kX0_append [ax_r a0, ax_i (48 + (x1 % 10))] I7 (fun I8 =>
      RV (d + 1) kX0_writeTerm 44 [some (ax_r a0), none, some (ax_i x2), some (ax_i x3), some (ax_i 0)] I8 Q))))) ∧
  (¬ (I a0 1) ≤ 0 →
    cV d kX0_append [ax_r a0, ax_i 43] I (fun I9 =>
    (x1 ≤ 9 →
      (0 ≤ x1 ∧ x1 < 2147483648) ∧
      (cV d kX0_append [ax_r a0, ax_i (48 + (x1 % 10))] I9 (fun I12 =>
      RV (d + 1) kX0_writeTerm 44 [some (ax_r a0), none, some (ax_i x2), some (ax_i x3), some (ax_i 0)] I12 Q))) ∧
    (¬ x1 ≤ 9 →
      (0 ≤ x1 ∧ x1 < 2147483648) ∧
      (cV d kX0_append [ax_r a0, ax_i (48 + (x1 / 10))] I9 (fun I14 =>
      cV d kX0_append [ax_r a0, ax_i (48 + (x1 % 10))] I14 (fun I15 =>
      RV (d + 1) kX0_writeTerm 44 [some (ax_r a0), none, some (ax_i x2), some (ax_i x3), some (ax_i 0)] I15 Q))))))) :
  RV (d + 1) kX0_writeTerm 0 [some (ax_r a0), some (ax_i x1), some (ax_i x2), some (ax_i x3), none] I Q := by
  show Rn _ _ _ _ _ _ _ _
  refine r_aload_n dX0_writeTerm_0 rfl ?_
  refine r_getI clX0 1 1 (by decide) h0.1 rfl rfl wX0_15 dX0_writeTerm_1 ?_
  refine r_heapR (fun hI1 => ?_)
  refine r_if_le (tgt := 13) dX0_writeTerm_4 (by decide) (hI1 _ _) (fun c2 => ?_) (fun c2 => ?_)
  · have H := H.1 c2
    refine r_iload_n dX0_writeTerm_13 rfl ?_
    refine r_bipush (v := 9) dX0_writeTerm_14 (by decide) ?_
    refine r_icmp_le (tgt := 30) dX0_writeTerm_16 (by decide) r1 (by decide) (fun c3 => ?_) (fun c3 => ?_)
    · have H := H.1 c3
      refine r_aload_n dX0_writeTerm_30 rfl ?_
      refine r_bipush (v := 48) dX0_writeTerm_31 (by decide) ?_
      refine r_iload_n dX0_writeTerm_33 rfl ?_
      refine r_bipush (v := 10) dX0_writeTerm_34 (by decide) ?_
      have ob4 := H.1
      have H := H.2
      refine r_iremp dX0_writeTerm_36 ob4 (by decide) ?_
      refine r_iadd dX0_writeTerm_37 ?_
      refine r_cV (as := [ax_r a0, ax_i (48 + (x1 % 10))]) (how_V (ci := 0) jX0_append jIX0_append jVX0_append rfl h0.1 (by decide) rfl rfl wX0_44 dX0_writeTerm_38) rfl (Nat.le_refl _) (Nat.le_of_ble_eq_true rfl) (fun _ => Nat.le_of_ble_eq_true rfl) H (fun I5 H => ?_)
      refine r_iconst dX0_writeTerm_41 ?_
      refine r_istore dX0_writeTerm_42 (by decide) rfl ?_
      refine r_drop (ls2 := [some (ax_r a0), none, some (ax_i x2), some (ax_i x3), some (ax_i 0)]) ?_ (ax_leS (ax_leN (ax_leS (ax_leS (ax_leS ax_leE)))))
      exact H
    · have H := H.2 c3
      refine r_aload_n dX0_writeTerm_19 rfl ?_
      refine r_bipush (v := 48) dX0_writeTerm_20 (by decide) ?_
      refine r_iload_n dX0_writeTerm_22 rfl ?_
      refine r_bipush (v := 10) dX0_writeTerm_23 (by decide) ?_
      have ob6 := H.1
      have H := H.2
      refine r_idivp dX0_writeTerm_25 ob6 (by decide) ?_
      refine r_iadd dX0_writeTerm_26 ?_
      refine r_cV (as := [ax_r a0, ax_i (48 + (x1 / 10))]) (how_V (ci := 0) jX0_append jIX0_append jVX0_append rfl h0.1 (by decide) rfl rfl wX0_44 dX0_writeTerm_27) rfl (Nat.le_refl _) (Nat.le_of_ble_eq_true rfl) (fun _ => Nat.le_of_ble_eq_true rfl) H (fun I7 H => ?_)
      refine r_aload_n dX0_writeTerm_30 rfl ?_
      refine r_bipush (v := 48) dX0_writeTerm_31 (by decide) ?_
      refine r_iload_n dX0_writeTerm_33 rfl ?_
      refine r_bipush (v := 10) dX0_writeTerm_34 (by decide) ?_
      refine r_iremp dX0_writeTerm_36 ob6 (by decide) ?_
      refine r_iadd dX0_writeTerm_37 ?_
      refine r_cV (as := [ax_r a0, ax_i (48 + (x1 % 10))]) (how_V (ci := 0) jX0_append jIX0_append jVX0_append rfl h0.1 (by decide) rfl rfl wX0_44 dX0_writeTerm_38) rfl (Nat.le_refl _) (Nat.le_of_ble_eq_true rfl) (fun _ => Nat.le_of_ble_eq_true rfl) H (fun I8 H => ?_)
      refine r_iconst dX0_writeTerm_41 ?_
      refine r_istore dX0_writeTerm_42 (by decide) rfl ?_
      refine r_drop (ls2 := [some (ax_r a0), none, some (ax_i x2), some (ax_i x3), some (ax_i 0)]) ?_ (ax_leS (ax_leN (ax_leS (ax_leS (ax_leS ax_leE)))))
      exact H
  · have H := H.2 c2
    refine r_aload_n dX0_writeTerm_7 rfl ?_
    refine r_bipush (v := 43) dX0_writeTerm_8 (by decide) ?_
    refine r_cV (as := [ax_r a0, ax_i 43]) (how_V (ci := 0) jX0_append jIX0_append jVX0_append rfl h0.1 (by decide) rfl rfl wX0_44 dX0_writeTerm_10) rfl (Nat.le_refl _) (Nat.le_of_ble_eq_true rfl) (fun _ => Nat.le_of_ble_eq_true rfl) H (fun I9 H => ?_)
    refine r_iload_n dX0_writeTerm_13 rfl ?_
    refine r_bipush (v := 9) dX0_writeTerm_14 (by decide) ?_
    refine r_icmp_le (tgt := 30) dX0_writeTerm_16 (by decide) r1 (by decide) (fun c10 => ?_) (fun c10 => ?_)
    · have H := H.1 c10
      refine r_aload_n dX0_writeTerm_30 rfl ?_
      refine r_bipush (v := 48) dX0_writeTerm_31 (by decide) ?_
      refine r_iload_n dX0_writeTerm_33 rfl ?_
      refine r_bipush (v := 10) dX0_writeTerm_34 (by decide) ?_
      have ob11 := H.1
      have H := H.2
      refine r_iremp dX0_writeTerm_36 ob11 (by decide) ?_
      refine r_iadd dX0_writeTerm_37 ?_
      refine r_cV (as := [ax_r a0, ax_i (48 + (x1 % 10))]) (how_V (ci := 0) jX0_append jIX0_append jVX0_append rfl h0.1 (by decide) rfl rfl wX0_44 dX0_writeTerm_38) rfl (Nat.le_refl _) (Nat.le_of_ble_eq_true rfl) (fun _ => Nat.le_of_ble_eq_true rfl) H (fun I12 H => ?_)
      refine r_iconst dX0_writeTerm_41 ?_
      refine r_istore dX0_writeTerm_42 (by decide) rfl ?_
      refine r_drop (ls2 := [some (ax_r a0), none, some (ax_i x2), some (ax_i x3), some (ax_i 0)]) ?_ (ax_leS (ax_leN (ax_leS (ax_leS (ax_leS ax_leE)))))
      exact H
    · have H := H.2 c10
      refine r_aload_n dX0_writeTerm_19 rfl ?_
      refine r_bipush (v := 48) dX0_writeTerm_20 (by decide) ?_
      refine r_iload_n dX0_writeTerm_22 rfl ?_
      refine r_bipush (v := 10) dX0_writeTerm_23 (by decide) ?_
      have ob13 := H.1
      have H := H.2
      refine r_idivp dX0_writeTerm_25 ob13 (by decide) ?_
      refine r_iadd dX0_writeTerm_26 ?_
      refine r_cV (as := [ax_r a0, ax_i (48 + (x1 / 10))]) (how_V (ci := 0) jX0_append jIX0_append jVX0_append rfl h0.1 (by decide) rfl rfl wX0_44 dX0_writeTerm_27) rfl (Nat.le_refl _) (Nat.le_of_ble_eq_true rfl) (fun _ => Nat.le_of_ble_eq_true rfl) H (fun I14 H => ?_)
      refine r_aload_n dX0_writeTerm_30 rfl ?_
      refine r_bipush (v := 48) dX0_writeTerm_31 (by decide) ?_
      refine r_iload_n dX0_writeTerm_33 rfl ?_
      refine r_bipush (v := 10) dX0_writeTerm_34 (by decide) ?_
      refine r_iremp dX0_writeTerm_36 ob13 (by decide) ?_
      refine r_iadd dX0_writeTerm_37 ?_
      refine r_cV (as := [ax_r a0, ax_i (48 + (x1 % 10))]) (how_V (ci := 0) jX0_append jIX0_append jVX0_append rfl h0.1 (by decide) rfl rfl wX0_44 dX0_writeTerm_38) rfl (Nat.le_refl _) (Nat.le_of_ble_eq_true rfl) (fun _ => Nat.le_of_ble_eq_true rfl) H (fun I15 H => ?_)
      refine r_iconst dX0_writeTerm_41 ?_
      refine r_istore dX0_writeTerm_42 (by decide) rfl ?_
      refine r_drop (ls2 := [some (ax_r a0), none, some (ax_i x2), some (ax_i x3), some (ax_i 0)]) ?_ (ax_leS (ax_leN (ax_leS (ax_leS (ax_leS ax_leE)))))
      exact H

theorem vX0_writeTerm_44 {d : Nat} {Q : ax_H → Prop} {a0 : Nat} {x2 : Int} {x3 : Int} {x4 : Int} {I : ax_H} (h0 : isBy a0) (r2 : ax_R x2) (r4 : ax_R x4) (H :
  (x2 ≤ x4 →
    RV (d + 1) kX0_writeTerm 65 [some (ax_r a0), none, none, some (ax_i x3), some (ax_i 0)] I Q) ∧
  (¬ x2 ≤ x4 →
    cV d kX0_append [ax_r a0, ax_i 120] I (fun I2 =>
    RV (d + 1) kX0_writeTerm 44 [some (ax_r a0), none, some (ax_i x2), some (ax_i x3), some (ax_i (x4 + 1))] I2 Q))) :
  RV (d + 1) kX0_writeTerm 44 [some (ax_r a0), none, some (ax_i x2), some (ax_i x3), some (ax_i x4)] I Q := by
  show Rn _ _ _ _ _ _ _ _
  refine r_iload dX0_writeTerm_44 rfl ?_
  refine r_iload_n dX0_writeTerm_46 rfl ?_
  refine r_icmp_ge (tgt := 62) dX0_writeTerm_47 (by decide) r4 r2 (fun c1 => ?_) (fun c1 => ?_)
  · have H := H.1 c1
    refine r_iconst dX0_writeTerm_62 ?_
    refine r_istore dX0_writeTerm_63 (by decide) rfl ?_
    refine r_drop (ls2 := [some (ax_r a0), none, none, some (ax_i x3), some (ax_i 0)]) ?_ (ax_leS (ax_leN (ax_leN (ax_leS (ax_leS ax_leE)))))
    exact H
  · have H := H.2 c1
    refine r_aload_n dX0_writeTerm_50 rfl ?_
    refine r_bipush (v := 120) dX0_writeTerm_51 (by decide) ?_
    refine r_cV (as := [ax_r a0, ax_i 120]) (how_V (ci := 0) jX0_append jIX0_append jVX0_append rfl h0.1 (by decide) rfl rfl wX0_44 dX0_writeTerm_53) rfl (Nat.le_refl _) (Nat.le_of_ble_eq_true rfl) (fun _ => Nat.le_of_ble_eq_true rfl) H (fun I2 H => ?_)
    refine r_iinc dX0_writeTerm_56 (by decide) rfl rfl ?_
    refine r_goto (tgt := 44) dX0_writeTerm_59 (by decide) ?_
    exact H

theorem vX0_writeTerm_65 {d : Nat} {Q : ax_H → Prop} {a0 : Nat} {x3 : Int} {x4 : Int} {I : ax_H} (h0 : isBy a0) (r3 : ax_R x3) (r4 : ax_R x4) (H :
  (x3 ≤ x4 →
    Q I) ∧
  (¬ x3 ≤ x4 →
    cV d kX0_append [ax_r a0, ax_i 121] I (fun I2 =>
    RV (d + 1) kX0_writeTerm 65 [some (ax_r a0), none, none, some (ax_i x3), some (ax_i (x4 + 1))] I2 Q))) :
  RV (d + 1) kX0_writeTerm 65 [some (ax_r a0), none, none, some (ax_i x3), some (ax_i x4)] I Q := by
  show Rn _ _ _ _ _ _ _ _
  refine r_iload dX0_writeTerm_65 rfl ?_
  refine r_iload_n dX0_writeTerm_67 rfl ?_
  refine r_icmp_ge (tgt := 83) dX0_writeTerm_68 (by decide) r4 r3 (fun c1 => ?_) (fun c1 => ?_)
  · have H := H.1 c1
    exact r_vret dX0_writeTerm_83 rfl ⟨rfl, rfl, H⟩
  · have H := H.2 c1
    refine r_aload_n dX0_writeTerm_71 rfl ?_
    refine r_bipush (v := 121) dX0_writeTerm_72 (by decide) ?_
    refine r_cV (as := [ax_r a0, ax_i 121]) (how_V (ci := 0) jX0_append jIX0_append jVX0_append rfl h0.1 (by decide) rfl rfl wX0_44 dX0_writeTerm_74) rfl (Nat.le_refl _) (Nat.le_of_ble_eq_true rfl) (fun _ => Nat.le_of_ble_eq_true rfl) H (fun I2 H => ?_)
    refine r_iinc dX0_writeTerm_77 (by decide) rfl rfl ?_
    refine r_goto (tgt := 65) dX0_writeTerm_80 (by decide) ?_
    exact H

theorem vX4_isList_0 {d : Nat} {Q : Int → ax_H → Prop} {x1 : Int} {I : ax_H} (r1 : ax_R x1) (H :
  (x1 < 0 →
    Q 0 I) ∧
  (¬ x1 < 0 →
    (4 ≤ x1 →
      Q 0 I) ∧
    (¬ 4 ≤ x1 →
      (4 ≤ x1 →
        Q 0 I) ∧
      (¬ 4 ≤ x1 →
        Q 1 I)))) :
  RI d kX4_isList 0 [some (ax_r 74), some (ax_i x1)] I Q := by
  show Rn _ _ _ _ _ _ _ _
  refine r_iload_n dX4_isList_0 rfl ?_
  refine r_if_lt (tgt := 22) dX4_isList_1 (by decide) r1 (fun c1 => ?_) (fun c1 => ?_)
  · have H := H.1 c1
    refine r_iconst dX4_isList_22 ?_
    exact r_zret dX4_isList_23 rfl (by decide) ⟨rfl, _, rfl, H⟩
  · have H := H.2 c1
    refine r_iload_n dX4_isList_4 rfl ?_
    refine r_iconst dX4_isList_5 ?_
    refine r_icmp_ge (tgt := 22) dX4_isList_6 (by decide) r1 (by decide) (fun c2 => ?_) (fun c2 => ?_)
    · have H := H.1 c2
      refine r_iconst dX4_isList_22 ?_
      exact r_zret dX4_isList_23 rfl (by decide) ⟨rfl, _, rfl, H⟩
    · have H := H.2 c2
      refine r_iload_n dX4_isList_9 rfl ?_
      refine r_aload_n dX4_isList_10 rfl ?_
      refine r_getR clX4 0 (by decide) s0_74 rfl rfl wX4_7 dX4_isList_11 ?_
      refine r_alen s0_75 dX4_isList_14 4 rfl ?_
      refine r_icmp_ge (tgt := 22) dX4_isList_15 (by decide) r1 (by decide) (fun c3 => ?_) (fun c3 => ?_)
      · have H := H.1 c3
        refine r_iconst dX4_isList_22 ?_
        exact r_zret dX4_isList_23 rfl (by decide) ⟨rfl, _, rfl, H⟩
      · have H := H.2 c3
        refine r_iconst dX4_isList_18 ?_
        refine r_goto (tgt := 23) dX4_isList_19 (by decide) ?_
        exact r_zret dX4_isList_23 rfl (by decide) ⟨rfl, _, rfl, H⟩

theorem vX4_sizeOf_0 {d : Nat} {Q : Int → ax_H → Prop} {x1 : Int} {I : ax_H} (H :
  cI d kX4_isList [ax_r 74, ax_i x1] I (fun w2 I1 =>
  ax_R w2 ∧
  ((w2 = 0 →
    Q (-1) I1) ∧
  (¬ w2 = 0 →
    (0 ≤ x1 ∧ x1 < 4) ∧
    (Q (I1 75 x1) I1))))) :
  RI (d + 1) kX4_sizeOf 0 [some (ax_r 74), some (ax_i x1)] I Q := by
  show Rn _ _ _ _ _ _ _ _
  refine r_aload_n dX4_sizeOf_0 rfl ?_
  refine r_iload_n dX4_sizeOf_1 rfl ?_
  refine r_cI (as := [ax_r 74, ax_i x1]) (how_V (ci := 4) jX4_isList jIX4_isList jVX4_isList rfl s0_74 (by decide) rfl rfl wX4_16 dX4_sizeOf_2) rfl (Nat.le_refl _) (Nat.le_of_ble_eq_true rfl) (fun _ => Nat.le_of_ble_eq_true rfl) H (fun w2 I1 H => ?_)
  have ob3 := H.1
  have H := H.2
  refine r_if_eq (tgt := 17) dX4_sizeOf_5 (by decide) ob3 (fun c4 => ?_) (fun c4 => ?_)
  · have H := H.1 c4
    refine r_iconst dX4_sizeOf_17 ?_
    exact r_iret dX4_sizeOf_18 rfl ⟨rfl, _, rfl, H⟩
  · have H := H.2 c4
    refine r_aload_n dX4_sizeOf_8 rfl ?_
    refine r_getR clX4 0 (by decide) s0_74 rfl rfl wX4_7 dX4_sizeOf_9 ?_
    refine r_iload_n dX4_sizeOf_12 rfl ?_
    have ob5 := H.1
    have H := H.2
    refine r_iald s0_75 (by decide) dX4_sizeOf_13 ob5 ?_
    refine r_goto (tgt := 18) dX4_sizeOf_14 (by decide) ?_
    exact r_iret dX4_sizeOf_18 rfl ⟨rfl, _, rfl, H⟩

theorem vX4_hasPlace_0 {d : Nat} {Q : Int → ax_H → Prop} {x1 : Int} {x2 : Int} {I : ax_H} (r2 : ax_R x2) (H :
  (x2 < 0 →
    Q 0 I) ∧
  (¬ x2 < 0 →
    (12 ≤ x2 →
      Q 0 I) ∧
    (¬ 12 ≤ x2 →
      cI (d + 1) kX4_sizeOf [ax_r 74, ax_i x1] I (fun w4 I3 =>
      ax_R w4 ∧
      ((w4 ≤ x2 →
        Q 0 I3) ∧
      (¬ w4 ≤ x2 →
        Q 1 I3)))))) :
  RI (d + 2) kX4_hasPlace 0 [some (ax_r 74), some (ax_i x1), some (ax_i x2)] I Q := by
  show Rn _ _ _ _ _ _ _ _
  refine r_iload_n dX4_hasPlace_0 rfl ?_
  refine r_if_lt (tgt := 23) dX4_hasPlace_1 (by decide) r2 (fun c1 => ?_) (fun c1 => ?_)
  · have H := H.1 c1
    refine r_iconst dX4_hasPlace_23 ?_
    exact r_zret dX4_hasPlace_24 rfl (by decide) ⟨rfl, _, rfl, H⟩
  · have H := H.2 c1
    refine r_iload_n dX4_hasPlace_4 rfl ?_
    refine r_bipush (v := 12) dX4_hasPlace_5 (by decide) ?_
    refine r_icmp_ge (tgt := 23) dX4_hasPlace_7 (by decide) r2 (by decide) (fun c2 => ?_) (fun c2 => ?_)
    · have H := H.1 c2
      refine r_iconst dX4_hasPlace_23 ?_
      exact r_zret dX4_hasPlace_24 rfl (by decide) ⟨rfl, _, rfl, H⟩
    · have H := H.2 c2
      refine r_iload_n dX4_hasPlace_10 rfl ?_
      refine r_aload_n dX4_hasPlace_11 rfl ?_
      refine r_iload_n dX4_hasPlace_12 rfl ?_
      refine r_cI (as := [ax_r 74, ax_i x1]) (how_V (ci := 4) jX4_sizeOf jIX4_sizeOf jVX4_sizeOf rfl s0_74 (by decide) rfl rfl wX4_20 dX4_hasPlace_13) rfl (Nat.le_refl _) (Nat.le_of_ble_eq_true rfl) (fun _ => Nat.le_of_ble_eq_true rfl) H (fun w4 I3 H => ?_)
      have ob5 := H.1
      have H := H.2
      refine r_icmp_ge (tgt := 23) dX4_hasPlace_16 (by decide) r2 ob5 (fun c6 => ?_) (fun c6 => ?_)
      · have H := H.1 c6
        refine r_iconst dX4_hasPlace_23 ?_
        exact r_zret dX4_hasPlace_24 rfl (by decide) ⟨rfl, _, rfl, H⟩
      · have H := H.2 c6
        refine r_iconst dX4_hasPlace_19 ?_
        refine r_goto (tgt := 24) dX4_hasPlace_20 (by decide) ?_
        exact r_zret dX4_hasPlace_24 rfl (by decide) ⟨rfl, _, rfl, H⟩

theorem vX4_numberAt_0 {d : Nat} {Q : Int → ax_H → Prop} {x1 : Int} {x2 : Int} {I : ax_H} (H :
  cI (d + 2) kX4_hasPlace [ax_r 74, ax_i x1, ax_i x2] I (fun w2 I1 =>
  ax_R w2 ∧
  ((w2 = 0 →
    Q 0 I1) ∧
  (¬ w2 = 0 →
    (0 ≤ ((x1 * 12) + x2) ∧ ((x1 * 12) + x2) < 48) ∧
    (Q (I1 76 ((x1 * 12) + x2)) I1))))) :
  RI (d + 3) kX4_numberAt 0 [some (ax_r 74), some (ax_i x1), some (ax_i x2)] I Q := by
  show Rn _ _ _ _ _ _ _ _
  refine r_aload_n dX4_numberAt_0 rfl ?_
  refine r_iload_n dX4_numberAt_1 rfl ?_
  refine r_iload_n dX4_numberAt_2 rfl ?_
  refine r_cI (as := [ax_r 74, ax_i x1, ax_i x2]) (how_V (ci := 4) jX4_hasPlace jIX4_hasPlace jVX4_hasPlace rfl s0_74 (by decide) rfl rfl wX4_24 dX4_numberAt_3) rfl (Nat.le_refl _) (Nat.le_of_ble_eq_true rfl) (fun _ => Nat.le_of_ble_eq_true rfl) H (fun w2 I1 H => ?_)
  have ob3 := H.1
  have H := H.2
  refine r_if_eq (tgt := 23) dX4_numberAt_6 (by decide) ob3 (fun c4 => ?_) (fun c4 => ?_)
  · have H := H.1 c4
    refine r_iconst dX4_numberAt_23 ?_
    exact r_iret dX4_numberAt_24 rfl ⟨rfl, _, rfl, H⟩
  · have H := H.2 c4
    refine r_aload_n dX4_numberAt_9 rfl ?_
    refine r_getR clX4 1 (by decide) s0_74 rfl rfl wX4_13 dX4_numberAt_10 ?_
    refine r_iload_n dX4_numberAt_13 rfl ?_
    refine r_bipush (v := 12) dX4_numberAt_14 (by decide) ?_
    refine r_imul dX4_numberAt_16 ?_
    refine r_iload_n dX4_numberAt_17 rfl ?_
    refine r_iadd dX4_numberAt_18 ?_
    have ob5 := H.1
    have H := H.2
    refine r_iald s0_76 (by decide) dX4_numberAt_19 ob5 ?_
    refine r_goto (tgt := 24) dX4_numberAt_20 (by decide) ?_
    exact r_iret dX4_numberAt_24 rfl ⟨rfl, _, rfl, H⟩

theorem vX4_change_0 {d : Nat} {Q : ax_H → Prop} {x1 : Int} {x2 : Int} {x3 : Int} {I : ax_H} (r3 : ax_R x3) (H :
  cI (d + 2) kX4_hasPlace [ax_r 74, ax_i x1, ax_i x2] I (fun w2 I1 =>
  ax_R w2 ∧
  ((w2 = 0 →
    Q I1) ∧
  (¬ w2 = 0 →
    (0 ≤ ((x1 * 12) + x2) ∧ ((x1 * 12) + x2) < 48) ∧
    (Q (ax_st I1 76 ((x1 * 12) + x2) x3)))))) :
  RV (d + 3) kX4_change 0 [some (ax_r 74), some (ax_i x1), some (ax_i x2), some (ax_i x3)] I Q := by
  show Rn _ _ _ _ _ _ _ _
  refine r_aload_n dX4_change_0 rfl ?_
  refine r_iload_n dX4_change_1 rfl ?_
  refine r_iload_n dX4_change_2 rfl ?_
  refine r_cI (as := [ax_r 74, ax_i x1, ax_i x2]) (how_V (ci := 4) jX4_hasPlace jIX4_hasPlace jVX4_hasPlace rfl s0_74 (by decide) rfl rfl wX4_24 dX4_change_3) rfl (Nat.le_refl _) (Nat.le_of_ble_eq_true rfl) (fun _ => Nat.le_of_ble_eq_true rfl) H (fun w2 I1 H => ?_)
  have ob3 := H.1
  have H := H.2
  refine r_if_eq (tgt := 21) dX4_change_6 (by decide) ob3 (fun c4 => ?_) (fun c4 => ?_)
  · have H := H.1 c4
    exact r_vret dX4_change_21 rfl ⟨rfl, rfl, H⟩
  · have H := H.2 c4
    refine r_aload_n dX4_change_9 rfl ?_
    refine r_getR clX4 1 (by decide) s0_74 rfl rfl wX4_13 dX4_change_10 ?_
    refine r_iload_n dX4_change_13 rfl ?_
    refine r_bipush (v := 12) dX4_change_14 (by decide) ?_
    refine r_imul dX4_change_16 ?_
    refine r_iload_n dX4_change_17 rfl ?_
    refine r_iadd dX4_change_18 ?_
    refine r_iload_n dX4_change_19 rfl ?_
    have ob5 := H.1
    have H := H.2
    refine r_iast s0_76 (by decide) dX4_change_20 ob5 r3 ?_
    exact r_vret dX4_change_21 rfl ⟨rfl, rfl, H⟩

theorem vX4_renew_0 {d : Nat} {Q : ax_H → Prop} {x1 : Int} {x2 : Int} {I : ax_H} (r2 : ax_R x2) (H :
  cI d kX4_isList [ax_r 74, ax_i x1] I (fun w2 I1 =>
  ax_R w2 ∧
  ((w2 = 0 →
    Q I1) ∧
  (¬ w2 = 0 →
    (x2 < 0 →
      Q I1) ∧
    (¬ x2 < 0 →
      (x2 ≤ 12 →
        (0 ≤ x1 ∧ x1 < 4) ∧
        (RV (d + 1) kX4_renew 28 [some (ax_r 74), some (ax_i x1), some (ax_i x2), some (ax_i 0)] (ax_st I1 75 x1 x2) Q)) ∧
      (¬ x2 ≤ 12 →
        Q I1)))))) :
  RV (d + 1) kX4_renew 0 [some (ax_r 74), some (ax_i x1), some (ax_i x2), none] I Q := by
  show Rn _ _ _ _ _ _ _ _
  refine r_aload_n dX4_renew_0 rfl ?_
  refine r_iload_n dX4_renew_1 rfl ?_
  refine r_cI (as := [ax_r 74, ax_i x1]) (how_V (ci := 4) jX4_isList jIX4_isList jVX4_isList rfl s0_74 (by decide) rfl rfl wX4_16 dX4_renew_2) rfl (Nat.le_refl _) (Nat.le_of_ble_eq_true rfl) (fun _ => Nat.le_of_ble_eq_true rfl) H (fun w2 I1 H => ?_)
  have ob3 := H.1
  have H := H.2
  refine r_if_eq (tgt := 18) dX4_renew_5 (by decide) ob3 (fun c4 => ?_) (fun c4 => ?_)
  · have H := H.1 c4
    exact r_vret dX4_renew_18 rfl ⟨rfl, rfl, H⟩
  · have H := H.2 c4
    refine r_iload_n dX4_renew_8 rfl ?_
    refine r_if_lt (tgt := 18) dX4_renew_9 (by decide) r2 (fun c5 => ?_) (fun c5 => ?_)
    · have H := H.1 c5
      exact r_vret dX4_renew_18 rfl ⟨rfl, rfl, H⟩
    · have H := H.2 c5
      refine r_iload_n dX4_renew_12 rfl ?_
      refine r_bipush (v := 12) dX4_renew_13 (by decide) ?_
      refine r_icmp_le (tgt := 19) dX4_renew_15 (by decide) r2 (by decide) (fun c6 => ?_) (fun c6 => ?_)
      · have H := H.1 c6
        refine r_aload_n dX4_renew_19 rfl ?_
        refine r_getR clX4 0 (by decide) s0_74 rfl rfl wX4_7 dX4_renew_20 ?_
        refine r_iload_n dX4_renew_23 rfl ?_
        refine r_iload_n dX4_renew_24 rfl ?_
        have ob7 := H.1
        have H := H.2
        refine r_iast s0_75 (by decide) dX4_renew_25 ob7 r2 ?_
        refine r_iconst dX4_renew_26 ?_
        refine r_istore_n dX4_renew_27 (by decide) rfl ?_
        exact H
      · have H := H.2 c6
        exact r_vret dX4_renew_18 rfl ⟨rfl, rfl, H⟩

theorem vX4_renew_28 {d : Nat} {Q : ax_H → Prop} {x1 : Int} {x2 : Int} {x3 : Int} {I : ax_H} (r2 : ax_R x2) (r3 : ax_R x3) (H :
  (x2 ≤ x3 →
    Q I) ∧
  (¬ x2 ≤ x3 →
    (0 ≤ ((x1 * 12) + x3) ∧ ((x1 * 12) + x3) < 48) ∧
    (RV (d + 1) kX4_renew 28 [some (ax_r 74), some (ax_i x1), some (ax_i x2), some (ax_i (x3 + 1))] (ax_st I 76 ((x1 * 12) + x3) 0) Q))) :
  RV (d + 1) kX4_renew 28 [some (ax_r 74), some (ax_i x1), some (ax_i x2), some (ax_i x3)] I Q := by
  show Rn _ _ _ _ _ _ _ _
  refine r_iload_n dX4_renew_28 rfl ?_
  refine r_iload_n dX4_renew_29 rfl ?_
  refine r_icmp_ge (tgt := 51) dX4_renew_30 (by decide) r3 r2 (fun c1 => ?_) (fun c1 => ?_)
  · have H := H.1 c1
    exact r_vret dX4_renew_51 rfl ⟨rfl, rfl, H⟩
  · have H := H.2 c1
    refine r_aload_n dX4_renew_33 rfl ?_
    refine r_getR clX4 1 (by decide) s0_74 rfl rfl wX4_13 dX4_renew_34 ?_
    refine r_iload_n dX4_renew_37 rfl ?_
    refine r_bipush (v := 12) dX4_renew_38 (by decide) ?_
    refine r_imul dX4_renew_40 ?_
    refine r_iload_n dX4_renew_41 rfl ?_
    refine r_iadd dX4_renew_42 ?_
    refine r_iconst dX4_renew_43 ?_
    have ob2 := H.1
    have H := H.2
    refine r_iast s0_76 (by decide) dX4_renew_44 ob2 (by decide) ?_
    refine r_iinc dX4_renew_45 (by decide) rfl rfl ?_
    refine r_goto (tgt := 28) dX4_renew_48 (by decide) ?_
    exact H

theorem vX6_isFull_0 {d : Nat} {Q : Int → ax_H → Prop} {a0 : Nat} {I : ax_H} (h0 : isPn a0) (H :
  ((I a0 2) < 8 →
    Q 0 I) ∧
  (¬ (I a0 2) < 8 →
    Q 1 I)) :
  RI d kX6_isFull 0 [some (ax_r a0)] I Q := by
  show Rn _ _ _ _ _ _ _ _
  refine r_aload_n dX6_isFull_0 rfl ?_
  refine r_getI clX6 2 2 (by decide) h0.1 rfl rfl wX6_18 dX6_isFull_1 ?_
  refine r_aload_n dX6_isFull_4 rfl ?_
  refine r_getR clX6 0 (by decide) h0.1 rfl rfl wX6_9 dX6_isFull_5 ?_
  refine r_alen h0.2.1 dX6_isFull_8 8 rfl ?_
  refine r_heapR (fun hI1 => ?_)
  refine r_icmp_lt (tgt := 16) dX6_isFull_9 (by decide) (hI1 _ _) (by decide) (fun c2 => ?_) (fun c2 => ?_)
  · have H := H.1 c2
    refine r_iconst dX6_isFull_16 ?_
    exact r_zret dX6_isFull_17 rfl (by decide) ⟨rfl, _, rfl, H⟩
  · have H := H.2 c2
    refine r_iconst dX6_isFull_12 ?_
    refine r_goto (tgt := 17) dX6_isFull_13 (by decide) ?_
    exact r_zret dX6_isFull_17 rfl (by decide) ⟨rfl, _, rfl, H⟩

theorem vX6_takes_0 {d : Nat} {Q : Int → ax_H → Prop} {a0 : Nat} {x1 : Int} {x2 : Int} {I : ax_H} (h0 : isPn a0) (r1 : ax_R x1) (r2 : ax_R x2) (H :
  (x1 = 3 →
    Q 1 I) ∧
  (¬ x1 = 3 →
    (x1 ≠ 2 →
      (x2 < 1 →
        Q 0 I) ∧
      (¬ x2 < 1 →
        (9 < x2 →
          Q 0 I) ∧
        (¬ 9 < x2 →
          Q 1 I))) ∧
    (x1 = 2 →
      (x2 = 0 →
        Q 1 I) ∧
      (¬ x2 = 0 →
        (x2 ≠ 1 →
          Q 0 I) ∧
        (x2 = 1 →
          Q 1 I))))) :
  RI d kX6_takes 0 [some (ax_r a0), some (ax_i x1), some (ax_i x2)] I Q := by
  show Rn _ _ _ _ _ _ _ _
  refine r_iload_n dX6_takes_0 rfl ?_
  refine r_iconst dX6_takes_1 ?_
  refine r_icmp_eq (tgt := 33) dX6_takes_2 (by decide) r1 (by decide) (fun c1 => ?_) (fun c1 => ?_)
  · have H := H.1 c1
    refine r_iconst dX6_takes_33 ?_
    refine r_goto (tgt := 38) dX6_takes_34 (by decide) ?_
    exact r_zret dX6_takes_38 rfl (by decide) ⟨rfl, _, rfl, H⟩
  · have H := H.2 c1
    refine r_iload_n dX6_takes_5 rfl ?_
    refine r_iconst dX6_takes_6 ?_
    refine r_icmp_ne (tgt := 22) dX6_takes_7 (by decide) r1 (by decide) (fun c2 => ?_) (fun c2 => ?_)
    · have H := H.1 c2
      refine r_iload_n dX6_takes_22 rfl ?_
      refine r_iconst dX6_takes_23 ?_
      refine r_icmp_lt (tgt := 37) dX6_takes_24 (by decide) r2 (by decide) (fun c3 => ?_) (fun c3 => ?_)
      · have H := H.1 c3
        refine r_iconst dX6_takes_37 ?_
        exact r_zret dX6_takes_38 rfl (by decide) ⟨rfl, _, rfl, H⟩
      · have H := H.2 c3
        refine r_iload_n dX6_takes_27 rfl ?_
        refine r_bipush (v := 9) dX6_takes_28 (by decide) ?_
        refine r_icmp_gt (tgt := 37) dX6_takes_30 (by decide) r2 (by decide) (fun c4 => ?_) (fun c4 => ?_)
        · have H := H.1 c4
          refine r_iconst dX6_takes_37 ?_
          exact r_zret dX6_takes_38 rfl (by decide) ⟨rfl, _, rfl, H⟩
        · have H := H.2 c4
          refine r_iconst dX6_takes_33 ?_
          refine r_goto (tgt := 38) dX6_takes_34 (by decide) ?_
          exact r_zret dX6_takes_38 rfl (by decide) ⟨rfl, _, rfl, H⟩
    · have H := H.2 c2
      refine r_iload_n dX6_takes_10 rfl ?_
      refine r_if_eq (tgt := 33) dX6_takes_11 (by decide) r2 (fun c5 => ?_) (fun c5 => ?_)
      · have H := H.1 c5
        refine r_iconst dX6_takes_33 ?_
        refine r_goto (tgt := 38) dX6_takes_34 (by decide) ?_
        exact r_zret dX6_takes_38 rfl (by decide) ⟨rfl, _, rfl, H⟩
      · have H := H.2 c5
        refine r_iload_n dX6_takes_14 rfl ?_
        refine r_iconst dX6_takes_15 ?_
        refine r_icmp_ne (tgt := 37) dX6_takes_16 (by decide) r2 (by decide) (fun c6 => ?_) (fun c6 => ?_)
        · have H := H.1 c6
          refine r_iconst dX6_takes_37 ?_
          exact r_zret dX6_takes_38 rfl (by decide) ⟨rfl, _, rfl, H⟩
        · have H := H.2 c6
          refine r_goto (tgt := 33) dX6_takes_19 (by decide) ?_
          refine r_iconst dX6_takes_33 ?_
          refine r_goto (tgt := 38) dX6_takes_34 (by decide) ?_
          exact r_zret dX6_takes_38 rfl (by decide) ⟨rfl, _, rfl, H⟩

theorem vX6_add_0 {d : Nat} {Q : ax_H → Prop} {a0 : Nat} {x1 : Int} {x2 : Int} {I : ax_H} (h0 : isPn a0) (r1 : ax_R x1) (r2 : ax_R x2) (H :
  ((I a0 2) < 0 →
    Q I) ∧
  (¬ (I a0 2) < 0 →
    (8 ≤ (I a0 2) →
      Q I) ∧
    (¬ 8 ≤ (I a0 2) →
      (8 ≤ (I a0 2) →
        Q I) ∧
      (¬ 8 ≤ (I a0 2) →
        (0 ≤ (I a0 2) ∧ (I a0 2) < 8) ∧
        ((0 ≤ ((ax_st I (a0 + 1) (I a0 2) x1) a0 2) ∧ ((ax_st I (a0 + 1) (I a0 2) x1) a0 2) < 8) ∧
        (ax_R (((ax_st (ax_st I (a0 + 1) (I a0 2) x1) (a0 + 2) ((ax_st I (a0 + 1) (I a0 2) x1) a0 2) x2) a0 2) + 1) ∧
        (Q (ax_st (ax_st (ax_st I (a0 + 1) (I a0 2) x1) (a0 + 2) ((ax_st I (a0 + 1) (I a0 2) x1) a0 2) x2) a0 2 (((ax_st (ax_st I (a0 + 1) (I a0 2) x1) (a0 + 2) ((ax_st I (a0 + 1) (I a0 2) x1) a0 2) x2) a0 2) + 1))))))))) :
  RV d kX6_add 0 [some (ax_r a0), some (ax_i x1), some (ax_i x2)] I Q := by
  show Rn _ _ _ _ _ _ _ _
  refine r_aload_n dX6_add_0 rfl ?_
  refine r_getI clX6 2 2 (by decide) h0.1 rfl rfl wX6_18 dX6_add_1 ?_
  refine r_heapR (fun hI1 => ?_)
  refine r_if_lt (tgt := 61) dX6_add_4 (by decide) (hI1 _ _) (fun c2 => ?_) (fun c2 => ?_)
  · have H := H.1 c2
    exact r_vret dX6_add_61 rfl ⟨rfl, rfl, H⟩
  · have H := H.2 c2
    refine r_aload_n dX6_add_7 rfl ?_
    refine r_getI clX6 2 2 (by decide) h0.1 rfl rfl wX6_18 dX6_add_8 ?_
    refine r_aload_n dX6_add_11 rfl ?_
    refine r_getR clX6 0 (by decide) h0.1 rfl rfl wX6_9 dX6_add_12 ?_
    refine r_alen h0.2.1 dX6_add_15 8 rfl ?_
    refine r_icmp_ge (tgt := 61) dX6_add_16 (by decide) (hI1 _ _) (by decide) (fun c3 => ?_) (fun c3 => ?_)
    · have H := H.1 c3
      exact r_vret dX6_add_61 rfl ⟨rfl, rfl, H⟩
    · have H := H.2 c3
      refine r_aload_n dX6_add_19 rfl ?_
      refine r_getI clX6 2 2 (by decide) h0.1 rfl rfl wX6_18 dX6_add_20 ?_
      refine r_aload_n dX6_add_23 rfl ?_
      refine r_getR clX6 1 (by decide) h0.1 rfl rfl wX6_15 dX6_add_24 ?_
      refine r_alen h0.2.2 dX6_add_27 8 rfl ?_
      refine r_icmp_ge (tgt := 61) dX6_add_28 (by decide) (hI1 _ _) (by decide) (fun c4 => ?_) (fun c4 => ?_)
      · have H := H.1 c4
        exact r_vret dX6_add_61 rfl ⟨rfl, rfl, H⟩
      · have H := H.2 c4
        refine r_aload_n dX6_add_31 rfl ?_
        refine r_getR clX6 0 (by decide) h0.1 rfl rfl wX6_9 dX6_add_32 ?_
        refine r_aload_n dX6_add_35 rfl ?_
        refine r_getI clX6 2 2 (by decide) h0.1 rfl rfl wX6_18 dX6_add_36 ?_
        refine r_iload_n dX6_add_39 rfl ?_
        have ob5 := H.1
        have H := H.2
        refine r_iast h0.2.1 (by decide) dX6_add_40 ob5 r1 ?_
        refine r_aload_n dX6_add_41 rfl ?_
        refine r_getR clX6 1 (by decide) h0.1 rfl rfl wX6_15 dX6_add_42 ?_
        refine r_aload_n dX6_add_45 rfl ?_
        refine r_getI clX6 2 2 (by decide) h0.1 rfl rfl wX6_18 dX6_add_46 ?_
        refine r_iload_n dX6_add_49 rfl ?_
        have ob6 := H.1
        have H := H.2
        refine r_iast h0.2.2 (by decide) dX6_add_50 ob6 r2 ?_
        refine r_aload_n dX6_add_51 rfl ?_
        refine r_dup dX6_add_52 (fun _ => rfl) ?_
        refine r_getI clX6 2 2 (by decide) h0.1 rfl rfl wX6_18 dX6_add_53 ?_
        refine r_iconst dX6_add_56 ?_
        refine r_iadd dX6_add_57 ?_
        have ob7 := H.1
        have H := H.2
        refine r_putI clX6 2 2 (by decide) h0.1 rfl rfl rfl ob7 rfl rfl wX6_18 dX6_add_58 ?_
        exact r_vret dX6_add_61 rfl ⟨rfl, rfl, H⟩

theorem vX6_copyFrom_0 {d : Nat} {Q : ax_H → Prop} {a0 : Nat} {a1 : Nat} {I : ax_H} (h0 : isPn a0) (h1 : isPn a1) (H :
  Q (ax_st (ax_cp (ax_cp I (a1 + 1) 0 (a0 + 1) 0 8) (a1 + 2) 0 (a0 + 2) 0 8) a0 2 ((ax_cp (ax_cp I (a1 + 1) 0 (a0 + 1) 0 8) (a1 + 2) 0 (a0 + 2) 0 8) a1 2))) :
  RV (d + 1) kX6_copyFrom 0 [some (ax_r a0), some (ax_r a1)] I Q := by
  show Rn _ _ _ _ _ _ _ _
  refine r_aload_n dX6_copyFrom_0 rfl ?_
  refine r_getR clX6 0 (by decide) h1.1 rfl rfl wX6_9 dX6_copyFrom_1 ?_
  refine r_iconst dX6_copyFrom_4 ?_
  refine r_aload_n dX6_copyFrom_5 rfl ?_
  refine r_getR clX6 0 (by decide) h0.1 rfl rfl wX6_9 dX6_copyFrom_6 ?_
  refine r_iconst dX6_copyFrom_9 ?_
  refine r_aload_n dX6_copyFrom_10 rfl ?_
  refine r_getR clX6 0 (by decide) h0.1 rfl rfl wX6_9 dX6_copyFrom_11 ?_
  refine r_alen h0.2.1 dX6_copyFrom_14 8 rfl ?_
  refine r_copy (by simp) h1.2.1 h0.2.1 (by decide) (by decide) (by decide) (by decide) (by decide) (by decide) (by decide) (fun _ => Nat.le_of_ble_eq_true rfl) wX6_22 wNat wSta wIni dX6_copyFrom_15 ?_
  refine r_aload_n dX6_copyFrom_18 rfl ?_
  refine r_getR clX6 1 (by decide) h1.1 rfl rfl wX6_15 dX6_copyFrom_19 ?_
  refine r_iconst dX6_copyFrom_22 ?_
  refine r_aload_n dX6_copyFrom_23 rfl ?_
  refine r_getR clX6 1 (by decide) h0.1 rfl rfl wX6_15 dX6_copyFrom_24 ?_
  refine r_iconst dX6_copyFrom_27 ?_
  refine r_aload_n dX6_copyFrom_28 rfl ?_
  refine r_getR clX6 1 (by decide) h0.1 rfl rfl wX6_15 dX6_copyFrom_29 ?_
  refine r_alen h0.2.2 dX6_copyFrom_32 8 rfl ?_
  refine r_copy (by simp) h1.2.2 h0.2.2 (by decide) (by decide) (by decide) (by decide) (by decide) (by decide) (by decide) (fun _ => Nat.le_of_ble_eq_true rfl) wX6_22 wNat wSta wIni dX6_copyFrom_33 ?_
  refine r_aload_n dX6_copyFrom_36 rfl ?_
  refine r_aload_n dX6_copyFrom_37 rfl ?_
  refine r_getI clX6 2 2 (by decide) h1.1 rfl rfl wX6_18 dX6_copyFrom_38 ?_
  refine r_heapR (fun hI1 => ?_)
  refine r_putI clX6 2 2 (by decide) h0.1 rfl rfl rfl (hI1 _ _) rfl rfl wX6_18 dX6_copyFrom_41 ?_
  exact r_vret dX6_copyFrom_44 rfl ⟨rfl, rfl, H⟩

theorem vX6_endOf_0 {d : Nat} {Q : Int → ax_H → Prop} {a0 : Nat} {x2 : Int} {I : ax_H} (h0 : isPn a0) (H :
  RI (d + 5) kX6_endOf 5 [some (ax_r a0), some (ax_r 1), none, some (ax_i x2), some (ax_i 0)] I Q) :
  RI (d + 5) kX6_endOf 0 [some (ax_r a0), some (ax_r 1), some (ax_i x2), none, none] I Q := by
  show Rn _ _ _ _ _ _ _ _
  refine r_iload_n dX6_endOf_0 rfl ?_
  refine r_istore_n dX6_endOf_1 (by decide) rfl ?_
  refine r_iconst dX6_endOf_2 ?_
  refine r_istore dX6_endOf_3 (by decide) rfl ?_
  refine r_drop (ls2 := [some (ax_r a0), some (ax_r 1), none, some (ax_i x2), some (ax_i 0)]) ?_ (ax_leS (ax_leS (ax_leN (ax_leS (ax_leS ax_leE)))))
  exact H

theorem vX6_endOf_5 {d : Nat} {Q : Int → ax_H → Prop} {a0 : Nat} {x3 : Int} {x4 : Int} {I : ax_H} (h0 : isPn a0) (r4 : ax_R x4) (H :
  ((I a0 2) ≤ x4 →
    Q x3 I) ∧
  (¬ (I a0 2) ≤ x4 →
    (8 ≤ x4 →
      Q x3 I) ∧
    (¬ 8 ≤ x4 →
      (8 ≤ x4 →
        Q x3 I) ∧
      (¬ 8 ≤ x4 →
        (0 ≤ x4 ∧ x4 < 8) ∧
        (((I (a0 + 1) x4) ≠ 3 →
          ((I (a0 + 1) x4) ≠ 2 →
            ((I (a0 + 1) x4) ≠ 1 →
              cI (d + 4) kX6_steppedAsFarAsItGoes [ax_r a0, ax_r 1, ax_i 0, ax_i (I (a0 + 2) x4), ax_i x3] I (fun w10 I9 =>
              RI (d + 5) kX6_endOf 5 [some (ax_r a0), some (ax_r 1), none, some (ax_i w10), some (ax_i (x4 + 1))] I9 Q)) ∧
            ((I (a0 + 1) x4) = 1 →
              cI (d + 4) kX6_steppedAsFarAsItGoes [ax_r a0, ax_r 1, ax_i 1, ax_i (I (a0 + 2) x4), ax_i x3] I (fun w12 I11 =>
              RI (d + 5) kX6_endOf 5 [some (ax_r a0), some (ax_r 1), none, some (ax_i w12), some (ax_i (x4 + 1))] I11 Q))) ∧
          ((I (a0 + 1) x4) = 2 →
            cI (d + 4) kX6_swappedIfItGoes [ax_r a0, ax_r 1, ax_i (I (a0 + 2) x4), ax_i x3] I (fun w14 I13 =>
            RI (d + 5) kX6_endOf 5 [some (ax_r a0), some (ax_r 1), none, some (ax_i w14), some (ax_i (x4 + 1))] I13 Q))) ∧
        ((I (a0 + 1) x4) = 3 →
          (0 ≤ x3 ∧ x3 < 2147483648) ∧
          (∀ y3_57, y3_57 = (((x3 % 32) * 32) + (x3 / 32)) →
          (RI (d + 5) kX6_endOf 5 [some (ax_r a0), some (ax_r 1), none, some (ax_i y3_57), some (ax_i (x4 + 1))] I Q)))))))) :
  RI (d + 5) kX6_endOf 5 [some (ax_r a0), some (ax_r 1), none, some (ax_i x3), some (ax_i x4)] I Q := by
  show Rn _ _ _ _ _ _ _ _
  refine r_iload dX6_endOf_5 rfl ?_
  refine r_aload_n dX6_endOf_7 rfl ?_
  refine r_getI clX6 2 2 (by decide) h0.1 rfl rfl wX6_18 dX6_endOf_8 ?_
  refine r_heapR (fun hI1 => ?_)
  refine r_icmp_ge (tgt := 125) dX6_endOf_11 (by decide) r4 (hI1 _ _) (fun c2 => ?_) (fun c2 => ?_)
  · have H := H.1 c2
    refine r_iload_n dX6_endOf_125 rfl ?_
    exact r_iret dX6_endOf_126 rfl ⟨rfl, _, rfl, H⟩
  · have H := H.2 c2
    refine r_iload dX6_endOf_14 rfl ?_
    refine r_aload_n dX6_endOf_16 rfl ?_
    refine r_getR clX6 0 (by decide) h0.1 rfl rfl wX6_9 dX6_endOf_17 ?_
    refine r_alen h0.2.1 dX6_endOf_20 8 rfl ?_
    refine r_icmp_ge (tgt := 125) dX6_endOf_21 (by decide) r4 (by decide) (fun c3 => ?_) (fun c3 => ?_)
    · have H := H.1 c3
      refine r_iload_n dX6_endOf_125 rfl ?_
      exact r_iret dX6_endOf_126 rfl ⟨rfl, _, rfl, H⟩
    · have H := H.2 c3
      refine r_iload dX6_endOf_24 rfl ?_
      refine r_aload_n dX6_endOf_26 rfl ?_
      refine r_getR clX6 1 (by decide) h0.1 rfl rfl wX6_15 dX6_endOf_27 ?_
      refine r_alen h0.2.2 dX6_endOf_30 8 rfl ?_
      refine r_icmp_ge (tgt := 125) dX6_endOf_31 (by decide) r4 (by decide) (fun c4 => ?_) (fun c4 => ?_)
      · have H := H.1 c4
        refine r_iload_n dX6_endOf_125 rfl ?_
        exact r_iret dX6_endOf_126 rfl ⟨rfl, _, rfl, H⟩
      · have H := H.2 c4
        refine r_aload_n dX6_endOf_34 rfl ?_
        refine r_getR clX6 0 (by decide) h0.1 rfl rfl wX6_9 dX6_endOf_35 ?_
        refine r_iload dX6_endOf_38 rfl ?_
        have ob5 := H.1
        have H := H.2
        refine r_iald h0.2.1 (by decide) dX6_endOf_40 ob5 ?_
        refine r_iconst dX6_endOf_41 ?_
        refine r_icmp_ne (tgt := 61) dX6_endOf_42 (by decide) (hI1 _ _) (by decide) (fun c6 => ?_) (fun c6 => ?_)
        · have H := H.1 c6
          refine r_aload_n dX6_endOf_61 rfl ?_
          refine r_getR clX6 0 (by decide) h0.1 rfl rfl wX6_9 dX6_endOf_62 ?_
          refine r_iload dX6_endOf_65 rfl ?_
          refine r_iald h0.2.1 (by decide) dX6_endOf_67 ob5 ?_
          refine r_iconst dX6_endOf_68 ?_
          refine r_icmp_ne (tgt := 89) dX6_endOf_69 (by decide) (hI1 _ _) (by decide) (fun c7 => ?_) (fun c7 => ?_)
          · have H := H.1 c7
            refine r_aload_n dX6_endOf_89 rfl ?_
            refine r_aload_n dX6_endOf_90 rfl ?_
            refine r_aload_n dX6_endOf_91 rfl ?_
            refine r_getR clX6 0 (by decide) h0.1 rfl rfl wX6_9 dX6_endOf_92 ?_
            refine r_iload dX6_endOf_95 rfl ?_
            refine r_iald h0.2.1 (by decide) dX6_endOf_97 ob5 ?_
            refine r_iconst dX6_endOf_98 ?_
            refine r_icmp_ne (tgt := 106) dX6_endOf_99 (by decide) (hI1 _ _) (by decide) (fun c8 => ?_) (fun c8 => ?_)
            · have H := H.1 c8
              refine r_iconst dX6_endOf_106 ?_
              refine r_aload_n dX6_endOf_107 rfl ?_
              refine r_getR clX6 1 (by decide) h0.1 rfl rfl wX6_15 dX6_endOf_108 ?_
              refine r_iload dX6_endOf_111 rfl ?_
              refine r_iald h0.2.2 (by decide) dX6_endOf_113 ob5 ?_
              refine r_iload_n dX6_endOf_114 rfl ?_
              refine r_cI (as := [ax_r a0, ax_r 1, ax_i 0, ax_i (I (a0 + 2) x4), ax_i x3]) (how_V (ci := 6) jX6_steppedAsFarAsItGoes jIX6_steppedAsFarAsItGoes jVX6_steppedAsFarAsItGoes rfl h0.1 (by decide) rfl rfl wX6_32 dX6_endOf_115) rfl (Nat.le_refl _) (Nat.le_of_ble_eq_true rfl) (fun _ => Nat.le_of_ble_eq_true rfl) H (fun w10 I9 H => ?_)
              refine r_istore_n dX6_endOf_118 (by decide) rfl ?_
              refine r_iinc dX6_endOf_119 (by decide) rfl rfl ?_
              refine r_goto (tgt := 5) dX6_endOf_122 (by decide) ?_
              exact H
            · have H := H.2 c8
              refine r_iconst dX6_endOf_102 ?_
              refine r_goto (tgt := 107) dX6_endOf_103 (by decide) ?_
              refine r_aload_n dX6_endOf_107 rfl ?_
              refine r_getR clX6 1 (by decide) h0.1 rfl rfl wX6_15 dX6_endOf_108 ?_
              refine r_iload dX6_endOf_111 rfl ?_
              refine r_iald h0.2.2 (by decide) dX6_endOf_113 ob5 ?_
              refine r_iload_n dX6_endOf_114 rfl ?_
              refine r_cI (as := [ax_r a0, ax_r 1, ax_i 1, ax_i (I (a0 + 2) x4), ax_i x3]) (how_V (ci := 6) jX6_steppedAsFarAsItGoes jIX6_steppedAsFarAsItGoes jVX6_steppedAsFarAsItGoes rfl h0.1 (by decide) rfl rfl wX6_32 dX6_endOf_115) rfl (Nat.le_refl _) (Nat.le_of_ble_eq_true rfl) (fun _ => Nat.le_of_ble_eq_true rfl) H (fun w12 I11 H => ?_)
              refine r_istore_n dX6_endOf_118 (by decide) rfl ?_
              refine r_iinc dX6_endOf_119 (by decide) rfl rfl ?_
              refine r_goto (tgt := 5) dX6_endOf_122 (by decide) ?_
              exact H
          · have H := H.2 c7
            refine r_aload_n dX6_endOf_72 rfl ?_
            refine r_aload_n dX6_endOf_73 rfl ?_
            refine r_aload_n dX6_endOf_74 rfl ?_
            refine r_getR clX6 1 (by decide) h0.1 rfl rfl wX6_15 dX6_endOf_75 ?_
            refine r_iload dX6_endOf_78 rfl ?_
            refine r_iald h0.2.2 (by decide) dX6_endOf_80 ob5 ?_
            refine r_iload_n dX6_endOf_81 rfl ?_
            refine r_cI (as := [ax_r a0, ax_r 1, ax_i (I (a0 + 2) x4), ax_i x3]) (how_V (ci := 6) jX6_swappedIfItGoes jIX6_swappedIfItGoes jVX6_swappedIfItGoes rfl h0.1 (by decide) rfl rfl wX6_28 dX6_endOf_82) rfl (Nat.le_refl _) (Nat.le_of_ble_eq_true rfl) (fun _ => Nat.le_of_ble_eq_true rfl) H (fun w14 I13 H => ?_)
            refine r_istore_n dX6_endOf_85 (by decide) rfl ?_
            refine r_goto (tgt := 119) dX6_endOf_86 (by decide) ?_
            refine r_iinc dX6_endOf_119 (by decide) rfl rfl ?_
            refine r_goto (tgt := 5) dX6_endOf_122 (by decide) ?_
            exact H
        · have H := H.2 c6
          refine r_iload_n dX6_endOf_45 rfl ?_
          refine r_bipush (v := 32) dX6_endOf_46 (by decide) ?_
          have ob15 := H.1
          have H := H.2
          refine r_iremp dX6_endOf_48 ob15 (by decide) ?_
          refine r_bipush (v := 32) dX6_endOf_49 (by decide) ?_
          refine r_imul dX6_endOf_51 ?_
          refine r_iload_n dX6_endOf_52 rfl ?_
          refine r_bipush (v := 32) dX6_endOf_53 (by decide) ?_
          refine r_idivp dX6_endOf_55 ob15 (by decide) ?_
          refine r_iadd dX6_endOf_56 ?_
          refine r_name (fun y3_57 e16 => ?_)
          have H := H y3_57 e16
          refine r_istore_n dX6_endOf_57 (by decide) rfl ?_
          refine r_goto (tgt := 119) dX6_endOf_58 (by decide) ?_
          refine r_iinc dX6_endOf_119 (by decide) rfl rfl ?_
          refine r_goto (tgt := 5) dX6_endOf_122 (by decide) ?_
          exact H

theorem vX6_swappedIfItGoes_0 {d : Nat} {Q : Int → ax_H → Prop} {a0 : Nat} {x2 : Int} {x3 : Int} {I : ax_H} (h0 : isPn a0) (r2 : ax_R x2) (H :
  (0 ≤ x3 ∧ x3 < 2147483648) ∧
  (∀ y4_4, y4_4 = (x3 / 32) →
  (∀ y5_10, y5_10 = (x3 % 32) →
  ((x2 ≠ 0 →
    cI (d + 3) kX1_swapOf [ax_r 1, ax_i 1, ax_i y5_10, ax_i y4_4] I (fun w6 I5 =>
    ax_R w6 ∧
    ((w6 ≠ (-7) →
      Q ((y4_4 * 32) + w6) I5) ∧
    (w6 = (-7) →
      Q x3 I5)))) ∧
  (x2 = 0 →
    cI (d + 3) kX1_swapOf [ax_r 1, ax_i 0, ax_i y4_4, ax_i y5_10] I (fun w11 I10 =>
    ax_R w11 ∧
    ((w11 ≠ (-7) →
      Q ((w11 * 32) + y5_10) I10) ∧
    (w11 = (-7) →
      Q x3 I10)))))))) :
  RI (d + 4) kX6_swappedIfItGoes 0 [some (ax_r a0), some (ax_r 1), some (ax_i x2), some (ax_i x3), none, none, none] I Q := by
  show Rn _ _ _ _ _ _ _ _
  refine r_iload_n dX6_swappedIfItGoes_0 rfl ?_
  refine r_bipush (v := 32) dX6_swappedIfItGoes_1 (by decide) ?_
  have ob1 := H.1
  have H := H.2
  refine r_idivp dX6_swappedIfItGoes_3 ob1 (by decide) ?_
  refine r_name (fun y4_4 e2 => ?_)
  have H := H y4_4 e2
  refine r_istore dX6_swappedIfItGoes_4 (by decide) rfl ?_
  refine r_iload_n dX6_swappedIfItGoes_6 rfl ?_
  refine r_bipush (v := 32) dX6_swappedIfItGoes_7 (by decide) ?_
  refine r_iremp dX6_swappedIfItGoes_9 ob1 (by decide) ?_
  refine r_name (fun y5_10 e3 => ?_)
  have H := H y5_10 e3
  refine r_istore dX6_swappedIfItGoes_10 (by decide) rfl ?_
  refine r_iload_n dX6_swappedIfItGoes_12 rfl ?_
  refine r_if_ne (tgt := 28) dX6_swappedIfItGoes_13 (by decide) r2 (fun c4 => ?_) (fun c4 => ?_)
  · have H := H.1 c4
    refine r_aload_n dX6_swappedIfItGoes_28 rfl ?_
    refine r_iconst dX6_swappedIfItGoes_29 ?_
    refine r_iload dX6_swappedIfItGoes_30 rfl ?_
    refine r_iload dX6_swappedIfItGoes_32 rfl ?_
    refine r_cI (as := [ax_r 1, ax_i 1, ax_i y5_10, ax_i y4_4]) (how_V (ci := 1) jX1_swapOf jIX1_swapOf jVX1_swapOf rfl s0_1 (by decide) rfl rfl wX6_36 dX6_swappedIfItGoes_34) rfl (Nat.le_refl _) (Nat.le_of_ble_eq_true rfl) (fun _ => Nat.le_of_ble_eq_true rfl) H (fun w6 I5 H => ?_)
    refine r_istore dX6_swappedIfItGoes_37 (by decide) rfl ?_
    refine r_iload dX6_swappedIfItGoes_39 rfl ?_
    refine r_bipush (v := (-7)) dX6_swappedIfItGoes_41 (by decide) ?_
    have ob7 := H.1
    have H := H.2
    refine r_icmp_ne (tgt := 48) dX6_swappedIfItGoes_43 (by decide) ob7 (by decide) (fun c8 => ?_) (fun c8 => ?_)
    · have H := H.1 c8
      refine r_iload_n dX6_swappedIfItGoes_48 rfl ?_
      refine r_if_ne (tgt := 63) dX6_swappedIfItGoes_49 (by decide) r2 (fun c9 => ?_) (fun c9 => absurd c9 c4)
      refine r_iload dX6_swappedIfItGoes_63 rfl ?_
      refine r_bipush (v := 32) dX6_swappedIfItGoes_65 (by decide) ?_
      refine r_imul dX6_swappedIfItGoes_67 ?_
      refine r_iload dX6_swappedIfItGoes_68 rfl ?_
      refine r_iadd dX6_swappedIfItGoes_70 ?_
      exact r_iret dX6_swappedIfItGoes_71 rfl ⟨rfl, _, rfl, H⟩
    · have H := H.2 c8
      refine r_iload_n dX6_swappedIfItGoes_46 rfl ?_
      exact r_iret dX6_swappedIfItGoes_47 rfl ⟨rfl, _, rfl, H⟩
  · have H := H.2 c4
    refine r_aload_n dX6_swappedIfItGoes_16 rfl ?_
    refine r_iconst dX6_swappedIfItGoes_17 ?_
    refine r_iload dX6_swappedIfItGoes_18 rfl ?_
    refine r_iload dX6_swappedIfItGoes_20 rfl ?_
    refine r_cI (as := [ax_r 1, ax_i 0, ax_i y4_4, ax_i y5_10]) (how_V (ci := 1) jX1_swapOf jIX1_swapOf jVX1_swapOf rfl s0_1 (by decide) rfl rfl wX6_36 dX6_swappedIfItGoes_22) rfl (Nat.le_refl _) (Nat.le_of_ble_eq_true rfl) (fun _ => Nat.le_of_ble_eq_true rfl) H (fun w11 I10 H => ?_)
    refine r_goto (tgt := 37) dX6_swappedIfItGoes_25 (by decide) ?_
    refine r_istore dX6_swappedIfItGoes_37 (by decide) rfl ?_
    refine r_iload dX6_swappedIfItGoes_39 rfl ?_
    refine r_bipush (v := (-7)) dX6_swappedIfItGoes_41 (by decide) ?_
    have ob12 := H.1
    have H := H.2
    refine r_icmp_ne (tgt := 48) dX6_swappedIfItGoes_43 (by decide) ob12 (by decide) (fun c13 => ?_) (fun c13 => ?_)
    · have H := H.1 c13
      refine r_iload_n dX6_swappedIfItGoes_48 rfl ?_
      refine r_if_ne (tgt := 63) dX6_swappedIfItGoes_49 (by decide) r2 (fun c14 => absurd c4 c14) (fun c14 => ?_)
      refine r_iload dX6_swappedIfItGoes_52 rfl ?_
      refine r_bipush (v := 32) dX6_swappedIfItGoes_54 (by decide) ?_
      refine r_imul dX6_swappedIfItGoes_56 ?_
      refine r_iload dX6_swappedIfItGoes_57 rfl ?_
      refine r_iadd dX6_swappedIfItGoes_59 ?_
      refine r_goto (tgt := 71) dX6_swappedIfItGoes_60 (by decide) ?_
      exact r_iret dX6_swappedIfItGoes_71 rfl ⟨rfl, _, rfl, H⟩
    · have H := H.2 c13
      refine r_iload_n dX6_swappedIfItGoes_46 rfl ?_
      exact r_iret dX6_swappedIfItGoes_47 rfl ⟨rfl, _, rfl, H⟩

theorem vX6_steppedAsFarAsItGoes_0 {d : Nat} {Q : Int → ax_H → Prop} {a0 : Nat} {x2 : Int} {x3 : Int} {x4 : Int} {I : ax_H} (h0 : isPn a0) (H :
  RI (d + 4) kX6_steppedAsFarAsItGoes 7 [none, some (ax_r 1), some (ax_i x2), some (ax_i x3), none, some (ax_i x4), some (ax_i 0), none] I Q) :
  RI (d + 4) kX6_steppedAsFarAsItGoes 0 [some (ax_r a0), some (ax_r 1), some (ax_i x2), some (ax_i x3), some (ax_i x4), none, none, none] I Q := by
  show Rn _ _ _ _ _ _ _ _
  refine r_iload dX6_steppedAsFarAsItGoes_0 rfl ?_
  refine r_istore dX6_steppedAsFarAsItGoes_2 (by decide) rfl ?_
  refine r_iconst dX6_steppedAsFarAsItGoes_4 ?_
  refine r_istore dX6_steppedAsFarAsItGoes_5 (by decide) rfl ?_
  refine r_drop (ls2 := [none, some (ax_r 1), some (ax_i x2), some (ax_i x3), none, some (ax_i x4), some (ax_i 0), none]) ?_ (ax_leN (ax_leS (ax_leS (ax_leS (ax_leN (ax_leS (ax_leS (ax_leN ax_leE))))))))
  exact H

theorem vX6_steppedAsFarAsItGoes_7 {d : Nat} {Q : Int → ax_H → Prop} {x2 : Int} {x3 : Int} {x5 : Int} {x6 : Int} {I : ax_H} (r2 : ax_R x2) (r3 : ax_R x3) (r6 : ax_R x6) (H :
  (x3 ≤ x6 →
    Q x5 I) ∧
  (¬ x3 ≤ x6 →
    (x2 = 0 →
      cI (d + 3) kX1_stepFrom [ax_r 1, ax_i x5] I (fun w4 I3 =>
      ax_R w4 ∧
      ((w4 ≠ (-7) →
        RI (d + 4) kX6_steppedAsFarAsItGoes 7 [none, some (ax_r 1), some (ax_i x2), some (ax_i x3), none, some (ax_i w4), some (ax_i (x6 + 1)), none] I3 Q) ∧
      (w4 = (-7) →
        Q x5 I3)))) ∧
    (¬ x2 = 0 →
      cI (d + 3) kX1_stepBackFrom [ax_r 1, ax_i x5] I (fun w8 I7 =>
      ax_R w8 ∧
      ((w8 ≠ (-7) →
        RI (d + 4) kX6_steppedAsFarAsItGoes 7 [none, some (ax_r 1), some (ax_i x2), some (ax_i x3), none, some (ax_i w8), some (ax_i (x6 + 1)), none] I7 Q) ∧
      (w8 = (-7) →
        Q x5 I7)))))) :
  RI (d + 4) kX6_steppedAsFarAsItGoes 7 [none, some (ax_r 1), some (ax_i x2), some (ax_i x3), none, some (ax_i x5), some (ax_i x6), none] I Q := by
  show Rn _ _ _ _ _ _ _ _
  refine r_iload dX6_steppedAsFarAsItGoes_7 rfl ?_
  refine r_iload_n dX6_steppedAsFarAsItGoes_9 rfl ?_
  refine r_icmp_ge (tgt := 54) dX6_steppedAsFarAsItGoes_10 (by decide) r6 r3 (fun c1 => ?_) (fun c1 => ?_)
  · have H := H.1 c1
    refine r_iload dX6_steppedAsFarAsItGoes_54 rfl ?_
    exact r_iret dX6_steppedAsFarAsItGoes_56 rfl ⟨rfl, _, rfl, H⟩
  · have H := H.2 c1
    refine r_iload_n dX6_steppedAsFarAsItGoes_13 rfl ?_
    refine r_if_eq (tgt := 26) dX6_steppedAsFarAsItGoes_14 (by decide) r2 (fun c2 => ?_) (fun c2 => ?_)
    · have H := H.1 c2
      refine r_aload_n dX6_steppedAsFarAsItGoes_26 rfl ?_
      refine r_iload dX6_steppedAsFarAsItGoes_27 rfl ?_
      refine r_cI (as := [ax_r 1, ax_i x5]) (how_V (ci := 1) jX1_stepFrom jIX1_stepFrom jVX1_stepFrom rfl s0_1 (by decide) rfl rfl wX6_46 dX6_steppedAsFarAsItGoes_29) rfl (Nat.le_refl _) (Nat.le_of_ble_eq_true rfl) (fun _ => Nat.le_of_ble_eq_true rfl) H (fun w4 I3 H => ?_)
      refine r_istore dX6_steppedAsFarAsItGoes_32 (by decide) rfl ?_
      refine r_iload dX6_steppedAsFarAsItGoes_34 rfl ?_
      refine r_bipush (v := (-7)) dX6_steppedAsFarAsItGoes_36 (by decide) ?_
      have ob5 := H.1
      have H := H.2
      refine r_icmp_ne (tgt := 44) dX6_steppedAsFarAsItGoes_38 (by decide) ob5 (by decide) (fun c6 => ?_) (fun c6 => ?_)
      · have H := H.1 c6
        refine r_iload dX6_steppedAsFarAsItGoes_44 rfl ?_
        refine r_istore dX6_steppedAsFarAsItGoes_46 (by decide) rfl ?_
        refine r_iinc dX6_steppedAsFarAsItGoes_48 (by decide) rfl rfl ?_
        refine r_goto (tgt := 7) dX6_steppedAsFarAsItGoes_51 (by decide) ?_
        refine r_drop (ls2 := [none, some (ax_r 1), some (ax_i x2), some (ax_i x3), none, some (ax_i w4), some (ax_i (x6 + 1)), none]) ?_ (ax_leN (ax_leS (ax_leS (ax_leS (ax_leN (ax_leS (ax_leS (ax_leN ax_leE))))))))
        exact H
      · have H := H.2 c6
        refine r_iload dX6_steppedAsFarAsItGoes_41 rfl ?_
        exact r_iret dX6_steppedAsFarAsItGoes_43 rfl ⟨rfl, _, rfl, H⟩
    · have H := H.2 c2
      refine r_aload_n dX6_steppedAsFarAsItGoes_17 rfl ?_
      refine r_iload dX6_steppedAsFarAsItGoes_18 rfl ?_
      refine r_cI (as := [ax_r 1, ax_i x5]) (how_V (ci := 1) jX1_stepBackFrom jIX1_stepBackFrom jVX1_stepBackFrom rfl s0_1 (by decide) rfl rfl wX6_42 dX6_steppedAsFarAsItGoes_20) rfl (Nat.le_refl _) (Nat.le_of_ble_eq_true rfl) (fun _ => Nat.le_of_ble_eq_true rfl) H (fun w8 I7 H => ?_)
      refine r_goto (tgt := 32) dX6_steppedAsFarAsItGoes_23 (by decide) ?_
      refine r_istore dX6_steppedAsFarAsItGoes_32 (by decide) rfl ?_
      refine r_iload dX6_steppedAsFarAsItGoes_34 rfl ?_
      refine r_bipush (v := (-7)) dX6_steppedAsFarAsItGoes_36 (by decide) ?_
      have ob9 := H.1
      have H := H.2
      refine r_icmp_ne (tgt := 44) dX6_steppedAsFarAsItGoes_38 (by decide) ob9 (by decide) (fun c10 => ?_) (fun c10 => ?_)
      · have H := H.1 c10
        refine r_iload dX6_steppedAsFarAsItGoes_44 rfl ?_
        refine r_istore dX6_steppedAsFarAsItGoes_46 (by decide) rfl ?_
        refine r_iinc dX6_steppedAsFarAsItGoes_48 (by decide) rfl rfl ?_
        refine r_goto (tgt := 7) dX6_steppedAsFarAsItGoes_51 (by decide) ?_
        refine r_drop (ls2 := [none, some (ax_r 1), some (ax_i x2), some (ax_i x3), none, some (ax_i w8), some (ax_i (x6 + 1)), none]) ?_ (ax_leN (ax_leS (ax_leS (ax_leS (ax_leN (ax_leS (ax_leS (ax_leN ax_leE))))))))
        exact H
      · have H := H.2 c10
        refine r_iload dX6_steppedAsFarAsItGoes_41 rfl ?_
        exact r_iret dX6_steppedAsFarAsItGoes_43 rfl ⟨rfl, _, rfl, H⟩

theorem vX8_isFull_0 {d : Nat} {Q : Int → ax_H → Prop} {a0 : Nat} {I : ax_H} (h0 : isSp a0) (H :
  ((I a0 1) < 12 →
    Q 0 I) ∧
  (¬ (I a0 1) < 12 →
    Q 1 I)) :
  RI d kX8_isFull 0 [some (ax_r a0)] I Q := by
  show Rn _ _ _ _ _ _ _ _
  refine r_aload_n dX8_isFull_0 rfl ?_
  refine r_getI clX8 1 1 (by decide) h0.1 rfl rfl wX8_15 dX8_isFull_1 ?_
  refine r_aload_n dX8_isFull_4 rfl ?_
  refine r_getR clX8 0 (by decide) h0.1 rfl rfl wX8_9 dX8_isFull_5 ?_
  refine r_alen h0.2 dX8_isFull_8 12 rfl ?_
  refine r_heapR (fun hI1 => ?_)
  refine r_icmp_lt (tgt := 16) dX8_isFull_9 (by decide) (hI1 _ _) (by decide) (fun c2 => ?_) (fun c2 => ?_)
  · have H := H.1 c2
    refine r_iconst dX8_isFull_16 ?_
    exact r_zret dX8_isFull_17 rfl (by decide) ⟨rfl, _, rfl, H⟩
  · have H := H.2 c2
    refine r_iconst dX8_isFull_12 ?_
    refine r_goto (tgt := 17) dX8_isFull_13 (by decide) ?_
    exact r_zret dX8_isFull_17 rfl (by decide) ⟨rfl, _, rfl, H⟩

theorem vX8_holds_0 {d : Nat} {Q : Int → ax_H → Prop} {a0 : Nat} {x1 : Int} {I : ax_H} (h0 : isSp a0) (H :
  RI d kX8_holds 2 [some (ax_r a0), some (ax_i x1), some (ax_i 0)] I Q) :
  RI d kX8_holds 0 [some (ax_r a0), some (ax_i x1), none] I Q := by
  show Rn _ _ _ _ _ _ _ _
  refine r_iconst dX8_holds_0 ?_
  refine r_istore_n dX8_holds_1 (by decide) rfl ?_
  exact H

theorem vX8_holds_2 {d : Nat} {Q : Int → ax_H → Prop} {a0 : Nat} {x1 : Int} {x2 : Int} {I : ax_H} (h0 : isSp a0) (r1 : ax_R x1) (r2 : ax_R x2) (H :
  ((I a0 1) ≤ x2 →
    Q 0 I) ∧
  (¬ (I a0 1) ≤ x2 →
    (12 ≤ x2 →
      Q 0 I) ∧
    (¬ 12 ≤ x2 →
      (0 ≤ x2 ∧ x2 < 12) ∧
      (((I (a0 + 1) x2) ≠ x1 →
        RI d kX8_holds 2 [some (ax_r a0), some (ax_i x1), some (ax_i (x2 + 1))] I Q) ∧
      ((I (a0 + 1) x2) = x1 →
        Q 1 I))))) :
  RI d kX8_holds 2 [some (ax_r a0), some (ax_i x1), some (ax_i x2)] I Q := by
  show Rn _ _ _ _ _ _ _ _
  refine r_iload_n dX8_holds_2 rfl ?_
  refine r_aload_n dX8_holds_3 rfl ?_
  refine r_getI clX8 1 1 (by decide) h0.1 rfl rfl wX8_15 dX8_holds_4 ?_
  refine r_heapR (fun hI1 => ?_)
  refine r_icmp_ge (tgt := 37) dX8_holds_7 (by decide) r2 (hI1 _ _) (fun c2 => ?_) (fun c2 => ?_)
  · have H := H.1 c2
    refine r_iconst dX8_holds_37 ?_
    exact r_zret dX8_holds_38 rfl (by decide) ⟨rfl, _, rfl, H⟩
  · have H := H.2 c2
    refine r_iload_n dX8_holds_10 rfl ?_
    refine r_aload_n dX8_holds_11 rfl ?_
    refine r_getR clX8 0 (by decide) h0.1 rfl rfl wX8_9 dX8_holds_12 ?_
    refine r_alen h0.2 dX8_holds_15 12 rfl ?_
    refine r_icmp_ge (tgt := 37) dX8_holds_16 (by decide) r2 (by decide) (fun c3 => ?_) (fun c3 => ?_)
    · have H := H.1 c3
      refine r_iconst dX8_holds_37 ?_
      exact r_zret dX8_holds_38 rfl (by decide) ⟨rfl, _, rfl, H⟩
    · have H := H.2 c3
      refine r_aload_n dX8_holds_19 rfl ?_
      refine r_getR clX8 0 (by decide) h0.1 rfl rfl wX8_9 dX8_holds_20 ?_
      refine r_iload_n dX8_holds_23 rfl ?_
      have ob4 := H.1
      have H := H.2
      refine r_iald h0.2 (by decide) dX8_holds_24 ob4 ?_
      refine r_iload_n dX8_holds_25 rfl ?_
      refine r_icmp_ne (tgt := 31) dX8_holds_26 (by decide) (hI1 _ _) r1 (fun c5 => ?_) (fun c5 => ?_)
      · have H := H.1 c5
        refine r_iinc dX8_holds_31 (by decide) rfl rfl ?_
        refine r_goto (tgt := 2) dX8_holds_34 (by decide) ?_
        exact H
      · have H := H.2 c5
        refine r_iconst dX8_holds_29 ?_
        exact r_zret dX8_holds_30 rfl (by decide) ⟨rfl, _, rfl, H⟩

theorem vX8_spotAt_0 {d : Nat} {Q : Int → ax_H → Prop} {a0 : Nat} {x1 : Int} {I : ax_H} (h0 : isSp a0) (r1 : ax_R x1) (H :
  (x1 < 0 →
    Q (-5) I) ∧
  (¬ x1 < 0 →
    ((I a0 1) ≤ x1 →
      Q (-5) I) ∧
    (¬ (I a0 1) ≤ x1 →
      (12 ≤ x1 →
        Q (-5) I) ∧
      (¬ 12 ≤ x1 →
        (0 ≤ x1 ∧ x1 < 12) ∧
        (Q (I (a0 + 1) x1) I))))) :
  RI d kX8_spotAt 0 [some (ax_r a0), some (ax_i x1)] I Q := by
  show Rn _ _ _ _ _ _ _ _
  refine r_iload_n dX8_spotAt_0 rfl ?_
  refine r_if_lt (tgt := 30) dX8_spotAt_1 (by decide) r1 (fun c1 => ?_) (fun c1 => ?_)
  · have H := H.1 c1
    refine r_bipush (v := (-5)) dX8_spotAt_30 (by decide) ?_
    exact r_iret dX8_spotAt_32 rfl ⟨rfl, _, rfl, H⟩
  · have H := H.2 c1
    refine r_iload_n dX8_spotAt_4 rfl ?_
    refine r_aload_n dX8_spotAt_5 rfl ?_
    refine r_getI clX8 1 1 (by decide) h0.1 rfl rfl wX8_15 dX8_spotAt_6 ?_
    refine r_heapR (fun hI2 => ?_)
    refine r_icmp_ge (tgt := 30) dX8_spotAt_9 (by decide) r1 (hI2 _ _) (fun c3 => ?_) (fun c3 => ?_)
    · have H := H.1 c3
      refine r_bipush (v := (-5)) dX8_spotAt_30 (by decide) ?_
      exact r_iret dX8_spotAt_32 rfl ⟨rfl, _, rfl, H⟩
    · have H := H.2 c3
      refine r_iload_n dX8_spotAt_12 rfl ?_
      refine r_aload_n dX8_spotAt_13 rfl ?_
      refine r_getR clX8 0 (by decide) h0.1 rfl rfl wX8_9 dX8_spotAt_14 ?_
      refine r_alen h0.2 dX8_spotAt_17 12 rfl ?_
      refine r_icmp_ge (tgt := 30) dX8_spotAt_18 (by decide) r1 (by decide) (fun c4 => ?_) (fun c4 => ?_)
      · have H := H.1 c4
        refine r_bipush (v := (-5)) dX8_spotAt_30 (by decide) ?_
        exact r_iret dX8_spotAt_32 rfl ⟨rfl, _, rfl, H⟩
      · have H := H.2 c4
        refine r_aload_n dX8_spotAt_21 rfl ?_
        refine r_getR clX8 0 (by decide) h0.1 rfl rfl wX8_9 dX8_spotAt_22 ?_
        refine r_iload_n dX8_spotAt_25 rfl ?_
        have ob5 := H.1
        have H := H.2
        refine r_iald h0.2 (by decide) dX8_spotAt_26 ob5 ?_
        refine r_goto (tgt := 32) dX8_spotAt_27 (by decide) ?_
        exact r_iret dX8_spotAt_32 rfl ⟨rfl, _, rfl, H⟩

theorem vX8_add_0 {d : Nat} {Q : ax_H → Prop} {a0 : Nat} {x1 : Int} {I : ax_H} (h0 : isSp a0) (H :
  cI d kX8_isFull [ax_r a0] I (fun w2 I1 =>
  ax_R w2 ∧
  ((w2 ≠ 0 →
    Q I1) ∧
  (w2 = 0 →
    cI d kX8_holds [ax_r a0, ax_i x1] I1 (fun w6 I5 =>
    ax_R w6 ∧
    ((w6 = 0 →
      RV (d + 1) kX8_add 21 [some (ax_r a0), some (ax_i x1), some (ax_i (I5 a0 1))] I5 Q) ∧
    (¬ w6 = 0 →
      Q I5))))))) :
  RV (d + 1) kX8_add 0 [some (ax_r a0), some (ax_i x1), none] I Q := by
  show Rn _ _ _ _ _ _ _ _
  refine r_aload_n dX8_add_0 rfl ?_
  refine r_cI (as := [ax_r a0]) (how_V (ci := 8) jX8_isFull jIX8_isFull jVX8_isFull rfl h0.1 (by decide) rfl rfl wX8_19 dX8_add_1) rfl (Nat.le_refl _) (Nat.le_of_ble_eq_true rfl) (fun _ => Nat.le_of_ble_eq_true rfl) H (fun w2 I1 H => ?_)
  have ob3 := H.1
  have H := H.2
  refine r_if_ne (tgt := 15) dX8_add_4 (by decide) ob3 (fun c4 => ?_) (fun c4 => ?_)
  · have H := H.1 c4
    exact r_vret dX8_add_15 rfl ⟨rfl, rfl, H⟩
  · have H := H.2 c4
    refine r_aload_n dX8_add_7 rfl ?_
    refine r_iload_n dX8_add_8 rfl ?_
    refine r_cI (as := [ax_r a0, ax_i x1]) (how_V (ci := 8) jX8_holds jIX8_holds jVX8_holds rfl h0.1 (by decide) rfl rfl wX8_23 dX8_add_9) rfl (Nat.le_refl _) (Nat.le_of_ble_eq_true rfl) (fun _ => Nat.le_of_ble_eq_true rfl) H (fun w6 I5 H => ?_)
    have ob7 := H.1
    have H := H.2
    refine r_if_eq (tgt := 16) dX8_add_12 (by decide) ob7 (fun c8 => ?_) (fun c8 => ?_)
    · have H := H.1 c8
      refine r_aload_n dX8_add_16 rfl ?_
      refine r_getI clX8 1 1 (by decide) h0.1 rfl rfl wX8_15 dX8_add_17 ?_
      refine r_istore_n dX8_add_20 (by decide) rfl ?_
      exact H
    · have H := H.2 c8
      exact r_vret dX8_add_15 rfl ⟨rfl, rfl, H⟩

theorem vX8_add_21 {d : Nat} {Q : ax_H → Prop} {a0 : Nat} {x1 : Int} {x2 : Int} {I : ax_H} (h0 : isSp a0) (r1 : ax_R x1) (r2 : ax_R x2) (H :
  (x2 ≤ 0 →
    (x2 < 0 →
      Q I) ∧
    (¬ x2 < 0 →
      (12 ≤ x2 →
        Q I) ∧
      (¬ 12 ≤ x2 →
        (0 ≤ x2 ∧ x2 < 12) ∧
        (ax_R (((ax_st I (a0 + 1) x2 x1) a0 1) + 1) ∧
        (Q (ax_st (ax_st I (a0 + 1) x2 x1) a0 1 (((ax_st I (a0 + 1) x2 x1) a0 1) + 1))))))) ∧
  (¬ x2 ≤ 0 →
    (12 ≤ x2 →
      (x2 < 0 →
        Q I) ∧
      (¬ x2 < 0 →
        (12 ≤ x2 →
          Q I) ∧
        (¬ 12 ≤ x2 →
          (0 ≤ x2 ∧ x2 < 12) ∧
          (ax_R (((ax_st I (a0 + 1) x2 x1) a0 1) + 1) ∧
          (Q (ax_st (ax_st I (a0 + 1) x2 x1) a0 1 (((ax_st I (a0 + 1) x2 x1) a0 1) + 1))))))) ∧
    (¬ 12 ≤ x2 →
      (0 ≤ (x2 - 1) ∧ (x2 - 1) < 12) ∧
      (((I (a0 + 1) (x2 - 1)) ≤ x1 →
        (x2 < 0 →
          Q I) ∧
        (¬ x2 < 0 →
          (12 ≤ x2 →
            Q I) ∧
          (¬ 12 ≤ x2 →
            (0 ≤ x2 ∧ x2 < 12) ∧
            (ax_R (((ax_st I (a0 + 1) x2 x1) a0 1) + 1) ∧
            (Q (ax_st (ax_st I (a0 + 1) x2 x1) a0 1 (((ax_st I (a0 + 1) x2 x1) a0 1) + 1))))))) ∧
      (¬ (I (a0 + 1) (x2 - 1)) ≤ x1 →
        (0 ≤ x2 ∧ x2 < 12) ∧
        (RV (d + 1) kX8_add 21 [some (ax_r a0), some (ax_i x1), some (ax_i (x2 + (-1)))] (ax_st I (a0 + 1) x2 (I (a0 + 1) (x2 - 1))) Q)))))) :
  RV (d + 1) kX8_add 21 [some (ax_r a0), some (ax_i x1), some (ax_i x2)] I Q := by
  show Rn _ _ _ _ _ _ _ _
  refine r_iload_n dX8_add_21 rfl ?_
  refine r_if_le (tgt := 66) dX8_add_22 (by decide) r2 (fun c1 => ?_) (fun c1 => ?_)
  · have H := H.1 c1
    refine r_iload_n dX8_add_66 rfl ?_
    refine r_if_lt (tgt := 96) dX8_add_67 (by decide) r2 (fun c2 => ?_) (fun c2 => ?_)
    · have H := H.1 c2
      exact r_vret dX8_add_96 rfl ⟨rfl, rfl, H⟩
    · have H := H.2 c2
      refine r_iload_n dX8_add_70 rfl ?_
      refine r_aload_n dX8_add_71 rfl ?_
      refine r_getR clX8 0 (by decide) h0.1 rfl rfl wX8_9 dX8_add_72 ?_
      refine r_alen h0.2 dX8_add_75 12 rfl ?_
      refine r_icmp_ge (tgt := 96) dX8_add_76 (by decide) r2 (by decide) (fun c3 => ?_) (fun c3 => ?_)
      · have H := H.1 c3
        exact r_vret dX8_add_96 rfl ⟨rfl, rfl, H⟩
      · have H := H.2 c3
        refine r_aload_n dX8_add_79 rfl ?_
        refine r_getR clX8 0 (by decide) h0.1 rfl rfl wX8_9 dX8_add_80 ?_
        refine r_iload_n dX8_add_83 rfl ?_
        refine r_iload_n dX8_add_84 rfl ?_
        have ob4 := H.1
        have H := H.2
        refine r_iast h0.2 (by decide) dX8_add_85 ob4 r1 ?_
        refine r_aload_n dX8_add_86 rfl ?_
        refine r_dup dX8_add_87 (fun _ => rfl) ?_
        refine r_getI clX8 1 1 (by decide) h0.1 rfl rfl wX8_15 dX8_add_88 ?_
        refine r_iconst dX8_add_91 ?_
        refine r_iadd dX8_add_92 ?_
        have ob5 := H.1
        have H := H.2
        refine r_putI clX8 1 1 (by decide) h0.1 rfl rfl rfl ob5 rfl rfl wX8_15 dX8_add_93 ?_
        exact r_vret dX8_add_96 rfl ⟨rfl, rfl, H⟩
  · have H := H.2 c1
    refine r_iload_n dX8_add_25 rfl ?_
    refine r_aload_n dX8_add_26 rfl ?_
    refine r_getR clX8 0 (by decide) h0.1 rfl rfl wX8_9 dX8_add_27 ?_
    refine r_alen h0.2 dX8_add_30 12 rfl ?_
    refine r_icmp_ge (tgt := 66) dX8_add_31 (by decide) r2 (by decide) (fun c6 => ?_) (fun c6 => ?_)
    · have H := H.1 c6
      refine r_iload_n dX8_add_66 rfl ?_
      refine r_if_lt (tgt := 96) dX8_add_67 (by decide) r2 (fun c7 => ?_) (fun c7 => ?_)
      · have H := H.1 c7
        exact r_vret dX8_add_96 rfl ⟨rfl, rfl, H⟩
      · have H := H.2 c7
        refine r_iload_n dX8_add_70 rfl ?_
        refine r_aload_n dX8_add_71 rfl ?_
        refine r_getR clX8 0 (by decide) h0.1 rfl rfl wX8_9 dX8_add_72 ?_
        refine r_alen h0.2 dX8_add_75 12 rfl ?_
        refine r_icmp_ge (tgt := 96) dX8_add_76 (by decide) r2 (by decide) (fun c8 => ?_) (fun c8 => ?_)
        · have H := H.1 c8
          exact r_vret dX8_add_96 rfl ⟨rfl, rfl, H⟩
        · have H := H.2 c8
          refine r_aload_n dX8_add_79 rfl ?_
          refine r_getR clX8 0 (by decide) h0.1 rfl rfl wX8_9 dX8_add_80 ?_
          refine r_iload_n dX8_add_83 rfl ?_
          refine r_iload_n dX8_add_84 rfl ?_
          have ob9 := H.1
          have H := H.2
          refine r_iast h0.2 (by decide) dX8_add_85 ob9 r1 ?_
          refine r_aload_n dX8_add_86 rfl ?_
          refine r_dup dX8_add_87 (fun _ => rfl) ?_
          refine r_getI clX8 1 1 (by decide) h0.1 rfl rfl wX8_15 dX8_add_88 ?_
          refine r_iconst dX8_add_91 ?_
          refine r_iadd dX8_add_92 ?_
          have ob10 := H.1
          have H := H.2
          refine r_putI clX8 1 1 (by decide) h0.1 rfl rfl rfl ob10 rfl rfl wX8_15 dX8_add_93 ?_
          exact r_vret dX8_add_96 rfl ⟨rfl, rfl, H⟩
    · have H := H.2 c6
      refine r_aload_n dX8_add_34 rfl ?_
      refine r_getR clX8 0 (by decide) h0.1 rfl rfl wX8_9 dX8_add_35 ?_
      refine r_iload_n dX8_add_38 rfl ?_
      refine r_iconst dX8_add_39 ?_
      refine r_isub dX8_add_40 ?_
      have ob11 := H.1
      have H := H.2
      refine r_iald h0.2 (by decide) dX8_add_41 ob11 ?_
      refine r_iload_n dX8_add_42 rfl ?_
      refine r_heapR (fun hI12 => ?_)
      refine r_icmp_le (tgt := 66) dX8_add_43 (by decide) (hI12 _ _) r1 (fun c13 => ?_) (fun c13 => ?_)
      · have H := H.1 c13
        refine r_iload_n dX8_add_66 rfl ?_
        refine r_if_lt (tgt := 96) dX8_add_67 (by decide) r2 (fun c14 => ?_) (fun c14 => ?_)
        · have H := H.1 c14
          exact r_vret dX8_add_96 rfl ⟨rfl, rfl, H⟩
        · have H := H.2 c14
          refine r_iload_n dX8_add_70 rfl ?_
          refine r_aload_n dX8_add_71 rfl ?_
          refine r_getR clX8 0 (by decide) h0.1 rfl rfl wX8_9 dX8_add_72 ?_
          refine r_alen h0.2 dX8_add_75 12 rfl ?_
          refine r_icmp_ge (tgt := 96) dX8_add_76 (by decide) r2 (by decide) (fun c15 => ?_) (fun c15 => ?_)
          · have H := H.1 c15
            exact r_vret dX8_add_96 rfl ⟨rfl, rfl, H⟩
          · have H := H.2 c15
            refine r_aload_n dX8_add_79 rfl ?_
            refine r_getR clX8 0 (by decide) h0.1 rfl rfl wX8_9 dX8_add_80 ?_
            refine r_iload_n dX8_add_83 rfl ?_
            refine r_iload_n dX8_add_84 rfl ?_
            have ob16 := H.1
            have H := H.2
            refine r_iast h0.2 (by decide) dX8_add_85 ob16 r1 ?_
            refine r_aload_n dX8_add_86 rfl ?_
            refine r_dup dX8_add_87 (fun _ => rfl) ?_
            refine r_getI clX8 1 1 (by decide) h0.1 rfl rfl wX8_15 dX8_add_88 ?_
            refine r_iconst dX8_add_91 ?_
            refine r_iadd dX8_add_92 ?_
            have ob17 := H.1
            have H := H.2
            refine r_putI clX8 1 1 (by decide) h0.1 rfl rfl rfl ob17 rfl rfl wX8_15 dX8_add_93 ?_
            exact r_vret dX8_add_96 rfl ⟨rfl, rfl, H⟩
      · have H := H.2 c13
        refine r_aload_n dX8_add_46 rfl ?_
        refine r_getR clX8 0 (by decide) h0.1 rfl rfl wX8_9 dX8_add_47 ?_
        refine r_iload_n dX8_add_50 rfl ?_
        refine r_aload_n dX8_add_51 rfl ?_
        refine r_getR clX8 0 (by decide) h0.1 rfl rfl wX8_9 dX8_add_52 ?_
        refine r_iload_n dX8_add_55 rfl ?_
        refine r_iconst dX8_add_56 ?_
        refine r_isub dX8_add_57 ?_
        refine r_iald h0.2 (by decide) dX8_add_58 ob11 ?_
        have ob18 := H.1
        have H := H.2
        refine r_iast h0.2 (by decide) dX8_add_59 ob18 (hI12 _ _) ?_
        refine r_iinc dX8_add_60 (by decide) rfl rfl ?_
        refine r_goto (tgt := 21) dX8_add_63 (by decide) ?_
        exact H

theorem vX8_remove_0 {d : Nat} {Q : ax_H → Prop} {a0 : Nat} {x1 : Int} {I : ax_H} (h0 : isSp a0) (H :
  RV d kX8_remove 4 [some (ax_r a0), some (ax_i x1), some (ax_i 0), some (ax_i 0)] I Q) :
  RV d kX8_remove 0 [some (ax_r a0), some (ax_i x1), none, none] I Q := by
  show Rn _ _ _ _ _ _ _ _
  refine r_iconst dX8_remove_0 ?_
  refine r_istore_n dX8_remove_1 (by decide) rfl ?_
  refine r_iconst dX8_remove_2 ?_
  refine r_istore_n dX8_remove_3 (by decide) rfl ?_
  exact H

theorem vX8_remove_4 {d : Nat} {Q : ax_H → Prop} {a0 : Nat} {x1 : Int} {x2 : Int} {x3 : Int} {I : ax_H} (h0 : isSp a0) (r1 : ax_R x1) (r2 : ax_R x2) (r3 : ax_R x3) (H :
  ((I a0 1) ≤ x3 →
    Q (ax_st I a0 1 x2)) ∧
  (¬ (I a0 1) ≤ x3 →
    (12 ≤ x3 →
      Q (ax_st I a0 1 x2)) ∧
    (¬ 12 ≤ x3 →
      (0 ≤ x3 ∧ x3 < 12) ∧
      (((I (a0 + 1) x3) = x1 →
        RV d kX8_remove 4 [some (ax_r a0), some (ax_i x1), some (ax_i x2), some (ax_i (x3 + 1))] I Q) ∧
      (¬ (I (a0 + 1) x3) = x1 →
        (x3 < x2 →
          RV d kX8_remove 4 [some (ax_r a0), some (ax_i x1), some (ax_i x2), some (ax_i (x3 + 1))] I Q) ∧
        (¬ x3 < x2 →
          (0 ≤ x2 ∧ x2 < 12) ∧
          (RV d kX8_remove 4 [some (ax_r a0), some (ax_i x1), some (ax_i (x2 + 1)), some (ax_i (x3 + 1))] (ax_st I (a0 + 1) x2 (I (a0 + 1) x3)) Q))))))) :
  RV d kX8_remove 4 [some (ax_r a0), some (ax_i x1), some (ax_i x2), some (ax_i x3)] I Q := by
  show Rn _ _ _ _ _ _ _ _
  refine r_iload_n dX8_remove_4 rfl ?_
  refine r_aload_n dX8_remove_5 rfl ?_
  refine r_getI clX8 1 1 (by decide) h0.1 rfl rfl wX8_15 dX8_remove_6 ?_
  refine r_heapR (fun hI1 => ?_)
  refine r_icmp_ge (tgt := 57) dX8_remove_9 (by decide) r3 (hI1 _ _) (fun c2 => ?_) (fun c2 => ?_)
  · have H := H.1 c2
    refine r_aload_n dX8_remove_57 rfl ?_
    refine r_iload_n dX8_remove_58 rfl ?_
    refine r_putI clX8 1 1 (by decide) h0.1 rfl rfl rfl r2 rfl rfl wX8_15 dX8_remove_59 ?_
    exact r_vret dX8_remove_62 rfl ⟨rfl, rfl, H⟩
  · have H := H.2 c2
    refine r_iload_n dX8_remove_12 rfl ?_
    refine r_aload_n dX8_remove_13 rfl ?_
    refine r_getR clX8 0 (by decide) h0.1 rfl rfl wX8_9 dX8_remove_14 ?_
    refine r_alen h0.2 dX8_remove_17 12 rfl ?_
    refine r_icmp_ge (tgt := 57) dX8_remove_18 (by decide) r3 (by decide) (fun c3 => ?_) (fun c3 => ?_)
    · have H := H.1 c3
      refine r_aload_n dX8_remove_57 rfl ?_
      refine r_iload_n dX8_remove_58 rfl ?_
      refine r_putI clX8 1 1 (by decide) h0.1 rfl rfl rfl r2 rfl rfl wX8_15 dX8_remove_59 ?_
      exact r_vret dX8_remove_62 rfl ⟨rfl, rfl, H⟩
    · have H := H.2 c3
      refine r_aload_n dX8_remove_21 rfl ?_
      refine r_getR clX8 0 (by decide) h0.1 rfl rfl wX8_9 dX8_remove_22 ?_
      refine r_iload_n dX8_remove_25 rfl ?_
      have ob4 := H.1
      have H := H.2
      refine r_iald h0.2 (by decide) dX8_remove_26 ob4 ?_
      refine r_iload_n dX8_remove_27 rfl ?_
      refine r_icmp_eq (tgt := 51) dX8_remove_28 (by decide) (hI1 _ _) r1 (fun c5 => ?_) (fun c5 => ?_)
      · have H := H.1 c5
        refine r_iinc dX8_remove_51 (by decide) rfl rfl ?_
        refine r_goto (tgt := 4) dX8_remove_54 (by decide) ?_
        exact H
      · have H := H.2 c5
        refine r_iload_n dX8_remove_31 rfl ?_
        refine r_iload_n dX8_remove_32 rfl ?_
        refine r_icmp_gt (tgt := 51) dX8_remove_33 (by decide) r2 r3 (fun c6 => ?_) (fun c6 => ?_)
        · have H := H.1 c6
          refine r_iinc dX8_remove_51 (by decide) rfl rfl ?_
          refine r_goto (tgt := 4) dX8_remove_54 (by decide) ?_
          exact H
        · have H := H.2 c6
          refine r_aload_n dX8_remove_36 rfl ?_
          refine r_getR clX8 0 (by decide) h0.1 rfl rfl wX8_9 dX8_remove_37 ?_
          refine r_iload_n dX8_remove_40 rfl ?_
          refine r_aload_n dX8_remove_41 rfl ?_
          refine r_getR clX8 0 (by decide) h0.1 rfl rfl wX8_9 dX8_remove_42 ?_
          refine r_iload_n dX8_remove_45 rfl ?_
          refine r_iald h0.2 (by decide) dX8_remove_46 ob4 ?_
          have ob7 := H.1
          have H := H.2
          refine r_iast h0.2 (by decide) dX8_remove_47 ob7 (hI1 _ _) ?_
          refine r_iinc dX8_remove_48 (by decide) rfl rfl ?_
          refine r_iinc dX8_remove_51 (by decide) rfl rfl ?_
          refine r_goto (tgt := 4) dX8_remove_54 (by decide) ?_
          exact H

theorem vX8_copyFrom_0 {d : Nat} {Q : ax_H → Prop} {a0 : Nat} {a1 : Nat} {I : ax_H} (h0 : isSp a0) (h1 : isSp a1) (H :
  Q (ax_st (ax_cp I (a1 + 1) 0 (a0 + 1) 0 12) a0 1 ((ax_cp I (a1 + 1) 0 (a0 + 1) 0 12) a1 1))) :
  RV (d + 1) kX8_copyFrom 0 [some (ax_r a0), some (ax_r a1)] I Q := by
  show Rn _ _ _ _ _ _ _ _
  refine r_aload_n dX8_copyFrom_0 rfl ?_
  refine r_getR clX8 0 (by decide) h1.1 rfl rfl wX8_9 dX8_copyFrom_1 ?_
  refine r_iconst dX8_copyFrom_4 ?_
  refine r_aload_n dX8_copyFrom_5 rfl ?_
  refine r_getR clX8 0 (by decide) h0.1 rfl rfl wX8_9 dX8_copyFrom_6 ?_
  refine r_iconst dX8_copyFrom_9 ?_
  refine r_aload_n dX8_copyFrom_10 rfl ?_
  refine r_getR clX8 0 (by decide) h0.1 rfl rfl wX8_9 dX8_copyFrom_11 ?_
  refine r_alen h0.2 dX8_copyFrom_14 12 rfl ?_
  refine r_copy (by simp) h1.2 h0.2 (by decide) (by decide) (by decide) (by decide) (by decide) (by decide) (by decide) (fun _ => Nat.le_of_ble_eq_true rfl) wX8_27 wNat wSta wIni dX8_copyFrom_15 ?_
  refine r_aload_n dX8_copyFrom_18 rfl ?_
  refine r_aload_n dX8_copyFrom_19 rfl ?_
  refine r_getI clX8 1 1 (by decide) h1.1 rfl rfl wX8_15 dX8_copyFrom_20 ?_
  refine r_heapR (fun hI1 => ?_)
  refine r_putI clX8 1 1 (by decide) h0.1 rfl rfl rfl (hI1 _ _) rfl rfl wX8_15 dX8_copyFrom_23 ?_
  exact r_vret dX8_copyFrom_26 rfl ⟨rfl, rfl, H⟩

theorem vX8_becomeSteps_0 {d : Nat} {Q : ax_H → Prop} {a0 : Nat} {a1 : Nat} {I : ax_H} (h0 : isSp a0) (h1 : isSp a1) (H :
  RV (d + 4) kX8_becomeSteps 7 [some (ax_r a0), some (ax_r a1), some (ax_r 1), some (ax_i 0), none] (ax_st I a0 1 0) Q) :
  RV (d + 4) kX8_becomeSteps 0 [some (ax_r a0), some (ax_r a1), some (ax_r 1), none, none] I Q := by
  show Rn _ _ _ _ _ _ _ _
  refine r_aload_n dX8_becomeSteps_0 rfl ?_
  refine r_iconst dX8_becomeSteps_1 ?_
  refine r_putI clX8 1 1 (by decide) h0.1 rfl rfl rfl (by decide) rfl rfl wX8_15 dX8_becomeSteps_2 ?_
  refine r_iconst dX8_becomeSteps_5 ?_
  refine r_istore_n dX8_becomeSteps_6 (by decide) rfl ?_
  exact H

theorem vX8_becomeSteps_7 {d : Nat} {Q : ax_H → Prop} {a0 : Nat} {a1 : Nat} {x3 : Int} {I : ax_H} (h0 : isSp a0) (h1 : isSp a1) (r3 : ax_R x3) (H :
  ((I a1 1) ≤ x3 →
    Q I) ∧
  (¬ (I a1 1) ≤ x3 →
    cI (d + 3) kX8_spotAt [ax_r a1, ax_i x3] I (fun w4 I3 =>
    cI (d + 3) kX1_stepFrom [ax_r 1, ax_i w4] I3 (fun w6 I5 =>
    ax_R w6 ∧
    ((w6 = (-7) →
      RV (d + 4) kX8_becomeSteps 7 [some (ax_r a0), some (ax_r a1), some (ax_r 1), some (ax_i (x3 + 1)), none] I5 Q) ∧
    (¬ w6 = (-7) →
      cV (d + 3) kX8_add [ax_r a0, ax_i w6] I5 (fun I9 =>
      RV (d + 4) kX8_becomeSteps 7 [some (ax_r a0), some (ax_r a1), some (ax_r 1), some (ax_i (x3 + 1)), none] I9 Q))))))) :
  RV (d + 4) kX8_becomeSteps 7 [some (ax_r a0), some (ax_r a1), some (ax_r 1), some (ax_i x3), none] I Q := by
  show Rn _ _ _ _ _ _ _ _
  refine r_iload_n dX8_becomeSteps_7 rfl ?_
  refine r_aload_n dX8_becomeSteps_8 rfl ?_
  refine r_getI clX8 1 1 (by decide) h1.1 rfl rfl wX8_15 dX8_becomeSteps_9 ?_
  refine r_heapR (fun hI1 => ?_)
  refine r_icmp_ge (tgt := 45) dX8_becomeSteps_12 (by decide) r3 (hI1 _ _) (fun c2 => ?_) (fun c2 => ?_)
  · have H := H.1 c2
    exact r_vret dX8_becomeSteps_45 rfl ⟨rfl, rfl, H⟩
  · have H := H.2 c2
    refine r_aload_n dX8_becomeSteps_15 rfl ?_
    refine r_aload_n dX8_becomeSteps_16 rfl ?_
    refine r_iload_n dX8_becomeSteps_17 rfl ?_
    refine r_cI (as := [ax_r a1, ax_i x3]) (how_V (ci := 8) jX8_spotAt jIX8_spotAt jVX8_spotAt rfl h1.1 (by decide) rfl rfl wX8_33 dX8_becomeSteps_18) rfl (Nat.le_refl _) (Nat.le_of_ble_eq_true rfl) (fun _ => Nat.le_of_ble_eq_true rfl) H (fun w4 I3 H => ?_)
    refine r_cI (as := [ax_r 1, ax_i w4]) (how_V (ci := 1) jX1_stepFrom jIX1_stepFrom jVX1_stepFrom rfl s0_1 (by decide) rfl rfl wX8_37 dX8_becomeSteps_21) rfl (Nat.le_refl _) (Nat.le_of_ble_eq_true rfl) (fun _ => Nat.le_of_ble_eq_true rfl) H (fun w6 I5 H => ?_)
    refine r_istore dX8_becomeSteps_24 (by decide) rfl ?_
    refine r_iload dX8_becomeSteps_26 rfl ?_
    refine r_bipush (v := (-7)) dX8_becomeSteps_28 (by decide) ?_
    have ob7 := H.1
    have H := H.2
    refine r_icmp_eq (tgt := 39) dX8_becomeSteps_30 (by decide) ob7 (by decide) (fun c8 => ?_) (fun c8 => ?_)
    · have H := H.1 c8
      refine r_iinc dX8_becomeSteps_39 (by decide) rfl rfl ?_
      refine r_goto (tgt := 7) dX8_becomeSteps_42 (by decide) ?_
      refine r_drop (ls2 := [some (ax_r a0), some (ax_r a1), some (ax_r 1), some (ax_i (x3 + 1)), none]) ?_ (ax_leS (ax_leS (ax_leS (ax_leS (ax_leN ax_leE)))))
      exact H
    · have H := H.2 c8
      refine r_aload_n dX8_becomeSteps_33 rfl ?_
      refine r_iload dX8_becomeSteps_34 rfl ?_
      refine r_cV (as := [ax_r a0, ax_i w6]) (how_V (ci := 8) jX8_add jIX8_add jVX8_add rfl h0.1 (by decide) rfl rfl wX8_42 dX8_becomeSteps_36) rfl (Nat.le_refl _) (Nat.le_of_ble_eq_true rfl) (fun _ => Nat.le_of_ble_eq_true rfl) H (fun I9 H => ?_)
      refine r_iinc dX8_becomeSteps_39 (by decide) rfl rfl ?_
      refine r_goto (tgt := 7) dX8_becomeSteps_42 (by decide) ?_
      refine r_drop (ls2 := [some (ax_r a0), some (ax_r a1), some (ax_r 1), some (ax_i (x3 + 1)), none]) ?_ (ax_leS (ax_leS (ax_leS (ax_leS (ax_leN ax_leE)))))
      exact H

theorem vX9_numberAt_0 {d : Nat} {Q : Int → ax_H → Prop} {a0 : Nat} {x1 : Int} {x2 : Int} {x3 : Int} {I : ax_H} (h0 : isT a0) (H :
  ∀ y4_10, y4_10 = (((9 * x1) + (3 * x2)) + x3) →
  (ax_R y4_10 ∧
  ((y4_10 < 0 →
    Q 0 I) ∧
  (¬ y4_10 < 0 →
    (18 ≤ y4_10 →
      Q 0 I) ∧
    (¬ 18 ≤ y4_10 →
      (0 ≤ y4_10 ∧ y4_10 < 18) ∧
      (Q (I (a0 + 1) y4_10) I)))))) :
  RI d kX9_numberAt 0 [some (ax_r a0), some (ax_i x1), some (ax_i x2), some (ax_i x3), none] I Q := by
  show Rn _ _ _ _ _ _ _ _
  refine r_bipush (v := 9) dX9_numberAt_0 (by decide) ?_
  refine r_iload_n dX9_numberAt_2 rfl ?_
  refine r_imul dX9_numberAt_3 ?_
  refine r_iconst dX9_numberAt_4 ?_
  refine r_iload_n dX9_numberAt_5 rfl ?_
  refine r_imul dX9_numberAt_6 ?_
  refine r_iadd dX9_numberAt_7 ?_
  refine r_iload_n dX9_numberAt_8 rfl ?_
  refine r_iadd dX9_numberAt_9 ?_
  refine r_name (fun y4_10 e1 => ?_)
  have H := H y4_10 e1
  refine r_istore dX9_numberAt_10 (by decide) rfl ?_
  refine r_iload dX9_numberAt_12 rfl ?_
  have ob2 := H.1
  have H := H.2
  refine r_if_lt (tgt := 37) dX9_numberAt_14 (by decide) ob2 (fun c3 => ?_) (fun c3 => ?_)
  · have H := H.1 c3
    refine r_iconst dX9_numberAt_37 ?_
    exact r_iret dX9_numberAt_38 rfl ⟨rfl, _, rfl, H⟩
  · have H := H.2 c3
    refine r_iload dX9_numberAt_17 rfl ?_
    refine r_aload_n dX9_numberAt_19 rfl ?_
    refine r_getR clX9 0 (by decide) h0.1 rfl rfl wX9_9 dX9_numberAt_20 ?_
    refine r_alen h0.2 dX9_numberAt_23 18 rfl ?_
    refine r_icmp_ge (tgt := 37) dX9_numberAt_24 (by decide) ob2 (by decide) (fun c4 => ?_) (fun c4 => ?_)
    · have H := H.1 c4
      refine r_iconst dX9_numberAt_37 ?_
      exact r_iret dX9_numberAt_38 rfl ⟨rfl, _, rfl, H⟩
    · have H := H.2 c4
      refine r_aload_n dX9_numberAt_27 rfl ?_
      refine r_getR clX9 0 (by decide) h0.1 rfl rfl wX9_9 dX9_numberAt_28 ?_
      refine r_iload dX9_numberAt_31 rfl ?_
      have ob5 := H.1
      have H := H.2
      refine r_iald h0.2 (by decide) dX9_numberAt_33 ob5 ?_
      refine r_goto (tgt := 38) dX9_numberAt_34 (by decide) ?_
      exact r_iret dX9_numberAt_38 rfl ⟨rfl, _, rfl, H⟩

theorem vX9_change_0 {d : Nat} {Q : ax_H → Prop} {a0 : Nat} {x1 : Int} {x2 : Int} {x3 : Int} {x4 : Int} {I : ax_H} (h0 : isT a0) (r4 : ax_R x4) (H :
  ∀ y5_10, y5_10 = (((9 * x1) + (3 * x2)) + x3) →
  (ax_R y5_10 ∧
  ((y5_10 < 0 →
    Q I) ∧
  (¬ y5_10 < 0 →
    (18 ≤ y5_10 →
      Q I) ∧
    (¬ 18 ≤ y5_10 →
      (0 ≤ y5_10 ∧ y5_10 < 18) ∧
      (Q (ax_st I (a0 + 1) y5_10 x4))))))) :
  RV d kX9_change 0 [some (ax_r a0), some (ax_i x1), some (ax_i x2), some (ax_i x3), some (ax_i x4), none] I Q := by
  show Rn _ _ _ _ _ _ _ _
  refine r_bipush (v := 9) dX9_change_0 (by decide) ?_
  refine r_iload_n dX9_change_2 rfl ?_
  refine r_imul dX9_change_3 ?_
  refine r_iconst dX9_change_4 ?_
  refine r_iload_n dX9_change_5 rfl ?_
  refine r_imul dX9_change_6 ?_
  refine r_iadd dX9_change_7 ?_
  refine r_iload_n dX9_change_8 rfl ?_
  refine r_iadd dX9_change_9 ?_
  refine r_name (fun y5_10 e1 => ?_)
  have H := H y5_10 e1
  refine r_istore dX9_change_10 (by decide) rfl ?_
  refine r_iload dX9_change_12 rfl ?_
  have ob2 := H.1
  have H := H.2
  refine r_if_lt (tgt := 36) dX9_change_14 (by decide) ob2 (fun c3 => ?_) (fun c3 => ?_)
  · have H := H.1 c3
    exact r_vret dX9_change_36 rfl ⟨rfl, rfl, H⟩
  · have H := H.2 c3
    refine r_iload dX9_change_17 rfl ?_
    refine r_aload_n dX9_change_19 rfl ?_
    refine r_getR clX9 0 (by decide) h0.1 rfl rfl wX9_9 dX9_change_20 ?_
    refine r_alen h0.2 dX9_change_23 18 rfl ?_
    refine r_icmp_ge (tgt := 36) dX9_change_24 (by decide) ob2 (by decide) (fun c4 => ?_) (fun c4 => ?_)
    · have H := H.1 c4
      exact r_vret dX9_change_36 rfl ⟨rfl, rfl, H⟩
    · have H := H.2 c4
      refine r_aload_n dX9_change_27 rfl ?_
      refine r_getR clX9 0 (by decide) h0.1 rfl rfl wX9_9 dX9_change_28 ?_
      refine r_iload dX9_change_31 rfl ?_
      refine r_iload dX9_change_33 rfl ?_
      have ob5 := H.1
      have H := H.2
      refine r_iast h0.2 (by decide) dX9_change_35 ob5 r4 ?_
      exact r_vret dX9_change_36 rfl ⟨rfl, rfl, H⟩

theorem vX9_copyFrom_0 {d : Nat} {Q : ax_H → Prop} {a0 : Nat} {a1 : Nat} {I : ax_H} (h0 : isT a0) (h1 : isT a1) (H :
  Q (ax_cp I (a1 + 1) 0 (a0 + 1) 0 18)) :
  RV (d + 1) kX9_copyFrom 0 [some (ax_r a0), some (ax_r a1)] I Q := by
  show Rn _ _ _ _ _ _ _ _
  refine r_aload_n dX9_copyFrom_0 rfl ?_
  refine r_getR clX9 0 (by decide) h1.1 rfl rfl wX9_9 dX9_copyFrom_1 ?_
  refine r_iconst dX9_copyFrom_4 ?_
  refine r_aload_n dX9_copyFrom_5 rfl ?_
  refine r_getR clX9 0 (by decide) h0.1 rfl rfl wX9_9 dX9_copyFrom_6 ?_
  refine r_iconst dX9_copyFrom_9 ?_
  refine r_aload_n dX9_copyFrom_10 rfl ?_
  refine r_getR clX9 0 (by decide) h0.1 rfl rfl wX9_9 dX9_copyFrom_11 ?_
  refine r_alen h0.2 dX9_copyFrom_14 18 rfl ?_
  refine r_copy (by simp) h1.2 h0.2 (by decide) (by decide) (by decide) (by decide) (by decide) (by decide) (by decide) (fun _ => Nat.le_of_ble_eq_true rfl) wX9_15 wNat wSta wIni dX9_copyFrom_15 ?_
  exact r_vret dX9_copyFrom_18 rfl ⟨rfl, rfl, H⟩

theorem vX9_notZero_0 {d : Nat} {Q : Int → ax_H → Prop} {a0 : Nat} {I : ax_H} (h0 : isT a0) (H :
  RI d kX9_notZero 13 [none, some (ax_i 0), some (ax_r (a0 + 1)), some (ax_i 18), some (ax_i 0), none] I Q) :
  RI d kX9_notZero 0 [some (ax_r a0), none, none, none, none, none] I Q := by
  show Rn _ _ _ _ _ _ _ _
  refine r_iconst dX9_notZero_0 ?_
  refine r_istore_n dX9_notZero_1 (by decide) rfl ?_
  refine r_aload_n dX9_notZero_2 rfl ?_
  refine r_getR clX9 0 (by decide) h0.1 rfl rfl wX9_9 dX9_notZero_3 ?_
  refine r_astore_n dX9_notZero_6 (by decide) rfl ?_
  refine r_aload_n dX9_notZero_7 rfl ?_
  refine r_alen h0.2 dX9_notZero_8 18 rfl ?_
  refine r_istore_n dX9_notZero_9 (by decide) rfl ?_
  refine r_iconst dX9_notZero_10 ?_
  refine r_istore dX9_notZero_11 (by decide) rfl ?_
  refine r_drop (ls2 := [none, some (ax_i 0), some (ax_r (a0 + 1)), some (ax_i 18), some (ax_i 0), none]) ?_ (ax_leN (ax_leS (ax_leS (ax_leS (ax_leS (ax_leN ax_leE))))))
  exact H

theorem vX9_notZero_13 {d : Nat} {Q : Int → ax_H → Prop} {x1 : Int} {x3 : Int} {x4 : Int} {a0 : Nat} {I : ax_H} (h0 : isT a0) (r3 : ax_R x3) (r4 : ax_R x4) (H :
  (x3 ≤ x4 →
    Q x1 I) ∧
  (¬ x3 ≤ x4 →
    (0 ≤ x4 ∧ x4 < 18) ∧
    (((I (a0 + 1) x4) ≠ 0 →
      ∀ y1_37, y1_37 = (x1 + 1) →
      (RI d kX9_notZero 13 [none, some (ax_i y1_37), some (ax_r (a0 + 1)), some (ax_i x3), some (ax_i (x4 + 1)), none] I Q)) ∧
    ((I (a0 + 1) x4) = 0 →
      ∀ y1_37, y1_37 = (x1 + 0) →
      (RI d kX9_notZero 13 [none, some (ax_i y1_37), some (ax_r (a0 + 1)), some (ax_i x3), some (ax_i (x4 + 1)), none] I Q))))) :
  RI d kX9_notZero 13 [none, some (ax_i x1), some (ax_r (a0 + 1)), some (ax_i x3), some (ax_i x4), none] I Q := by
  show Rn _ _ _ _ _ _ _ _
  refine r_iload dX9_notZero_13 rfl ?_
  refine r_iload_n dX9_notZero_15 rfl ?_
  refine r_icmp_ge (tgt := 44) dX9_notZero_16 (by decide) r4 r3 (fun c1 => ?_) (fun c1 => ?_)
  · have H := H.1 c1
    refine r_iload_n dX9_notZero_44 rfl ?_
    exact r_iret dX9_notZero_45 rfl ⟨rfl, _, rfl, H⟩
  · have H := H.2 c1
    refine r_aload_n dX9_notZero_19 rfl ?_
    refine r_iload dX9_notZero_20 rfl ?_
    have ob2 := H.1
    have H := H.2
    refine r_iald h0.2 (by decide) dX9_notZero_22 ob2 ?_
    refine r_istore dX9_notZero_23 (by decide) rfl ?_
    refine r_iload_n dX9_notZero_25 rfl ?_
    refine r_iload dX9_notZero_26 rfl ?_
    refine r_heapR (fun hI3 => ?_)
    refine r_if_ne (tgt := 35) dX9_notZero_28 (by decide) (hI3 _ _) (fun c4 => ?_) (fun c4 => ?_)
    · have H := H.1 c4
      refine r_iconst dX9_notZero_35 ?_
      refine r_iadd dX9_notZero_36 ?_
      refine r_name (fun y1_37 e5 => ?_)
      have H := H y1_37 e5
      refine r_istore_n dX9_notZero_37 (by decide) rfl ?_
      refine r_iinc dX9_notZero_38 (by decide) rfl rfl ?_
      refine r_goto (tgt := 13) dX9_notZero_41 (by decide) ?_
      refine r_drop (ls2 := [none, some (ax_i y1_37), some (ax_r (a0 + 1)), some (ax_i x3), some (ax_i (x4 + 1)), none]) ?_ (ax_leN (ax_leS (ax_leS (ax_leS (ax_leS (ax_leN ax_leE))))))
      exact H
    · have H := H.2 c4
      refine r_iconst dX9_notZero_31 ?_
      refine r_goto (tgt := 36) dX9_notZero_32 (by decide) ?_
      refine r_iadd dX9_notZero_36 ?_
      refine r_name (fun y1_37 e6 => ?_)
      have H := H y1_37 e6
      refine r_istore_n dX9_notZero_37 (by decide) rfl ?_
      refine r_iinc dX9_notZero_38 (by decide) rfl rfl ?_
      refine r_goto (tgt := 13) dX9_notZero_41 (by decide) ?_
      refine r_drop (ls2 := [none, some (ax_i y1_37), some (ax_r (a0 + 1)), some (ax_i x3), some (ax_i (x4 + 1)), none]) ?_ (ax_leN (ax_leS (ax_leS (ax_leS (ax_leS (ax_leN ax_leE))))))
      exact H

theorem vX9_numberAlong_0 {d : Nat} {Q : Int → ax_H → Prop} {a0 : Nat} {x1 : Int} {x2 : Int} {x3 : Int} {x4 : Int} {I : ax_H} (h0 : isT a0) (r1 : ax_R x1) (H :
  (x1 ≠ 0 →
    ∀ y5_24, y5_24 = ((9 * x2) + ((3 * x4) + x3)) →
    (ax_R y5_24 ∧
    ((y5_24 < 0 →
      Q 0 I) ∧
    (¬ y5_24 < 0 →
      (18 ≤ y5_24 →
        Q 0 I) ∧
      (¬ 18 ≤ y5_24 →
        (0 ≤ y5_24 ∧ y5_24 < 18) ∧
        (Q (I (a0 + 1) y5_24) I)))))) ∧
  (x1 = 0 →
    ∀ y5_24, y5_24 = ((9 * x2) + ((3 * x3) + x4)) →
    (ax_R y5_24 ∧
    ((y5_24 < 0 →
      Q 0 I) ∧
    (¬ y5_24 < 0 →
      (18 ≤ y5_24 →
        Q 0 I) ∧
      (¬ 18 ≤ y5_24 →
        (0 ≤ y5_24 ∧ y5_24 < 18) ∧
        (Q (I (a0 + 1) y5_24) I))))))) :
  RI d kX9_numberAlong 0 [some (ax_r a0), some (ax_i x1), some (ax_i x2), some (ax_i x3), some (ax_i x4), none] I Q := by
  show Rn _ _ _ _ _ _ _ _
  refine r_bipush (v := 9) dX9_numberAlong_0 (by decide) ?_
  refine r_iload_n dX9_numberAlong_2 rfl ?_
  refine r_imul dX9_numberAlong_3 ?_
  refine r_iload_n dX9_numberAlong_4 rfl ?_
  refine r_if_ne (tgt := 17) dX9_numberAlong_5 (by decide) r1 (fun c1 => ?_) (fun c1 => ?_)
  · have H := H.1 c1
    refine r_iconst dX9_numberAlong_17 ?_
    refine r_iload dX9_numberAlong_18 rfl ?_
    refine r_imul dX9_numberAlong_20 ?_
    refine r_iload_n dX9_numberAlong_21 rfl ?_
    refine r_iadd dX9_numberAlong_22 ?_
    refine r_iadd dX9_numberAlong_23 ?_
    refine r_name (fun y5_24 e2 => ?_)
    have H := H y5_24 e2
    refine r_istore dX9_numberAlong_24 (by decide) rfl ?_
    refine r_iload dX9_numberAlong_26 rfl ?_
    have ob3 := H.1
    have H := H.2
    refine r_if_lt (tgt := 51) dX9_numberAlong_28 (by decide) ob3 (fun c4 => ?_) (fun c4 => ?_)
    · have H := H.1 c4
      refine r_iconst dX9_numberAlong_51 ?_
      exact r_iret dX9_numberAlong_52 rfl ⟨rfl, _, rfl, H⟩
    · have H := H.2 c4
      refine r_iload dX9_numberAlong_31 rfl ?_
      refine r_aload_n dX9_numberAlong_33 rfl ?_
      refine r_getR clX9 0 (by decide) h0.1 rfl rfl wX9_9 dX9_numberAlong_34 ?_
      refine r_alen h0.2 dX9_numberAlong_37 18 rfl ?_
      refine r_icmp_ge (tgt := 51) dX9_numberAlong_38 (by decide) ob3 (by decide) (fun c5 => ?_) (fun c5 => ?_)
      · have H := H.1 c5
        refine r_iconst dX9_numberAlong_51 ?_
        exact r_iret dX9_numberAlong_52 rfl ⟨rfl, _, rfl, H⟩
      · have H := H.2 c5
        refine r_aload_n dX9_numberAlong_41 rfl ?_
        refine r_getR clX9 0 (by decide) h0.1 rfl rfl wX9_9 dX9_numberAlong_42 ?_
        refine r_iload dX9_numberAlong_45 rfl ?_
        have ob6 := H.1
        have H := H.2
        refine r_iald h0.2 (by decide) dX9_numberAlong_47 ob6 ?_
        refine r_goto (tgt := 52) dX9_numberAlong_48 (by decide) ?_
        exact r_iret dX9_numberAlong_52 rfl ⟨rfl, _, rfl, H⟩
  · have H := H.2 c1
    refine r_iconst dX9_numberAlong_8 ?_
    refine r_iload_n dX9_numberAlong_9 rfl ?_
    refine r_imul dX9_numberAlong_10 ?_
    refine r_iload dX9_numberAlong_11 rfl ?_
    refine r_iadd dX9_numberAlong_13 ?_
    refine r_goto (tgt := 23) dX9_numberAlong_14 (by decide) ?_
    refine r_iadd dX9_numberAlong_23 ?_
    refine r_name (fun y5_24 e7 => ?_)
    have H := H y5_24 e7
    refine r_istore dX9_numberAlong_24 (by decide) rfl ?_
    refine r_iload dX9_numberAlong_26 rfl ?_
    have ob8 := H.1
    have H := H.2
    refine r_if_lt (tgt := 51) dX9_numberAlong_28 (by decide) ob8 (fun c9 => ?_) (fun c9 => ?_)
    · have H := H.1 c9
      refine r_iconst dX9_numberAlong_51 ?_
      exact r_iret dX9_numberAlong_52 rfl ⟨rfl, _, rfl, H⟩
    · have H := H.2 c9
      refine r_iload dX9_numberAlong_31 rfl ?_
      refine r_aload_n dX9_numberAlong_33 rfl ?_
      refine r_getR clX9 0 (by decide) h0.1 rfl rfl wX9_9 dX9_numberAlong_34 ?_
      refine r_alen h0.2 dX9_numberAlong_37 18 rfl ?_
      refine r_icmp_ge (tgt := 51) dX9_numberAlong_38 (by decide) ob8 (by decide) (fun c10 => ?_) (fun c10 => ?_)
      · have H := H.1 c10
        refine r_iconst dX9_numberAlong_51 ?_
        exact r_iret dX9_numberAlong_52 rfl ⟨rfl, _, rfl, H⟩
      · have H := H.2 c10
        refine r_aload_n dX9_numberAlong_41 rfl ?_
        refine r_getR clX9 0 (by decide) h0.1 rfl rfl wX9_9 dX9_numberAlong_42 ?_
        refine r_iload dX9_numberAlong_45 rfl ?_
        have ob11 := H.1
        have H := H.2
        refine r_iald h0.2 (by decide) dX9_numberAlong_47 ob11 ?_
        refine r_goto (tgt := 52) dX9_numberAlong_48 (by decide) ?_
        exact r_iret dX9_numberAlong_52 rfl ⟨rfl, _, rfl, H⟩

theorem vX9_sumAt_0 {d : Nat} {Q : Int → ax_H → Prop} {a0 : Nat} {x1 : Int} {x2 : Int} {x3 : Int} {x4 : Int} {I : ax_H} (h0 : isT a0) (H :
  cI d kX9_numberAlong [ax_r a0, ax_i x1, ax_i x2, ax_i x3, ax_i 0] I (fun w2 I1 =>
  cI d kX9_numberAlong [ax_r a0, ax_i x1, ax_i x2, ax_i x3, ax_i 1] I1 (fun w4 I3 =>
  cI d kX9_numberAlong [ax_r a0, ax_i x1, ax_i x2, ax_i x3, ax_i 2] I3 (fun w6 I5 =>
  cI d kX10_quadraticAt [ax_i w2, ax_i w4, ax_i w6, ax_i x4] I5 (fun w8 I7 =>
  Q w8 I7))))) :
  RI (d + 1) kX9_sumAt 0 [some (ax_r a0), some (ax_i x1), some (ax_i x2), some (ax_i x3), some (ax_i x4), none, none, none] I Q := by
  show Rn _ _ _ _ _ _ _ _
  refine r_aload_n dX9_sumAt_0 rfl ?_
  refine r_iload_n dX9_sumAt_1 rfl ?_
  refine r_iload_n dX9_sumAt_2 rfl ?_
  refine r_iload_n dX9_sumAt_3 rfl ?_
  refine r_iconst dX9_sumAt_4 ?_
  refine r_cI (as := [ax_r a0, ax_i x1, ax_i x2, ax_i x3, ax_i 0]) (how_V (ci := 9) jX9_numberAlong jIX9_numberAlong jVX9_numberAlong rfl h0.1 (by decide) rfl rfl wX9_21 dX9_sumAt_5) rfl (Nat.le_refl _) (Nat.le_of_ble_eq_true rfl) (fun _ => Nat.le_of_ble_eq_true rfl) H (fun w2 I1 H => ?_)
  refine r_istore dX9_sumAt_8 (by decide) rfl ?_
  refine r_aload_n dX9_sumAt_10 rfl ?_
  refine r_iload_n dX9_sumAt_11 rfl ?_
  refine r_iload_n dX9_sumAt_12 rfl ?_
  refine r_iload_n dX9_sumAt_13 rfl ?_
  refine r_iconst dX9_sumAt_14 ?_
  refine r_cI (as := [ax_r a0, ax_i x1, ax_i x2, ax_i x3, ax_i 1]) (how_V (ci := 9) jX9_numberAlong jIX9_numberAlong jVX9_numberAlong rfl h0.1 (by decide) rfl rfl wX9_21 dX9_sumAt_15) rfl (Nat.le_refl _) (Nat.le_of_ble_eq_true rfl) (fun _ => Nat.le_of_ble_eq_true rfl) H (fun w4 I3 H => ?_)
  refine r_istore dX9_sumAt_18 (by decide) rfl ?_
  refine r_aload_n dX9_sumAt_20 rfl ?_
  refine r_iload_n dX9_sumAt_21 rfl ?_
  refine r_iload_n dX9_sumAt_22 rfl ?_
  refine r_iload_n dX9_sumAt_23 rfl ?_
  refine r_iconst dX9_sumAt_24 ?_
  refine r_cI (as := [ax_r a0, ax_i x1, ax_i x2, ax_i x3, ax_i 2]) (how_V (ci := 9) jX9_numberAlong jIX9_numberAlong jVX9_numberAlong rfl h0.1 (by decide) rfl rfl wX9_21 dX9_sumAt_25) rfl (Nat.le_refl _) (Nat.le_of_ble_eq_true rfl) (fun _ => Nat.le_of_ble_eq_true rfl) H (fun w6 I5 H => ?_)
  refine r_istore dX9_sumAt_28 (by decide) rfl ?_
  refine r_iload dX9_sumAt_30 rfl ?_
  refine r_iload dX9_sumAt_32 rfl ?_
  refine r_iload dX9_sumAt_34 rfl ?_
  refine r_iload dX9_sumAt_36 rfl ?_
  refine r_cI (as := [ax_i w2, ax_i w4, ax_i w6, ax_i x4]) (how_SN jX10_quadraticAt jSX10_quadraticAt rfl wX9_25 dX9_sumAt_38) rfl (Nat.le_refl _) (Nat.le_of_ble_eq_true rfl) (fun _ => Nat.le_of_ble_eq_true rfl) H (fun w8 I7 H => ?_)
  exact r_iret dX9_sumAt_41 rfl ⟨rfl, _, rfl, H⟩

theorem vX9_valueAt_0 {d : Nat} {Q : Int → ax_H → Prop} {a0 : Nat} {x1 : Int} {x2 : Int} {x3 : Int} {I : ax_H} (h0 : isT a0) (H :
  cI (d + 1) kX9_sumAt [ax_r a0, ax_i 0, ax_i x1, ax_i 0, ax_i x3] I (fun w2 I1 =>
  cI (d + 1) kX9_sumAt [ax_r a0, ax_i 0, ax_i x1, ax_i 1, ax_i x3] I1 (fun w4 I3 =>
  cI (d + 1) kX9_sumAt [ax_r a0, ax_i 0, ax_i x1, ax_i 2, ax_i x3] I3 (fun w6 I5 =>
  cI (d + 1) kX10_quadraticAt [ax_i w2, ax_i w4, ax_i w6, ax_i x2] I5 (fun w8 I7 =>
  Q w8 I7))))) :
  RI (d + 2) kX9_valueAt 0 [some (ax_r a0), some (ax_i x1), some (ax_i x2), some (ax_i x3)] I Q := by
  show Rn _ _ _ _ _ _ _ _
  refine r_aload_n dX9_valueAt_0 rfl ?_
  refine r_iconst dX9_valueAt_1 ?_
  refine r_iload_n dX9_valueAt_2 rfl ?_
  refine r_iconst dX9_valueAt_3 ?_
  refine r_iload_n dX9_valueAt_4 rfl ?_
  refine r_cI (as := [ax_r a0, ax_i 0, ax_i x1, ax_i 0, ax_i x3]) (how_V (ci := 9) jX9_sumAt jIX9_sumAt jVX9_sumAt rfl h0.1 (by decide) rfl rfl wX9_28 dX9_valueAt_5) rfl (Nat.le_refl _) (Nat.le_of_ble_eq_true rfl) (fun _ => Nat.le_of_ble_eq_true rfl) H (fun w2 I1 H => ?_)
  refine r_aload_n dX9_valueAt_8 rfl ?_
  refine r_iconst dX9_valueAt_9 ?_
  refine r_iload_n dX9_valueAt_10 rfl ?_
  refine r_iconst dX9_valueAt_11 ?_
  refine r_iload_n dX9_valueAt_12 rfl ?_
  refine r_cI (as := [ax_r a0, ax_i 0, ax_i x1, ax_i 1, ax_i x3]) (how_V (ci := 9) jX9_sumAt jIX9_sumAt jVX9_sumAt rfl h0.1 (by decide) rfl rfl wX9_28 dX9_valueAt_13) rfl (Nat.le_refl _) (Nat.le_of_ble_eq_true rfl) (fun _ => Nat.le_of_ble_eq_true rfl) H (fun w4 I3 H => ?_)
  refine r_aload_n dX9_valueAt_16 rfl ?_
  refine r_iconst dX9_valueAt_17 ?_
  refine r_iload_n dX9_valueAt_18 rfl ?_
  refine r_iconst dX9_valueAt_19 ?_
  refine r_iload_n dX9_valueAt_20 rfl ?_
  refine r_cI (as := [ax_r a0, ax_i 0, ax_i x1, ax_i 2, ax_i x3]) (how_V (ci := 9) jX9_sumAt jIX9_sumAt jVX9_sumAt rfl h0.1 (by decide) rfl rfl wX9_28 dX9_valueAt_21) rfl (Nat.le_refl _) (Nat.le_of_ble_eq_true rfl) (fun _ => Nat.le_of_ble_eq_true rfl) H (fun w6 I5 H => ?_)
  refine r_iload_n dX9_valueAt_24 rfl ?_
  refine r_cI (as := [ax_i w2, ax_i w4, ax_i w6, ax_i x2]) (how_SN jX10_quadraticAt jSX10_quadraticAt rfl wX9_25 dX9_valueAt_25) rfl (Nat.le_refl _) (Nat.le_of_ble_eq_true rfl) (fun _ => Nat.le_of_ble_eq_true rfl) H (fun w8 I7 H => ?_)
  exact r_iret dX9_valueAt_28 rfl ⟨rfl, _, rfl, H⟩

theorem vX9_quotientAt_0 {d : Nat} {Q : Int → ax_H → Prop} {a0 : Nat} {x1 : Int} {x2 : Int} {I : ax_H} (h0 : isT a0) (H :
  cI (d + 2) kX9_valueAt [ax_r a0, ax_i 0, ax_i x1, ax_i x2] I (fun w2 I1 =>
  cI (d + 2) kX9_valueAt [ax_r a0, ax_i 1, ax_i x1, ax_i x2] I1 (fun w4 I3 =>
  cI (d + 2) kX10_quotient [ax_i w2, ax_i w4] I3 (fun w6 I5 =>
  Q w6 I5)))) :
  RI (d + 3) kX9_quotientAt 0 [some (ax_r a0), some (ax_i x1), some (ax_i x2)] I Q := by
  show Rn _ _ _ _ _ _ _ _
  refine r_aload_n dX9_quotientAt_0 rfl ?_
  refine r_iconst dX9_quotientAt_1 ?_
  refine r_iload_n dX9_quotientAt_2 rfl ?_
  refine r_iload_n dX9_quotientAt_3 rfl ?_
  refine r_cI (as := [ax_r a0, ax_i 0, ax_i x1, ax_i x2]) (how_V (ci := 9) jX9_valueAt jIX9_valueAt jVX9_valueAt rfl h0.1 (by decide) rfl rfl wX9_31 dX9_quotientAt_4) rfl (Nat.le_refl _) (Nat.le_of_ble_eq_true rfl) (fun _ => Nat.le_of_ble_eq_true rfl) H (fun w2 I1 H => ?_)
  refine r_aload_n dX9_quotientAt_7 rfl ?_
  refine r_iconst dX9_quotientAt_8 ?_
  refine r_iload_n dX9_quotientAt_9 rfl ?_
  refine r_iload_n dX9_quotientAt_10 rfl ?_
  refine r_cI (as := [ax_r a0, ax_i 1, ax_i x1, ax_i x2]) (how_V (ci := 9) jX9_valueAt jIX9_valueAt jVX9_valueAt rfl h0.1 (by decide) rfl rfl wX9_31 dX9_quotientAt_11) rfl (Nat.le_refl _) (Nat.le_of_ble_eq_true rfl) (fun _ => Nat.le_of_ble_eq_true rfl) H (fun w4 I3 H => ?_)
  refine r_cI (as := [ax_i w2, ax_i w4]) (how_SN jX10_quotient jSX10_quotient rfl wX9_35 dX9_quotientAt_14) rfl (Nat.le_refl _) (Nat.le_of_ble_eq_true rfl) (fun _ => Nat.le_of_ble_eq_true rfl) H (fun w6 I5 H => ?_)
  exact r_iret dX9_quotientAt_17 rfl ⟨rfl, _, rfl, H⟩

theorem vX9_numbersKeeping_0 {d : Nat} {Q : Int → ax_H → Prop} {a0 : Nat} {x1 : Int} {x2 : Int} {x3 : Int} {x4 : Int} {x5 : Int} {x6 : Int} {I : ax_H} (h0 : isT a0) (H :
  cI (d + 2) kX10_powerAt [ax_i x2, ax_i x4] I (fun w2 I1 =>
  cI (d + 2) kX10_powerAt [ax_i x3, ax_i x5] I1 (fun w4 I3 =>
  (0 ≤ (w2 * w4) ∧ (w2 * w4) < 2147483648) ∧
  (∀ y7_16, y7_16 = ((w2 * w4) % 31) →
  (cI (d + 2) kX9_valueAt [ax_r a0, ax_i x1, ax_i x4, ax_i x5] I3 (fun w8 I7 =>
  cI (d + 2) kX9_numberAt [ax_r a0, ax_i x1, ax_i x2, ax_i x3] I7 (fun w10 I9 =>
  ∀ y8_38, y8_38 = (w8 - (y7_16 * w10)) →
  (cI (d + 2) kX9_valueAt [ax_r a0, ax_i 0, ax_i x4, ax_i x5] I9 (fun w13 I12 =>
  cI (d + 2) kX9_valueAt [ax_r a0, ax_i 1, ax_i x4, ax_i x5] I12 (fun w15 I14 =>
  RJ (d + 3) kX9_numbersKeeping 68 [none, some (ax_i x1), none, none, none, none, some (ax_i x6), some (ax_i y7_16), some (ax_i y8_38), some (ax_i w13), some (ax_i w15), some (ax_l 0), none, some (ax_i 0), none, none] I14 Q)))))))))) :
  RJ (d + 3) kX9_numbersKeeping 0 [some (ax_r a0), some (ax_i x1), some (ax_i x2), some (ax_i x3), some (ax_i x4), some (ax_i x5), some (ax_i x6), none, none, none, none, none, none, none, none, none] I Q := by
  show Rn _ _ _ _ _ _ _ _
  refine r_iload_n dX9_numbersKeeping_0 rfl ?_
  refine r_iload dX9_numbersKeeping_1 rfl ?_
  refine r_cI (as := [ax_i x2, ax_i x4]) (how_SN jX10_powerAt jSX10_powerAt rfl wX9_39 dX9_numbersKeeping_3) rfl (Nat.le_refl _) (Nat.le_of_ble_eq_true rfl) (fun _ => Nat.le_of_ble_eq_true rfl) H (fun w2 I1 H => ?_)
  refine r_iload_n dX9_numbersKeeping_6 rfl ?_
  refine r_iload dX9_numbersKeeping_7 rfl ?_
  refine r_cI (as := [ax_i x3, ax_i x5]) (how_SN jX10_powerAt jSX10_powerAt rfl wX9_39 dX9_numbersKeeping_9) rfl (Nat.le_refl _) (Nat.le_of_ble_eq_true rfl) (fun _ => Nat.le_of_ble_eq_true rfl) H (fun w4 I3 H => ?_)
  refine r_imul dX9_numbersKeeping_12 ?_
  refine r_bipush (v := 31) dX9_numbersKeeping_13 (by decide) ?_
  have ob5 := H.1
  have H := H.2
  refine r_iremp dX9_numbersKeeping_15 ob5 (by decide) ?_
  refine r_name (fun y7_16 e6 => ?_)
  have H := H y7_16 e6
  refine r_istore dX9_numbersKeeping_16 (by decide) rfl ?_
  refine r_aload_n dX9_numbersKeeping_18 rfl ?_
  refine r_iload_n dX9_numbersKeeping_19 rfl ?_
  refine r_iload dX9_numbersKeeping_20 rfl ?_
  refine r_iload dX9_numbersKeeping_22 rfl ?_
  refine r_cI (as := [ax_r a0, ax_i x1, ax_i x4, ax_i x5]) (how_V (ci := 9) jX9_valueAt jIX9_valueAt jVX9_valueAt rfl h0.1 (by decide) rfl rfl wX9_31 dX9_numbersKeeping_24) rfl (Nat.le_refl _) (Nat.le_of_ble_eq_true rfl) (fun _ => Nat.le_of_ble_eq_true rfl) H (fun w8 I7 H => ?_)
  refine r_iload dX9_numbersKeeping_27 rfl ?_
  refine r_aload_n dX9_numbersKeeping_29 rfl ?_
  refine r_iload_n dX9_numbersKeeping_30 rfl ?_
  refine r_iload_n dX9_numbersKeeping_31 rfl ?_
  refine r_iload_n dX9_numbersKeeping_32 rfl ?_
  refine r_cI (as := [ax_r a0, ax_i x1, ax_i x2, ax_i x3]) (how_V (ci := 9) jX9_numberAt jIX9_numberAt jVX9_numberAt rfl h0.1 (by decide) rfl rfl wX9_42 dX9_numbersKeeping_33) rfl (Nat.le_refl _) (Nat.le_of_ble_eq_true rfl) (fun _ => Nat.le_of_ble_eq_true rfl) H (fun w10 I9 H => ?_)
  refine r_imul dX9_numbersKeeping_36 ?_
  refine r_isub dX9_numbersKeeping_37 ?_
  refine r_name (fun y8_38 e11 => ?_)
  have H := H y8_38 e11
  refine r_istore dX9_numbersKeeping_38 (by decide) rfl ?_
  refine r_aload_n dX9_numbersKeeping_40 rfl ?_
  refine r_iconst dX9_numbersKeeping_41 ?_
  refine r_iload dX9_numbersKeeping_42 rfl ?_
  refine r_iload dX9_numbersKeeping_44 rfl ?_
  refine r_cI (as := [ax_r a0, ax_i 0, ax_i x4, ax_i x5]) (how_V (ci := 9) jX9_valueAt jIX9_valueAt jVX9_valueAt rfl h0.1 (by decide) rfl rfl wX9_31 dX9_numbersKeeping_46) rfl (Nat.le_refl _) (Nat.le_of_ble_eq_true rfl) (fun _ => Nat.le_of_ble_eq_true rfl) H (fun w13 I12 H => ?_)
  refine r_istore dX9_numbersKeeping_49 (by decide) rfl ?_
  refine r_aload_n dX9_numbersKeeping_51 rfl ?_
  refine r_iconst dX9_numbersKeeping_52 ?_
  refine r_iload dX9_numbersKeeping_53 rfl ?_
  refine r_iload dX9_numbersKeeping_55 rfl ?_
  refine r_cI (as := [ax_r a0, ax_i 1, ax_i x4, ax_i x5]) (how_V (ci := 9) jX9_valueAt jIX9_valueAt jVX9_valueAt rfl h0.1 (by decide) rfl rfl wX9_31 dX9_numbersKeeping_57) rfl (Nat.le_refl _) (Nat.le_of_ble_eq_true rfl) (fun _ => Nat.le_of_ble_eq_true rfl) H (fun w15 I14 H => ?_)
  refine r_istore dX9_numbersKeeping_60 (by decide) rfl ?_
  refine r_lconst (v := 0) dX9_numbersKeeping_62 rfl ?_
  refine r_lstore dX9_numbersKeeping_63 (by decide) rfl ?_
  refine r_iconst dX9_numbersKeeping_65 ?_
  refine r_istore dX9_numbersKeeping_66 (by decide) rfl ?_
  refine r_drop (ls2 := [none, some (ax_i x1), none, none, none, none, some (ax_i x6), some (ax_i y7_16), some (ax_i y8_38), some (ax_i w13), some (ax_i w15), some (ax_l 0), none, some (ax_i 0), none, none]) ?_ (ax_leN (ax_leS (ax_leN (ax_leN (ax_leN (ax_leN (ax_leS (ax_leS (ax_leS (ax_leS (ax_leS (ax_leS (ax_leN (ax_leS (ax_leN (ax_leN ax_leE))))))))))))))))
  exact H

theorem vX9_numbersKeeping_68 {d : Nat} {Q : Int → ax_H → Prop} {x1 : Int} {x6 : Int} {x7 : Int} {x8 : Int} {x9 : Int} {x10 : Int} {x11 : Int} {x13 : Int} {I : ax_H} (r1 : ax_R x1) (r13 : ax_R x13) (r6 : ax_R x6) (H :
  (31 ≤ x13 →
    Q x11 I) ∧
  (¬ 31 ≤ x13 →
    ∀ y14_83, y14_83 = (x8 + (x7 * x13)) →
    ((x1 ≠ 0 →
      cI (d + 2) kX10_quotient [ax_i x9, ax_i y14_83] I (fun w5 I4 =>
      ax_R w5 ∧
      ((w5 ≠ x6 →
        RJ (d + 3) kX9_numbersKeeping 68 [none, some (ax_i x1), none, none, none, none, some (ax_i x6), some (ax_i x7), some (ax_i x8), some (ax_i x9), some (ax_i x10), some (ax_l x11), none, some (ax_i (x13 + 1)), none, none] I4 Q) ∧
      (w5 = x6 →
        (0 ≤ x13 ∧ x13 < 63) ∧
        (RJ (d + 3) kX9_numbersKeeping 68 [none, some (ax_i x1), none, none, none, none, some (ax_i x6), some (ax_i x7), some (ax_i x8), some (ax_i x9), some (ax_i x10), some (ax_l (ax_lor x11 (2 ^ (x13).toNat))), none, some (ax_i (x13 + 1)), none, none] I4 Q))))) ∧
    (x1 = 0 →
      cI (d + 2) kX10_quotient [ax_i y14_83, ax_i x10] I (fun w10 I9 =>
      ax_R w10 ∧
      ((w10 ≠ x6 →
        RJ (d + 3) kX9_numbersKeeping 68 [none, some (ax_i x1), none, none, none, none, some (ax_i x6), some (ax_i x7), some (ax_i x8), some (ax_i x9), some (ax_i x10), some (ax_l x11), none, some (ax_i (x13 + 1)), none, none] I9 Q) ∧
      (w10 = x6 →
        (0 ≤ x13 ∧ x13 < 63) ∧
        (RJ (d + 3) kX9_numbersKeeping 68 [none, some (ax_i x1), none, none, none, none, some (ax_i x6), some (ax_i x7), some (ax_i x8), some (ax_i x9), some (ax_i x10), some (ax_l (ax_lor x11 (2 ^ (x13).toNat))), none, some (ax_i (x13 + 1)), none, none] I9 Q)))))))) :
  RJ (d + 3) kX9_numbersKeeping 68 [none, some (ax_i x1), none, none, none, none, some (ax_i x6), some (ax_i x7), some (ax_i x8), some (ax_i x9), some (ax_i x10), some (ax_l x11), none, some (ax_i x13), none, none] I Q := by
  show Rn _ _ _ _ _ _ _ _
  refine r_iload dX9_numbersKeeping_68 rfl ?_
  refine r_bipush (v := 31) dX9_numbersKeeping_70 (by decide) ?_
  refine r_icmp_ge (tgt := 130) dX9_numbersKeeping_72 (by decide) r13 (by decide) (fun c1 => ?_) (fun c1 => ?_)
  · have H := H.1 c1
    refine r_lload dX9_numbersKeeping_130 rfl ?_
    exact r_lret dX9_numbersKeeping_132 rfl ⟨rfl, _, rfl, H⟩
  · have H := H.2 c1
    refine r_iload dX9_numbersKeeping_75 rfl ?_
    refine r_iload dX9_numbersKeeping_77 rfl ?_
    refine r_iload dX9_numbersKeeping_79 rfl ?_
    refine r_imul dX9_numbersKeeping_81 ?_
    refine r_iadd dX9_numbersKeeping_82 ?_
    refine r_name (fun y14_83 e2 => ?_)
    have H := H y14_83 e2
    refine r_istore dX9_numbersKeeping_83 (by decide) rfl ?_
    refine r_iload_n dX9_numbersKeeping_85 rfl ?_
    refine r_if_ne (tgt := 99) dX9_numbersKeeping_86 (by decide) r1 (fun c3 => ?_) (fun c3 => ?_)
    · have H := H.1 c3
      refine r_iload dX9_numbersKeeping_99 rfl ?_
      refine r_iload dX9_numbersKeeping_101 rfl ?_
      refine r_cI (as := [ax_i x9, ax_i y14_83]) (how_SN jX10_quotient jSX10_quotient rfl wX9_35 dX9_numbersKeeping_103) rfl (Nat.le_refl _) (Nat.le_of_ble_eq_true rfl) (fun _ => Nat.le_of_ble_eq_true rfl) H (fun w5 I4 H => ?_)
      refine r_istore dX9_numbersKeeping_106 (by decide) rfl ?_
      refine r_iload dX9_numbersKeeping_108 rfl ?_
      refine r_iload dX9_numbersKeeping_110 rfl ?_
      have ob6 := H.1
      have H := H.2
      refine r_icmp_ne (tgt := 124) dX9_numbersKeeping_112 (by decide) ob6 r6 (fun c7 => ?_) (fun c7 => ?_)
      · have H := H.1 c7
        refine r_iinc dX9_numbersKeeping_124 (by decide) rfl rfl ?_
        refine r_goto (tgt := 68) dX9_numbersKeeping_127 (by decide) ?_
        refine r_drop (ls2 := [none, some (ax_i x1), none, none, none, none, some (ax_i x6), some (ax_i x7), some (ax_i x8), some (ax_i x9), some (ax_i x10), some (ax_l x11), none, some (ax_i (x13 + 1)), none, none]) ?_ (ax_leN (ax_leS (ax_leN (ax_leN (ax_leN (ax_leN (ax_leS (ax_leS (ax_leS (ax_leS (ax_leS (ax_leS (ax_leN (ax_leS (ax_leN (ax_leN ax_leE))))))))))))))))
        exact H
      · have H := H.2 c7
        refine r_lload dX9_numbersKeeping_115 rfl ?_
        refine r_lconst (v := 1) dX9_numbersKeeping_117 rfl ?_
        refine r_iload dX9_numbersKeeping_118 rfl ?_
        have ob8 := H.1
        have H := H.2
        refine r_lshl dX9_numbersKeeping_120 ob8 ?_
        refine r_lor dX9_numbersKeeping_121 ?_
        refine r_lstore dX9_numbersKeeping_122 (by decide) rfl ?_
        refine r_iinc dX9_numbersKeeping_124 (by decide) rfl rfl ?_
        refine r_goto (tgt := 68) dX9_numbersKeeping_127 (by decide) ?_
        refine r_drop (ls2 := [none, some (ax_i x1), none, none, none, none, some (ax_i x6), some (ax_i x7), some (ax_i x8), some (ax_i x9), some (ax_i x10), some (ax_l (ax_lor x11 (2 ^ (x13).toNat))), none, some (ax_i (x13 + 1)), none, none]) ?_ (ax_leN (ax_leS (ax_leN (ax_leN (ax_leN (ax_leN (ax_leS (ax_leS (ax_leS (ax_leS (ax_leS (ax_leS (ax_leN (ax_leS (ax_leN (ax_leN ax_leE))))))))))))))))
        exact H
    · have H := H.2 c3
      refine r_iload dX9_numbersKeeping_89 rfl ?_
      refine r_iload dX9_numbersKeeping_91 rfl ?_
      refine r_cI (as := [ax_i y14_83, ax_i x10]) (how_SN jX10_quotient jSX10_quotient rfl wX9_35 dX9_numbersKeeping_93) rfl (Nat.le_refl _) (Nat.le_of_ble_eq_true rfl) (fun _ => Nat.le_of_ble_eq_true rfl) H (fun w10 I9 H => ?_)
      refine r_goto (tgt := 106) dX9_numbersKeeping_96 (by decide) ?_
      refine r_istore dX9_numbersKeeping_106 (by decide) rfl ?_
      refine r_iload dX9_numbersKeeping_108 rfl ?_
      refine r_iload dX9_numbersKeeping_110 rfl ?_
      have ob11 := H.1
      have H := H.2
      refine r_icmp_ne (tgt := 124) dX9_numbersKeeping_112 (by decide) ob11 r6 (fun c12 => ?_) (fun c12 => ?_)
      · have H := H.1 c12
        refine r_iinc dX9_numbersKeeping_124 (by decide) rfl rfl ?_
        refine r_goto (tgt := 68) dX9_numbersKeeping_127 (by decide) ?_
        refine r_drop (ls2 := [none, some (ax_i x1), none, none, none, none, some (ax_i x6), some (ax_i x7), some (ax_i x8), some (ax_i x9), some (ax_i x10), some (ax_l x11), none, some (ax_i (x13 + 1)), none, none]) ?_ (ax_leN (ax_leS (ax_leN (ax_leN (ax_leN (ax_leN (ax_leS (ax_leS (ax_leS (ax_leS (ax_leS (ax_leS (ax_leN (ax_leS (ax_leN (ax_leN ax_leE))))))))))))))))
        exact H
      · have H := H.2 c12
        refine r_lload dX9_numbersKeeping_115 rfl ?_
        refine r_lconst (v := 1) dX9_numbersKeeping_117 rfl ?_
        refine r_iload dX9_numbersKeeping_118 rfl ?_
        have ob13 := H.1
        have H := H.2
        refine r_lshl dX9_numbersKeeping_120 ob13 ?_
        refine r_lor dX9_numbersKeeping_121 ?_
        refine r_lstore dX9_numbersKeeping_122 (by decide) rfl ?_
        refine r_iinc dX9_numbersKeeping_124 (by decide) rfl rfl ?_
        refine r_goto (tgt := 68) dX9_numbersKeeping_127 (by decide) ?_
        refine r_drop (ls2 := [none, some (ax_i x1), none, none, none, none, some (ax_i x6), some (ax_i x7), some (ax_i x8), some (ax_i x9), some (ax_i x10), some (ax_l (ax_lor x11 (2 ^ (x13).toNat))), none, some (ax_i (x13 + 1)), none, none]) ?_ (ax_leN (ax_leS (ax_leN (ax_leN (ax_leN (ax_leN (ax_leS (ax_leS (ax_leS (ax_leS (ax_leS (ax_leS (ax_leN (ax_leS (ax_leN (ax_leN ax_leE))))))))))))))))
        exact H
