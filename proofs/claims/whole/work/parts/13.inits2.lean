theorem in_2 {d : Nat} : Rn (d + 1, 1, 18, none) kX9_init 0 [some (ax_r 2)] [] Sh2 Hp0 (fun v S9 I9 => v = none ∧ S9 = Sh4 ∧ I9 = Hp0) := by
  refine r_aload_n dX9_init_0 rfl ?_
  refine r_objInit (by simp) (fun _ => Nat.le_of_ble_eq_true rfl) wX9_3 wOi wOc dX9_init_1 ?_
  refine r_aload_n dX9_init_4 rfl ?_
  refine r_bipush (v := 18) dX9_init_5 (by decide) ?_
  refine i_newI (N := 18) (by decide) (by decide) 3 Sh2_l Sh3 Hp0 (by decide +kernel) (ax_zr_id (by intro k; rfl)) (by decide) Sh2_c (ca := 0) (sa := 0) rfl rfl (by decide) (by decide) wArrI dX9_init_7 ?_
  refine i_putF clX9 0 (by decide) (show Sh3[2]? = some (9, 1, [none]) by decide +kernel) (by decide) rfl rfl rfl rfl (fun _ => rfl) (fun _ => rfl) wX9_9 Sh4 (by decide +kernel) dX9_init_9 ?_
  exact r_vret dX9_init_12 rfl ⟨rfl, rfl, rfl⟩
theorem in_1 {d : Nat} : Rn (d + 2, 8, 4339, none) kX1_init 0 [some (ax_r 1)] [] Sh1 Hp0 (fun v S9 I9 => v = none ∧ S9 = Sh17 ∧ I9 = Hp1) := by
  refine r_aload_n dX1_init_0 rfl ?_
  refine r_objInit (by simp) (fun _ => Nat.le_of_ble_eq_true rfl) wX1_3 wOi wOc dX1_init_1 ?_
  refine r_aload_n dX1_init_4 rfl ?_
  refine i_new clX9 2 Sh1_l Sh2 Hp0 (by decide +kernel) (ax_zr_id (by intro k; rfl)) (by decide) Sh1_c (ca := 7) (sa := 4338) rfl rfl (by decide) (by decide) w_cl_X1_9 wIn9 wNi9 dX1_init_5 ?_
  refine r_dup dX1_init_8 (fun _ => rfl) ?_
  refine r_callA (d := d + 1) (mc := 1) (ms := 18) (as := [ax_r 2]) (how_IN jX9_init jIX9_init rfl rfl rfl wX1_11 dX1_init_9) rfl (Nat.le_refl _) (Nat.le_of_ble_eq_true rfl) (Nat.le_of_ble_eq_true rfl) (Nat.le_of_ble_eq_true rfl) (fun _ => Nat.le_of_ble_eq_true rfl) (by rw [Sh2_l]; decide) (by rw [Sh2_l]; decide) (in_2 (d := d + 0)) (fun v S9 I9 h9 => ?_)
  obtain ⟨rfl, rfl, rfl⟩ := h9
  refine ax_room (ca := 6) (sa := 4320) (by show (7 - 1 : Nat) = 6; decide) (by show (4338 - 18 : Nat) = 4320; decide) ?_
  show Rn _ _ _ _ [ax_r 2, ax_r 1] _ _ _
  refine i_putF clX1 0 (by decide) (show Sh4[1]? = some (1, 10, [none, none, none, none, none, none, none, none, none, none]) by decide +kernel) (by decide) rfl rfl rfl rfl (fun _ => rfl) (fun _ => rfl) wX1_12 Sh5 (by decide +kernel) dX1_init_12 ?_
  refine r_aload_n dX1_init_15 rfl ?_
  refine r_iconst dX1_init_16 ?_
  refine i_putI clX1 1 1 (by decide) (show Sh5[1]? = some (1, 10, [some 2, none, none, none, none, none, none, none, none, none]) by decide +kernel) rfl rfl rfl (by decide) rfl rfl wX1_18 Hp1 rfl dX1_init_17 ?_
  refine r_aload_n dX1_init_20 rfl ?_
  refine r_iconst dX1_init_21 ?_
  refine i_putI clX1 2 2 (by decide) (show Sh5[1]? = some (1, 10, [some 2, none, none, none, none, none, none, none, none, none]) by decide +kernel) rfl rfl rfl (by decide) rfl rfl wX1_22 Hp1 (ax_st_id (by simp [Hp0, Hp1, ax_st])) dX1_init_22 ?_
  refine r_aload_n dX1_init_25 rfl ?_
  refine r_iconst dX1_init_26 ?_
  refine i_putI clX1 3 3 (by decide) (show Sh5[1]? = some (1, 10, [some 2, none, none, none, none, none, none, none, none, none]) by decide +kernel) rfl rfl rfl (by decide) rfl rfl wX1_25 Hp1 (ax_st_id (by simp [Hp0, Hp1, ax_st])) dX1_init_27 ?_
  refine r_aload_n dX1_init_30 rfl ?_
  refine r_sipush (v := 192) dX1_init_31 (by decide) ?_
  refine i_newI (N := 192) (by decide) (by decide) 4 Sh5_l Sh6 Hp1 (by decide +kernel) (ax_zr_id (by intro k; simp [Hp0, Hp1, ax_st])) (by decide) Sh5_c (ca := 5) (sa := 4128) rfl rfl (by decide) (by decide) wArrI dX1_init_34 ?_
  refine i_putF clX1 4 (by decide) (show Sh6[1]? = some (1, 10, [some 2, none, none, none, none, none, none, none, none, none]) by decide +kernel) (by decide) rfl rfl rfl rfl (fun _ => rfl) (fun _ => rfl) wX1_28 Sh7 (by decide +kernel) dX1_init_36 ?_
  refine r_aload_n dX1_init_39 rfl ?_
  refine r_sipush (v := 1024) dX1_init_40 (by decide) ?_
  refine i_newI (N := 1024) (by decide) (by decide) 5 Sh7_l Sh8 Hp1 (by decide +kernel) (ax_zr_id (by intro k; simp [Hp0, Hp1, ax_st])) (by decide) Sh7_c (ca := 4) (sa := 3104) rfl rfl (by decide) (by decide) wArrI dX1_init_43 ?_
  refine i_putF clX1 5 (by decide) (show Sh8[1]? = some (1, 10, [some 2, none, none, none, some 4, none, none, none, none, none]) by decide +kernel) (by decide) rfl rfl rfl rfl (fun _ => rfl) (fun _ => rfl) wX1_32 Sh9 (by decide +kernel) dX1_init_45 ?_
  refine r_aload_n dX1_init_48 rfl ?_
  refine r_bipush (v := 32) dX1_init_49 (by decide) ?_
  refine i_newI (N := 32) (by decide) (by decide) 6 Sh9_l Sh10 Hp1 (by decide +kernel) (ax_zr_id (by intro k; simp [Hp0, Hp1, ax_st])) (by decide) Sh9_c (ca := 3) (sa := 3072) rfl rfl (by decide) (by decide) wArrI dX1_init_51 ?_
  refine i_putF clX1 6 (by decide) (show Sh10[1]? = some (1, 10, [some 2, none, none, none, some 4, some 5, none, none, none, none]) by decide +kernel) (by decide) rfl rfl rfl rfl (fun _ => rfl) (fun _ => rfl) wX1_35 Sh11 (by decide +kernel) dX1_init_53 ?_
  refine r_aload_n dX1_init_56 rfl ?_
  refine r_sipush (v := 1024) dX1_init_57 (by decide) ?_
  refine i_newI (N := 1024) (by decide) (by decide) 7 Sh11_l Sh12 Hp1 (by decide +kernel) (ax_zr_id (by intro k; simp [Hp0, Hp1, ax_st])) (by decide) Sh11_c (ca := 2) (sa := 2048) rfl rfl (by decide) (by decide) wArrI dX1_init_60 ?_
  refine i_putF clX1 7 (by decide) (show Sh12[1]? = some (1, 10, [some 2, none, none, none, some 4, some 5, some 6, none, none, none]) by decide +kernel) (by decide) rfl rfl rfl rfl (fun _ => rfl) (fun _ => rfl) wX1_38 Sh13 (by decide +kernel) dX1_init_62 ?_
  refine r_aload_n dX1_init_65 rfl ?_
  refine r_sipush (v := 1024) dX1_init_66 (by decide) ?_
  refine i_newZ (N := 1024) (by decide) (by decide) 8 Sh13_l Sh14 Hp1 (by decide +kernel) (ax_zr_id (by intro k; simp [Hp0, Hp1, ax_st])) (by decide) Sh13_c (ca := 1) (sa := 1024) rfl rfl (by decide) (by decide) wArrZ dX1_init_69 ?_
  refine i_putF clX1 8 (by decide) (show Sh14[1]? = some (1, 10, [some 2, none, none, none, some 4, some 5, some 6, some 7, none, none]) by decide +kernel) (by decide) rfl rfl rfl rfl (fun _ => rfl) (fun _ => rfl) wX1_41 Sh15 (by decide +kernel) dX1_init_71 ?_
  refine r_aload_n dX1_init_74 rfl ?_
  refine r_sipush (v := 1024) dX1_init_75 (by decide) ?_
  refine i_newI (N := 1024) (by decide) (by decide) 9 Sh15_l Sh16 Hp1 (by decide +kernel) (ax_zr_id (by intro k; simp [Hp0, Hp1, ax_st])) (by decide) Sh15_c (ca := 0) (sa := 0) rfl rfl (by decide) (by decide) wArrI dX1_init_78 ?_
  refine i_putF clX1 9 (by decide) (show Sh16[1]? = some (1, 10, [some 2, none, none, none, some 4, some 5, some 6, some 7, some 8, none]) by decide +kernel) (by decide) rfl rfl rfl rfl (fun _ => rfl) (fun _ => rfl) wX1_45 Sh17 (by decide +kernel) dX1_init_80 ?_
  exact r_vret dX1_init_83 rfl ⟨rfl, rfl, rfl⟩
theorem in_10 {d : Nat} : Rn (d + 1, 4, 4097, none) kX5_init 0 [some (ax_r 10)] [] Sh19 Hp1 (fun v S9 I9 => v = none ∧ S9 = Sh27 ∧ I9 = Hp1) := by
  refine r_aload_n dX5_init_0 rfl ?_
  refine r_objInit (by simp) (fun _ => Nat.le_of_ble_eq_true rfl) wX5_3 wOi wOc dX5_init_1 ?_
  refine r_aload_n dX5_init_4 rfl ?_
  refine r_sipush (v := 1024) dX5_init_5 (by decide) ?_
  refine i_newI (N := 1024) (by decide) (by decide) 11 Sh19_l Sh20 Hp1 (by decide +kernel) (ax_zr_id (by intro k; simp [Hp0, Hp1, ax_st])) (by decide) Sh19_c (ca := 3) (sa := 3073) rfl rfl (by decide) (by decide) wArrI dX5_init_8 ?_
  refine i_putF clX5 0 (by decide) (show Sh20[10]? = some (5, 5, [none, none, none, none, none]) by decide +kernel) (by decide) rfl rfl rfl rfl (fun _ => rfl) (fun _ => rfl) wX5_9 Sh21 (by decide +kernel) dX5_init_10 ?_
  refine r_aload_n dX5_init_13 rfl ?_
  refine r_sipush (v := 1024) dX5_init_14 (by decide) ?_
  refine i_newI (N := 1024) (by decide) (by decide) 12 Sh21_l Sh22 Hp1 (by decide +kernel) (ax_zr_id (by intro k; simp [Hp0, Hp1, ax_st])) (by decide) Sh21_c (ca := 2) (sa := 2049) rfl rfl (by decide) (by decide) wArrI dX5_init_17 ?_
  refine i_putF clX5 1 (by decide) (show Sh22[10]? = some (5, 5, [some 11, none, none, none, none]) by decide +kernel) (by decide) rfl rfl rfl rfl (fun _ => rfl) (fun _ => rfl) wX5_15 Sh23 (by decide +kernel) dX5_init_19 ?_
  refine r_aload_n dX5_init_22 rfl ?_
  refine r_sipush (v := 1024) dX5_init_23 (by decide) ?_
  refine i_newI (N := 1024) (by decide) (by decide) 13 Sh23_l Sh24 Hp1 (by decide +kernel) (ax_zr_id (by intro k; simp [Hp0, Hp1, ax_st])) (by decide) Sh23_c (ca := 1) (sa := 1025) rfl rfl (by decide) (by decide) wArrI dX5_init_26 ?_
  refine i_putF clX5 2 (by decide) (show Sh24[10]? = some (5, 5, [some 11, some 12, none, none, none]) by decide +kernel) (by decide) rfl rfl rfl rfl (fun _ => rfl) (fun _ => rfl) wX5_18 Sh25 (by decide +kernel) dX5_init_28 ?_
  refine r_aload_n dX5_init_31 rfl ?_
  refine r_sipush (v := 1025) dX5_init_32 (by decide) ?_
  refine i_newI (N := 1025) (by decide) (by decide) 14 Sh25_l Sh26 Hp1 (by decide +kernel) (ax_zr_id (by intro k; simp [Hp0, Hp1, ax_st])) (by decide) Sh25_c (ca := 0) (sa := 0) rfl rfl (by decide) (by decide) wArrI dX5_init_35 ?_
  refine i_putF clX5 3 (by decide) (show Sh26[10]? = some (5, 5, [some 11, some 12, some 13, none, none]) by decide +kernel) (by decide) rfl rfl rfl rfl (fun _ => rfl) (fun _ => rfl) wX5_21 Sh27 (by decide +kernel) dX5_init_37 ?_
  refine r_aload_n dX5_init_40 rfl ?_
  refine r_iconst dX5_init_41 ?_
  refine i_putI clX5 4 4 (by decide) (show Sh27[10]? = some (5, 5, [some 11, some 12, some 13, some 14, none]) by decide +kernel) rfl rfl rfl (by decide) rfl rfl wX5_24 Hp1 (ax_st_id (by simp [Hp0, Hp1, ax_st])) dX5_init_42 ?_
  exact r_vret dX5_init_45 rfl ⟨rfl, rfl, rfl⟩
theorem in_17 {d : Nat} : Rn (d + 1, 1, 1300, none) kX7_init 0 [some (ax_r 17)] [] Sh31 Hp1 (fun v S9 I9 => v = none ∧ S9 = Sh33 ∧ I9 = Hp1) := by
  refine r_aload_n dX7_init_0 rfl ?_
  refine r_objInit (by simp) (fun _ => Nat.le_of_ble_eq_true rfl) wX7_3 wOi wOc dX7_init_1 ?_
  refine r_aload_n dX7_init_4 rfl ?_
  refine r_sipush (v := 1300) dX7_init_5 (by decide) ?_
  refine i_newI (N := 1300) (by decide) (by decide) 18 Sh31_l Sh32 Hp1 (by decide +kernel) (ax_zr_id (by intro k; simp [Hp0, Hp1, ax_st])) (by decide) Sh31_c (ca := 0) (sa := 0) rfl rfl (by decide) (by decide) wArrI dX7_init_8 ?_
  refine i_putF clX7 0 (by decide) (show Sh32[17]? = some (7, 2, [none, none]) by decide +kernel) (by decide) rfl rfl rfl rfl (fun _ => rfl) (fun _ => rfl) wX7_11 Sh33 (by decide +kernel) dX7_init_10 ?_
  refine r_aload_n dX7_init_13 rfl ?_
  refine r_iconst dX7_init_14 ?_
  refine i_putI clX7 1 1 (by decide) (show Sh33[17]? = some (7, 2, [some 18, none]) by decide +kernel) rfl rfl rfl (by decide) rfl rfl wX7_15 Hp1 (ax_st_id (by simp [Hp0, Hp1, ax_st])) dX7_init_15 ?_
  exact r_vret dX7_init_18 rfl ⟨rfl, rfl, rfl⟩
theorem in_19 {d : Nat} : Rn (d + 1, 1, 1300, none) kX7_init 0 [some (ax_r 19)] [] Sh35 Hp1 (fun v S9 I9 => v = none ∧ S9 = Sh37 ∧ I9 = Hp1) := by
  refine r_aload_n dX7_init_0 rfl ?_
  refine r_objInit (by simp) (fun _ => Nat.le_of_ble_eq_true rfl) wX7_3 wOi wOc dX7_init_1 ?_
  refine r_aload_n dX7_init_4 rfl ?_
  refine r_sipush (v := 1300) dX7_init_5 (by decide) ?_
  refine i_newI (N := 1300) (by decide) (by decide) 20 Sh35_l Sh36 Hp1 (by decide +kernel) (ax_zr_id (by intro k; simp [Hp0, Hp1, ax_st])) (by decide) Sh35_c (ca := 0) (sa := 0) rfl rfl (by decide) (by decide) wArrI dX7_init_8 ?_
  refine i_putF clX7 0 (by decide) (show Sh36[19]? = some (7, 2, [none, none]) by decide +kernel) (by decide) rfl rfl rfl rfl (fun _ => rfl) (fun _ => rfl) wX7_11 Sh37 (by decide +kernel) dX7_init_10 ?_
  refine r_aload_n dX7_init_13 rfl ?_
  refine r_iconst dX7_init_14 ?_
  refine i_putI clX7 1 1 (by decide) (show Sh37[19]? = some (7, 2, [some 20, none]) by decide +kernel) rfl rfl rfl (by decide) rfl rfl wX7_15 Hp1 (ax_st_id (by simp [Hp0, Hp1, ax_st])) dX7_init_15 ?_
  exact r_vret dX7_init_18 rfl ⟨rfl, rfl, rfl⟩
theorem in_16 {d : Nat} : Rn (d + 2, 4, 2604, none) kX3_init 0 [some (ax_r 16)] [] Sh30 Hp1 (fun v S9 I9 => v = none ∧ S9 = Sh38 ∧ I9 = Hp1) := by
  refine r_aload_n dX3_init_0 rfl ?_
  refine r_objInit (by simp) (fun _ => Nat.le_of_ble_eq_true rfl) wX3_1 wOi wOc dX3_init_1 ?_
  refine r_aload_n dX3_init_4 rfl ?_
  refine i_new clX7 17 Sh30_l Sh31 Hp1 (by decide +kernel) (ax_zr_id (by intro k; simp [Hp0, Hp1, ax_st])) (by decide) Sh30_c (ca := 3) (sa := 2602) rfl rfl (by decide) (by decide) w_cl_X3_7 wIn7 wNi7 dX3_init_5 ?_
  refine r_dup dX3_init_8 (fun _ => rfl) ?_
  refine r_callA (d := d + 1) (mc := 1) (ms := 1300) (as := [ax_r 17]) (how_IN jX7_init jIX7_init rfl rfl rfl wX3_9 dX3_init_9) rfl (Nat.le_refl _) (Nat.le_of_ble_eq_true rfl) (Nat.le_of_ble_eq_true rfl) (Nat.le_of_ble_eq_true rfl) (fun _ => Nat.le_of_ble_eq_true rfl) (by rw [Sh31_l]; decide) (by rw [Sh31_l]; decide) (in_17 (d := d + 0)) (fun v S9 I9 h9 => ?_)
  obtain ⟨rfl, rfl, rfl⟩ := h9
  refine ax_room (ca := 2) (sa := 1302) (by show (3 - 1 : Nat) = 2; decide) (by show (2602 - 1300 : Nat) = 1302; decide) ?_
  show Rn _ _ _ _ [ax_r 17, ax_r 16] _ _ _
  refine i_putF clX3 0 (by decide) (show Sh33[16]? = some (3, 2, [none, none]) by decide +kernel) (by decide) rfl rfl rfl rfl (fun _ => rfl) (fun _ => rfl) wX3_10 Sh34 (by decide +kernel) dX3_init_12 ?_
  refine r_aload_n dX3_init_15 rfl ?_
  refine i_new clX7 19 Sh34_l Sh35 Hp1 (by decide +kernel) (ax_zr_id (by intro k; simp [Hp0, Hp1, ax_st])) (by decide) Sh34_c (ca := 1) (sa := 1300) rfl rfl (by decide) (by decide) w_cl_X3_7 wIn7 wNi7 dX3_init_16 ?_
  refine r_dup dX3_init_19 (fun _ => rfl) ?_
  refine r_callA (d := d + 1) (mc := 1) (ms := 1300) (as := [ax_r 19]) (how_IN jX7_init jIX7_init rfl rfl rfl wX3_9 dX3_init_20) rfl (Nat.le_refl _) (Nat.le_of_ble_eq_true rfl) (Nat.le_of_ble_eq_true rfl) (Nat.le_of_ble_eq_true rfl) (fun _ => Nat.le_of_ble_eq_true rfl) (by rw [Sh35_l]; decide) (by rw [Sh35_l]; decide) (in_19 (d := d + 0)) (fun v S9 I9 h9 => ?_)
  obtain ⟨rfl, rfl, rfl⟩ := h9
  refine ax_room (ca := 0) (sa := 0) (by show (1 - 1 : Nat) = 0; decide) (by show (1300 - 1300 : Nat) = 0; decide) ?_
  show Rn _ _ _ _ [ax_r 19, ax_r 16] _ _ _
  refine i_putF clX3 1 (by decide) (show Sh37[16]? = some (3, 2, [some 17, none]) by decide +kernel) (by decide) rfl rfl rfl rfl (fun _ => rfl) (fun _ => rfl) wX3_16 Sh38 (by decide +kernel) dX3_init_23 ?_
  exact r_vret dX3_init_26 rfl ⟨rfl, rfl, rfl⟩
theorem in_22 {d : Nat} : Rn (d + 1, 1, 1300, none) kX7_init 0 [some (ax_r 22)] [] Sh41 Hp1 (fun v S9 I9 => v = none ∧ S9 = Sh43 ∧ I9 = Hp1) := by
  refine r_aload_n dX7_init_0 rfl ?_
  refine r_objInit (by simp) (fun _ => Nat.le_of_ble_eq_true rfl) wX7_3 wOi wOc dX7_init_1 ?_
  refine r_aload_n dX7_init_4 rfl ?_
  refine r_sipush (v := 1300) dX7_init_5 (by decide) ?_
  refine i_newI (N := 1300) (by decide) (by decide) 23 Sh41_l Sh42 Hp1 (by decide +kernel) (ax_zr_id (by intro k; simp [Hp0, Hp1, ax_st])) (by decide) Sh41_c (ca := 0) (sa := 0) rfl rfl (by decide) (by decide) wArrI dX7_init_8 ?_
  refine i_putF clX7 0 (by decide) (show Sh42[22]? = some (7, 2, [none, none]) by decide +kernel) (by decide) rfl rfl rfl rfl (fun _ => rfl) (fun _ => rfl) wX7_11 Sh43 (by decide +kernel) dX7_init_10 ?_
  refine r_aload_n dX7_init_13 rfl ?_
  refine r_iconst dX7_init_14 ?_
  refine i_putI clX7 1 1 (by decide) (show Sh43[22]? = some (7, 2, [some 23, none]) by decide +kernel) rfl rfl rfl (by decide) rfl rfl wX7_15 Hp1 (ax_st_id (by simp [Hp0, Hp1, ax_st])) dX7_init_15 ?_
  exact r_vret dX7_init_18 rfl ⟨rfl, rfl, rfl⟩
theorem in_24 {d : Nat} : Rn (d + 1, 1, 1300, none) kX7_init 0 [some (ax_r 24)] [] Sh45 Hp1 (fun v S9 I9 => v = none ∧ S9 = Sh47 ∧ I9 = Hp1) := by
  refine r_aload_n dX7_init_0 rfl ?_
  refine r_objInit (by simp) (fun _ => Nat.le_of_ble_eq_true rfl) wX7_3 wOi wOc dX7_init_1 ?_
  refine r_aload_n dX7_init_4 rfl ?_
  refine r_sipush (v := 1300) dX7_init_5 (by decide) ?_
  refine i_newI (N := 1300) (by decide) (by decide) 25 Sh45_l Sh46 Hp1 (by decide +kernel) (ax_zr_id (by intro k; simp [Hp0, Hp1, ax_st])) (by decide) Sh45_c (ca := 0) (sa := 0) rfl rfl (by decide) (by decide) wArrI dX7_init_8 ?_
  refine i_putF clX7 0 (by decide) (show Sh46[24]? = some (7, 2, [none, none]) by decide +kernel) (by decide) rfl rfl rfl rfl (fun _ => rfl) (fun _ => rfl) wX7_11 Sh47 (by decide +kernel) dX7_init_10 ?_
  refine r_aload_n dX7_init_13 rfl ?_
  refine r_iconst dX7_init_14 ?_
  refine i_putI clX7 1 1 (by decide) (show Sh47[24]? = some (7, 2, [some 25, none]) by decide +kernel) rfl rfl rfl (by decide) rfl rfl wX7_15 Hp1 (ax_st_id (by simp [Hp0, Hp1, ax_st])) dX7_init_15 ?_
  exact r_vret dX7_init_18 rfl ⟨rfl, rfl, rfl⟩
theorem in_21 {d : Nat} : Rn (d + 2, 4, 2604, none) kX3_init 0 [some (ax_r 21)] [] Sh40 Hp1 (fun v S9 I9 => v = none ∧ S9 = Sh48 ∧ I9 = Hp1) := by
  refine r_aload_n dX3_init_0 rfl ?_
  refine r_objInit (by simp) (fun _ => Nat.le_of_ble_eq_true rfl) wX3_1 wOi wOc dX3_init_1 ?_
  refine r_aload_n dX3_init_4 rfl ?_
  refine i_new clX7 22 Sh40_l Sh41 Hp1 (by decide +kernel) (ax_zr_id (by intro k; simp [Hp0, Hp1, ax_st])) (by decide) Sh40_c (ca := 3) (sa := 2602) rfl rfl (by decide) (by decide) w_cl_X3_7 wIn7 wNi7 dX3_init_5 ?_
  refine r_dup dX3_init_8 (fun _ => rfl) ?_
  refine r_callA (d := d + 1) (mc := 1) (ms := 1300) (as := [ax_r 22]) (how_IN jX7_init jIX7_init rfl rfl rfl wX3_9 dX3_init_9) rfl (Nat.le_refl _) (Nat.le_of_ble_eq_true rfl) (Nat.le_of_ble_eq_true rfl) (Nat.le_of_ble_eq_true rfl) (fun _ => Nat.le_of_ble_eq_true rfl) (by rw [Sh41_l]; decide) (by rw [Sh41_l]; decide) (in_22 (d := d + 0)) (fun v S9 I9 h9 => ?_)
  obtain ⟨rfl, rfl, rfl⟩ := h9
  refine ax_room (ca := 2) (sa := 1302) (by show (3 - 1 : Nat) = 2; decide) (by show (2602 - 1300 : Nat) = 1302; decide) ?_
  show Rn _ _ _ _ [ax_r 22, ax_r 21] _ _ _
  refine i_putF clX3 0 (by decide) (show Sh43[21]? = some (3, 2, [none, none]) by decide +kernel) (by decide) rfl rfl rfl rfl (fun _ => rfl) (fun _ => rfl) wX3_10 Sh44 (by decide +kernel) dX3_init_12 ?_
  refine r_aload_n dX3_init_15 rfl ?_
  refine i_new clX7 24 Sh44_l Sh45 Hp1 (by decide +kernel) (ax_zr_id (by intro k; simp [Hp0, Hp1, ax_st])) (by decide) Sh44_c (ca := 1) (sa := 1300) rfl rfl (by decide) (by decide) w_cl_X3_7 wIn7 wNi7 dX3_init_16 ?_
  refine r_dup dX3_init_19 (fun _ => rfl) ?_
  refine r_callA (d := d + 1) (mc := 1) (ms := 1300) (as := [ax_r 24]) (how_IN jX7_init jIX7_init rfl rfl rfl wX3_9 dX3_init_20) rfl (Nat.le_refl _) (Nat.le_of_ble_eq_true rfl) (Nat.le_of_ble_eq_true rfl) (Nat.le_of_ble_eq_true rfl) (fun _ => Nat.le_of_ble_eq_true rfl) (by rw [Sh45_l]; decide) (by rw [Sh45_l]; decide) (in_24 (d := d + 0)) (fun v S9 I9 h9 => ?_)
  obtain ⟨rfl, rfl, rfl⟩ := h9
  refine ax_room (ca := 0) (sa := 0) (by show (1 - 1 : Nat) = 0; decide) (by show (1300 - 1300 : Nat) = 0; decide) ?_
  show Rn _ _ _ _ [ax_r 24, ax_r 21] _ _ _
  refine i_putF clX3 1 (by decide) (show Sh47[21]? = some (3, 2, [some 22, none]) by decide +kernel) (by decide) rfl rfl rfl rfl (fun _ => rfl) (fun _ => rfl) wX3_16 Sh48 (by decide +kernel) dX3_init_23 ?_
  exact r_vret dX3_init_26 rfl ⟨rfl, rfl, rfl⟩
theorem in_27 {d : Nat} : Rn (d + 1, 1, 1300, none) kX7_init 0 [some (ax_r 27)] [] Sh51 Hp1 (fun v S9 I9 => v = none ∧ S9 = Sh53 ∧ I9 = Hp1) := by
  refine r_aload_n dX7_init_0 rfl ?_
  refine r_objInit (by simp) (fun _ => Nat.le_of_ble_eq_true rfl) wX7_3 wOi wOc dX7_init_1 ?_
  refine r_aload_n dX7_init_4 rfl ?_
  refine r_sipush (v := 1300) dX7_init_5 (by decide) ?_
  refine i_newI (N := 1300) (by decide) (by decide) 28 Sh51_l Sh52 Hp1 (by decide +kernel) (ax_zr_id (by intro k; simp [Hp0, Hp1, ax_st])) (by decide) Sh51_c (ca := 0) (sa := 0) rfl rfl (by decide) (by decide) wArrI dX7_init_8 ?_
  refine i_putF clX7 0 (by decide) (show Sh52[27]? = some (7, 2, [none, none]) by decide +kernel) (by decide) rfl rfl rfl rfl (fun _ => rfl) (fun _ => rfl) wX7_11 Sh53 (by decide +kernel) dX7_init_10 ?_
  refine r_aload_n dX7_init_13 rfl ?_
  refine r_iconst dX7_init_14 ?_
  refine i_putI clX7 1 1 (by decide) (show Sh53[27]? = some (7, 2, [some 28, none]) by decide +kernel) rfl rfl rfl (by decide) rfl rfl wX7_15 Hp1 (ax_st_id (by simp [Hp0, Hp1, ax_st])) dX7_init_15 ?_
  exact r_vret dX7_init_18 rfl ⟨rfl, rfl, rfl⟩
theorem in_29 {d : Nat} : Rn (d + 1, 1, 1300, none) kX7_init 0 [some (ax_r 29)] [] Sh55 Hp1 (fun v S9 I9 => v = none ∧ S9 = Sh57 ∧ I9 = Hp1) := by
  refine r_aload_n dX7_init_0 rfl ?_
  refine r_objInit (by simp) (fun _ => Nat.le_of_ble_eq_true rfl) wX7_3 wOi wOc dX7_init_1 ?_
  refine r_aload_n dX7_init_4 rfl ?_
  refine r_sipush (v := 1300) dX7_init_5 (by decide) ?_
  refine i_newI (N := 1300) (by decide) (by decide) 30 Sh55_l Sh56 Hp1 (by decide +kernel) (ax_zr_id (by intro k; simp [Hp0, Hp1, ax_st])) (by decide) Sh55_c (ca := 0) (sa := 0) rfl rfl (by decide) (by decide) wArrI dX7_init_8 ?_
  refine i_putF clX7 0 (by decide) (show Sh56[29]? = some (7, 2, [none, none]) by decide +kernel) (by decide) rfl rfl rfl rfl (fun _ => rfl) (fun _ => rfl) wX7_11 Sh57 (by decide +kernel) dX7_init_10 ?_
  refine r_aload_n dX7_init_13 rfl ?_
  refine r_iconst dX7_init_14 ?_
  refine i_putI clX7 1 1 (by decide) (show Sh57[29]? = some (7, 2, [some 30, none]) by decide +kernel) rfl rfl rfl (by decide) rfl rfl wX7_15 Hp1 (ax_st_id (by simp [Hp0, Hp1, ax_st])) dX7_init_15 ?_
  exact r_vret dX7_init_18 rfl ⟨rfl, rfl, rfl⟩
theorem in_31 {d : Nat} : Rn (d + 1, 1, 1300, none) kX7_init 0 [some (ax_r 31)] [] Sh59 Hp1 (fun v S9 I9 => v = none ∧ S9 = Sh61 ∧ I9 = Hp1) := by
  refine r_aload_n dX7_init_0 rfl ?_
  refine r_objInit (by simp) (fun _ => Nat.le_of_ble_eq_true rfl) wX7_3 wOi wOc dX7_init_1 ?_
  refine r_aload_n dX7_init_4 rfl ?_
  refine r_sipush (v := 1300) dX7_init_5 (by decide) ?_
  refine i_newI (N := 1300) (by decide) (by decide) 32 Sh59_l Sh60 Hp1 (by decide +kernel) (ax_zr_id (by intro k; simp [Hp0, Hp1, ax_st])) (by decide) Sh59_c (ca := 0) (sa := 0) rfl rfl (by decide) (by decide) wArrI dX7_init_8 ?_
  refine i_putF clX7 0 (by decide) (show Sh60[31]? = some (7, 2, [none, none]) by decide +kernel) (by decide) rfl rfl rfl rfl (fun _ => rfl) (fun _ => rfl) wX7_11 Sh61 (by decide +kernel) dX7_init_10 ?_
  refine r_aload_n dX7_init_13 rfl ?_
  refine r_iconst dX7_init_14 ?_
  refine i_putI clX7 1 1 (by decide) (show Sh61[31]? = some (7, 2, [some 32, none]) by decide +kernel) rfl rfl rfl (by decide) rfl rfl wX7_15 Hp1 (ax_st_id (by simp [Hp0, Hp1, ax_st])) dX7_init_15 ?_
  exact r_vret dX7_init_18 rfl ⟨rfl, rfl, rfl⟩
theorem in_34 {d : Nat} : Rn (d + 1, 1, 1300, none) kX7_init 0 [some (ax_r 34)] [] Sh65 Hp1 (fun v S9 I9 => v = none ∧ S9 = Sh67 ∧ I9 = Hp1) := by
  refine r_aload_n dX7_init_0 rfl ?_
  refine r_objInit (by simp) (fun _ => Nat.le_of_ble_eq_true rfl) wX7_3 wOi wOc dX7_init_1 ?_
  refine r_aload_n dX7_init_4 rfl ?_
  refine r_sipush (v := 1300) dX7_init_5 (by decide) ?_
  refine i_newI (N := 1300) (by decide) (by decide) 35 Sh65_l Sh66 Hp1 (by decide +kernel) (ax_zr_id (by intro k; simp [Hp0, Hp1, ax_st])) (by decide) Sh65_c (ca := 0) (sa := 0) rfl rfl (by decide) (by decide) wArrI dX7_init_8 ?_
  refine i_putF clX7 0 (by decide) (show Sh66[34]? = some (7, 2, [none, none]) by decide +kernel) (by decide) rfl rfl rfl rfl (fun _ => rfl) (fun _ => rfl) wX7_11 Sh67 (by decide +kernel) dX7_init_10 ?_
  refine r_aload_n dX7_init_13 rfl ?_
  refine r_iconst dX7_init_14 ?_
  refine i_putI clX7 1 1 (by decide) (show Sh67[34]? = some (7, 2, [some 35, none]) by decide +kernel) rfl rfl rfl (by decide) rfl rfl wX7_15 Hp1 (ax_st_id (by simp [Hp0, Hp1, ax_st])) dX7_init_15 ?_
  exact r_vret dX7_init_18 rfl ⟨rfl, rfl, rfl⟩
theorem in_36 {d : Nat} : Rn (d + 1, 1, 1300, none) kX7_init 0 [some (ax_r 36)] [] Sh69 Hp1 (fun v S9 I9 => v = none ∧ S9 = Sh71 ∧ I9 = Hp1) := by
  refine r_aload_n dX7_init_0 rfl ?_
  refine r_objInit (by simp) (fun _ => Nat.le_of_ble_eq_true rfl) wX7_3 wOi wOc dX7_init_1 ?_
  refine r_aload_n dX7_init_4 rfl ?_
  refine r_sipush (v := 1300) dX7_init_5 (by decide) ?_
  refine i_newI (N := 1300) (by decide) (by decide) 37 Sh69_l Sh70 Hp1 (by decide +kernel) (ax_zr_id (by intro k; simp [Hp0, Hp1, ax_st])) (by decide) Sh69_c (ca := 0) (sa := 0) rfl rfl (by decide) (by decide) wArrI dX7_init_8 ?_
  refine i_putF clX7 0 (by decide) (show Sh70[36]? = some (7, 2, [none, none]) by decide +kernel) (by decide) rfl rfl rfl rfl (fun _ => rfl) (fun _ => rfl) wX7_11 Sh71 (by decide +kernel) dX7_init_10 ?_
  refine r_aload_n dX7_init_13 rfl ?_
  refine r_iconst dX7_init_14 ?_
  refine i_putI clX7 1 1 (by decide) (show Sh71[36]? = some (7, 2, [some 37, none]) by decide +kernel) rfl rfl rfl (by decide) rfl rfl wX7_15 Hp1 (ax_st_id (by simp [Hp0, Hp1, ax_st])) dX7_init_15 ?_
  exact r_vret dX7_init_18 rfl ⟨rfl, rfl, rfl⟩
theorem in_38 {d : Nat} : Rn (d + 1, 1, 1300, none) kX7_init 0 [some (ax_r 38)] [] Sh73 Hp1 (fun v S9 I9 => v = none ∧ S9 = Sh75 ∧ I9 = Hp1) := by
  refine r_aload_n dX7_init_0 rfl ?_
  refine r_objInit (by simp) (fun _ => Nat.le_of_ble_eq_true rfl) wX7_3 wOi wOc dX7_init_1 ?_
  refine r_aload_n dX7_init_4 rfl ?_
  refine r_sipush (v := 1300) dX7_init_5 (by decide) ?_
  refine i_newI (N := 1300) (by decide) (by decide) 39 Sh73_l Sh74 Hp1 (by decide +kernel) (ax_zr_id (by intro k; simp [Hp0, Hp1, ax_st])) (by decide) Sh73_c (ca := 0) (sa := 0) rfl rfl (by decide) (by decide) wArrI dX7_init_8 ?_
  refine i_putF clX7 0 (by decide) (show Sh74[38]? = some (7, 2, [none, none]) by decide +kernel) (by decide) rfl rfl rfl rfl (fun _ => rfl) (fun _ => rfl) wX7_11 Sh75 (by decide +kernel) dX7_init_10 ?_
  refine r_aload_n dX7_init_13 rfl ?_
  refine r_iconst dX7_init_14 ?_
  refine i_putI clX7 1 1 (by decide) (show Sh75[38]? = some (7, 2, [some 39, none]) by decide +kernel) rfl rfl rfl (by decide) rfl rfl wX7_15 Hp1 (ax_st_id (by simp [Hp0, Hp1, ax_st])) dX7_init_15 ?_
  exact r_vret dX7_init_18 rfl ⟨rfl, rfl, rfl⟩
theorem in_41 {d : Nat} : Rn (d + 1, 1, 1300, none) kX7_init 0 [some (ax_r 41)] [] Sh79 Hp1 (fun v S9 I9 => v = none ∧ S9 = Sh81 ∧ I9 = Hp1) := by
  refine r_aload_n dX7_init_0 rfl ?_
  refine r_objInit (by simp) (fun _ => Nat.le_of_ble_eq_true rfl) wX7_3 wOi wOc dX7_init_1 ?_
  refine r_aload_n dX7_init_4 rfl ?_
  refine r_sipush (v := 1300) dX7_init_5 (by decide) ?_
  refine i_newI (N := 1300) (by decide) (by decide) 42 Sh79_l Sh80 Hp1 (by decide +kernel) (ax_zr_id (by intro k; simp [Hp0, Hp1, ax_st])) (by decide) Sh79_c (ca := 0) (sa := 0) rfl rfl (by decide) (by decide) wArrI dX7_init_8 ?_
  refine i_putF clX7 0 (by decide) (show Sh80[41]? = some (7, 2, [none, none]) by decide +kernel) (by decide) rfl rfl rfl rfl (fun _ => rfl) (fun _ => rfl) wX7_11 Sh81 (by decide +kernel) dX7_init_10 ?_
  refine r_aload_n dX7_init_13 rfl ?_
  refine r_iconst dX7_init_14 ?_
  refine i_putI clX7 1 1 (by decide) (show Sh81[41]? = some (7, 2, [some 42, none]) by decide +kernel) rfl rfl rfl (by decide) rfl rfl wX7_15 Hp1 (ax_st_id (by simp [Hp0, Hp1, ax_st])) dX7_init_15 ?_
  exact r_vret dX7_init_18 rfl ⟨rfl, rfl, rfl⟩
theorem in_43 {d : Nat} : Rn (d + 1, 1, 1300, none) kX7_init 0 [some (ax_r 43)] [] Sh83 Hp1 (fun v S9 I9 => v = none ∧ S9 = Sh85 ∧ I9 = Hp1) := by
  refine r_aload_n dX7_init_0 rfl ?_
  refine r_objInit (by simp) (fun _ => Nat.le_of_ble_eq_true rfl) wX7_3 wOi wOc dX7_init_1 ?_
  refine r_aload_n dX7_init_4 rfl ?_
  refine r_sipush (v := 1300) dX7_init_5 (by decide) ?_
  refine i_newI (N := 1300) (by decide) (by decide) 44 Sh83_l Sh84 Hp1 (by decide +kernel) (ax_zr_id (by intro k; simp [Hp0, Hp1, ax_st])) (by decide) Sh83_c (ca := 0) (sa := 0) rfl rfl (by decide) (by decide) wArrI dX7_init_8 ?_
  refine i_putF clX7 0 (by decide) (show Sh84[43]? = some (7, 2, [none, none]) by decide +kernel) (by decide) rfl rfl rfl rfl (fun _ => rfl) (fun _ => rfl) wX7_11 Sh85 (by decide +kernel) dX7_init_10 ?_
  refine r_aload_n dX7_init_13 rfl ?_
  refine r_iconst dX7_init_14 ?_
  refine i_putI clX7 1 1 (by decide) (show Sh85[43]? = some (7, 2, [some 44, none]) by decide +kernel) rfl rfl rfl (by decide) rfl rfl wX7_15 Hp1 (ax_st_id (by simp [Hp0, Hp1, ax_st])) dX7_init_15 ?_
  exact r_vret dX7_init_18 rfl ⟨rfl, rfl, rfl⟩
theorem in_45 {d : Nat} : Rn (d + 1, 1, 1300, none) kX7_init 0 [some (ax_r 45)] [] Sh87 Hp1 (fun v S9 I9 => v = none ∧ S9 = Sh89 ∧ I9 = Hp1) := by
  refine r_aload_n dX7_init_0 rfl ?_
  refine r_objInit (by simp) (fun _ => Nat.le_of_ble_eq_true rfl) wX7_3 wOi wOc dX7_init_1 ?_
  refine r_aload_n dX7_init_4 rfl ?_
  refine r_sipush (v := 1300) dX7_init_5 (by decide) ?_
  refine i_newI (N := 1300) (by decide) (by decide) 46 Sh87_l Sh88 Hp1 (by decide +kernel) (ax_zr_id (by intro k; simp [Hp0, Hp1, ax_st])) (by decide) Sh87_c (ca := 0) (sa := 0) rfl rfl (by decide) (by decide) wArrI dX7_init_8 ?_
  refine i_putF clX7 0 (by decide) (show Sh88[45]? = some (7, 2, [none, none]) by decide +kernel) (by decide) rfl rfl rfl rfl (fun _ => rfl) (fun _ => rfl) wX7_11 Sh89 (by decide +kernel) dX7_init_10 ?_
  refine r_aload_n dX7_init_13 rfl ?_
  refine r_iconst dX7_init_14 ?_
  refine i_putI clX7 1 1 (by decide) (show Sh89[45]? = some (7, 2, [some 46, none]) by decide +kernel) rfl rfl rfl (by decide) rfl rfl wX7_15 Hp1 (ax_st_id (by simp [Hp0, Hp1, ax_st])) dX7_init_15 ?_
  exact r_vret dX7_init_18 rfl ⟨rfl, rfl, rfl⟩
theorem in_47 {d : Nat} : Rn (d + 1, 1, 1300, none) kX7_init 0 [some (ax_r 47)] [] Sh92 Hp1 (fun v S9 I9 => v = none ∧ S9 = Sh94 ∧ I9 = Hp1) := by
  refine r_aload_n dX7_init_0 rfl ?_
  refine r_objInit (by simp) (fun _ => Nat.le_of_ble_eq_true rfl) wX7_3 wOi wOc dX7_init_1 ?_
  refine r_aload_n dX7_init_4 rfl ?_
  refine r_sipush (v := 1300) dX7_init_5 (by decide) ?_
  refine i_newI (N := 1300) (by decide) (by decide) 48 Sh92_l Sh93 Hp1 (by decide +kernel) (ax_zr_id (by intro k; simp [Hp0, Hp1, ax_st])) (by decide) Sh92_c (ca := 0) (sa := 0) rfl rfl (by decide) (by decide) wArrI dX7_init_8 ?_
  refine i_putF clX7 0 (by decide) (show Sh93[47]? = some (7, 2, [none, none]) by decide +kernel) (by decide) rfl rfl rfl rfl (fun _ => rfl) (fun _ => rfl) wX7_11 Sh94 (by decide +kernel) dX7_init_10 ?_
  refine r_aload_n dX7_init_13 rfl ?_
  refine r_iconst dX7_init_14 ?_
  refine i_putI clX7 1 1 (by decide) (show Sh94[47]? = some (7, 2, [some 48, none]) by decide +kernel) rfl rfl rfl (by decide) rfl rfl wX7_15 Hp1 (ax_st_id (by simp [Hp0, Hp1, ax_st])) dX7_init_15 ?_
  exact r_vret dX7_init_18 rfl ⟨rfl, rfl, rfl⟩
theorem in_49 {d : Nat} : Rn (d + 1, 1, 1300, none) kX7_init 0 [some (ax_r 49)] [] Sh96 Hp1 (fun v S9 I9 => v = none ∧ S9 = Sh98 ∧ I9 = Hp1) := by
  refine r_aload_n dX7_init_0 rfl ?_
  refine r_objInit (by simp) (fun _ => Nat.le_of_ble_eq_true rfl) wX7_3 wOi wOc dX7_init_1 ?_
  refine r_aload_n dX7_init_4 rfl ?_
  refine r_sipush (v := 1300) dX7_init_5 (by decide) ?_
  refine i_newI (N := 1300) (by decide) (by decide) 50 Sh96_l Sh97 Hp1 (by decide +kernel) (ax_zr_id (by intro k; simp [Hp0, Hp1, ax_st])) (by decide) Sh96_c (ca := 0) (sa := 0) rfl rfl (by decide) (by decide) wArrI dX7_init_8 ?_
  refine i_putF clX7 0 (by decide) (show Sh97[49]? = some (7, 2, [none, none]) by decide +kernel) (by decide) rfl rfl rfl rfl (fun _ => rfl) (fun _ => rfl) wX7_11 Sh98 (by decide +kernel) dX7_init_10 ?_
  refine r_aload_n dX7_init_13 rfl ?_
  refine r_iconst dX7_init_14 ?_
  refine i_putI clX7 1 1 (by decide) (show Sh98[49]? = some (7, 2, [some 50, none]) by decide +kernel) rfl rfl rfl (by decide) rfl rfl wX7_15 Hp1 (ax_st_id (by simp [Hp0, Hp1, ax_st])) dX7_init_15 ?_
  exact r_vret dX7_init_18 rfl ⟨rfl, rfl, rfl⟩
theorem in_51 {d : Nat} : Rn (d + 1, 1, 1300, none) kX7_init 0 [some (ax_r 51)] [] Sh100 Hp1 (fun v S9 I9 => v = none ∧ S9 = Sh102 ∧ I9 = Hp1) := by
  refine r_aload_n dX7_init_0 rfl ?_
  refine r_objInit (by simp) (fun _ => Nat.le_of_ble_eq_true rfl) wX7_3 wOi wOc dX7_init_1 ?_
  refine r_aload_n dX7_init_4 rfl ?_
  refine r_sipush (v := 1300) dX7_init_5 (by decide) ?_
  refine i_newI (N := 1300) (by decide) (by decide) 52 Sh100_l Sh101 Hp1 (by decide +kernel) (ax_zr_id (by intro k; simp [Hp0, Hp1, ax_st])) (by decide) Sh100_c (ca := 0) (sa := 0) rfl rfl (by decide) (by decide) wArrI dX7_init_8 ?_
  refine i_putF clX7 0 (by decide) (show Sh101[51]? = some (7, 2, [none, none]) by decide +kernel) (by decide) rfl rfl rfl rfl (fun _ => rfl) (fun _ => rfl) wX7_11 Sh102 (by decide +kernel) dX7_init_10 ?_
  refine r_aload_n dX7_init_13 rfl ?_
  refine r_iconst dX7_init_14 ?_
  refine i_putI clX7 1 1 (by decide) (show Sh102[51]? = some (7, 2, [some 52, none]) by decide +kernel) rfl rfl rfl (by decide) rfl rfl wX7_15 Hp1 (ax_st_id (by simp [Hp0, Hp1, ax_st])) dX7_init_15 ?_
  exact r_vret dX7_init_18 rfl ⟨rfl, rfl, rfl⟩
theorem in_53 {d : Nat} : Rn (d + 1, 1, 1300, none) kX7_init 0 [some (ax_r 53)] [] Sh104 Hp1 (fun v S9 I9 => v = none ∧ S9 = Sh106 ∧ I9 = Hp1) := by
  refine r_aload_n dX7_init_0 rfl ?_
  refine r_objInit (by simp) (fun _ => Nat.le_of_ble_eq_true rfl) wX7_3 wOi wOc dX7_init_1 ?_
  refine r_aload_n dX7_init_4 rfl ?_
  refine r_sipush (v := 1300) dX7_init_5 (by decide) ?_
  refine i_newI (N := 1300) (by decide) (by decide) 54 Sh104_l Sh105 Hp1 (by decide +kernel) (ax_zr_id (by intro k; simp [Hp0, Hp1, ax_st])) (by decide) Sh104_c (ca := 0) (sa := 0) rfl rfl (by decide) (by decide) wArrI dX7_init_8 ?_
  refine i_putF clX7 0 (by decide) (show Sh105[53]? = some (7, 2, [none, none]) by decide +kernel) (by decide) rfl rfl rfl rfl (fun _ => rfl) (fun _ => rfl) wX7_11 Sh106 (by decide +kernel) dX7_init_10 ?_
  refine r_aload_n dX7_init_13 rfl ?_
  refine r_iconst dX7_init_14 ?_
  refine i_putI clX7 1 1 (by decide) (show Sh106[53]? = some (7, 2, [some 54, none]) by decide +kernel) rfl rfl rfl (by decide) rfl rfl wX7_15 Hp1 (ax_st_id (by simp [Hp0, Hp1, ax_st])) dX7_init_15 ?_
  exact r_vret dX7_init_18 rfl ⟨rfl, rfl, rfl⟩
theorem in_55 {d : Nat} : Rn (d + 1, 1, 1300, none) kX7_init 0 [some (ax_r 55)] [] Sh108 Hp1 (fun v S9 I9 => v = none ∧ S9 = Sh110 ∧ I9 = Hp1) := by
  refine r_aload_n dX7_init_0 rfl ?_
  refine r_objInit (by simp) (fun _ => Nat.le_of_ble_eq_true rfl) wX7_3 wOi wOc dX7_init_1 ?_
  refine r_aload_n dX7_init_4 rfl ?_
  refine r_sipush (v := 1300) dX7_init_5 (by decide) ?_
  refine i_newI (N := 1300) (by decide) (by decide) 56 Sh108_l Sh109 Hp1 (by decide +kernel) (ax_zr_id (by intro k; simp [Hp0, Hp1, ax_st])) (by decide) Sh108_c (ca := 0) (sa := 0) rfl rfl (by decide) (by decide) wArrI dX7_init_8 ?_
  refine i_putF clX7 0 (by decide) (show Sh109[55]? = some (7, 2, [none, none]) by decide +kernel) (by decide) rfl rfl rfl rfl (fun _ => rfl) (fun _ => rfl) wX7_11 Sh110 (by decide +kernel) dX7_init_10 ?_
  refine r_aload_n dX7_init_13 rfl ?_
  refine r_iconst dX7_init_14 ?_
  refine i_putI clX7 1 1 (by decide) (show Sh110[55]? = some (7, 2, [some 56, none]) by decide +kernel) rfl rfl rfl (by decide) rfl rfl wX7_15 Hp1 (ax_st_id (by simp [Hp0, Hp1, ax_st])) dX7_init_15 ?_
  exact r_vret dX7_init_18 rfl ⟨rfl, rfl, rfl⟩
theorem in_57 {d : Nat} : Rn (d + 1, 1, 1300, none) kX7_init 0 [some (ax_r 57)] [] Sh112 Hp1 (fun v S9 I9 => v = none ∧ S9 = Sh114 ∧ I9 = Hp1) := by
  refine r_aload_n dX7_init_0 rfl ?_
  refine r_objInit (by simp) (fun _ => Nat.le_of_ble_eq_true rfl) wX7_3 wOi wOc dX7_init_1 ?_
  refine r_aload_n dX7_init_4 rfl ?_
  refine r_sipush (v := 1300) dX7_init_5 (by decide) ?_
  refine i_newI (N := 1300) (by decide) (by decide) 58 Sh112_l Sh113 Hp1 (by decide +kernel) (ax_zr_id (by intro k; simp [Hp0, Hp1, ax_st])) (by decide) Sh112_c (ca := 0) (sa := 0) rfl rfl (by decide) (by decide) wArrI dX7_init_8 ?_
  refine i_putF clX7 0 (by decide) (show Sh113[57]? = some (7, 2, [none, none]) by decide +kernel) (by decide) rfl rfl rfl rfl (fun _ => rfl) (fun _ => rfl) wX7_11 Sh114 (by decide +kernel) dX7_init_10 ?_
  refine r_aload_n dX7_init_13 rfl ?_
  refine r_iconst dX7_init_14 ?_
  refine i_putI clX7 1 1 (by decide) (show Sh114[57]? = some (7, 2, [some 58, none]) by decide +kernel) rfl rfl rfl (by decide) rfl rfl wX7_15 Hp1 (ax_st_id (by simp [Hp0, Hp1, ax_st])) dX7_init_15 ?_
  exact r_vret dX7_init_18 rfl ⟨rfl, rfl, rfl⟩
theorem in_59 {d : Nat} : Rn (d + 1, 1, 1300, none) kX7_init 0 [some (ax_r 59)] [] Sh116 Hp1 (fun v S9 I9 => v = none ∧ S9 = Sh118 ∧ I9 = Hp1) := by
  refine r_aload_n dX7_init_0 rfl ?_
  refine r_objInit (by simp) (fun _ => Nat.le_of_ble_eq_true rfl) wX7_3 wOi wOc dX7_init_1 ?_
  refine r_aload_n dX7_init_4 rfl ?_
  refine r_sipush (v := 1300) dX7_init_5 (by decide) ?_
  refine i_newI (N := 1300) (by decide) (by decide) 60 Sh116_l Sh117 Hp1 (by decide +kernel) (ax_zr_id (by intro k; simp [Hp0, Hp1, ax_st])) (by decide) Sh116_c (ca := 0) (sa := 0) rfl rfl (by decide) (by decide) wArrI dX7_init_8 ?_
  refine i_putF clX7 0 (by decide) (show Sh117[59]? = some (7, 2, [none, none]) by decide +kernel) (by decide) rfl rfl rfl rfl (fun _ => rfl) (fun _ => rfl) wX7_11 Sh118 (by decide +kernel) dX7_init_10 ?_
  refine r_aload_n dX7_init_13 rfl ?_
  refine r_iconst dX7_init_14 ?_
  refine i_putI clX7 1 1 (by decide) (show Sh118[59]? = some (7, 2, [some 60, none]) by decide +kernel) rfl rfl rfl (by decide) rfl rfl wX7_15 Hp1 (ax_st_id (by simp [Hp0, Hp1, ax_st])) dX7_init_15 ?_
  exact r_vret dX7_init_18 rfl ⟨rfl, rfl, rfl⟩
theorem in_61 {d : Nat} : Rn (d + 1, 1, 1300, none) kX7_init 0 [some (ax_r 61)] [] Sh120 Hp1 (fun v S9 I9 => v = none ∧ S9 = Sh122 ∧ I9 = Hp1) := by
  refine r_aload_n dX7_init_0 rfl ?_
  refine r_objInit (by simp) (fun _ => Nat.le_of_ble_eq_true rfl) wX7_3 wOi wOc dX7_init_1 ?_
  refine r_aload_n dX7_init_4 rfl ?_
  refine r_sipush (v := 1300) dX7_init_5 (by decide) ?_
  refine i_newI (N := 1300) (by decide) (by decide) 62 Sh120_l Sh121 Hp1 (by decide +kernel) (ax_zr_id (by intro k; simp [Hp0, Hp1, ax_st])) (by decide) Sh120_c (ca := 0) (sa := 0) rfl rfl (by decide) (by decide) wArrI dX7_init_8 ?_
  refine i_putF clX7 0 (by decide) (show Sh121[61]? = some (7, 2, [none, none]) by decide +kernel) (by decide) rfl rfl rfl rfl (fun _ => rfl) (fun _ => rfl) wX7_11 Sh122 (by decide +kernel) dX7_init_10 ?_
  refine r_aload_n dX7_init_13 rfl ?_
  refine r_iconst dX7_init_14 ?_
  refine i_putI clX7 1 1 (by decide) (show Sh122[61]? = some (7, 2, [some 62, none]) by decide +kernel) rfl rfl rfl (by decide) rfl rfl wX7_15 Hp1 (ax_st_id (by simp [Hp0, Hp1, ax_st])) dX7_init_15 ?_
  exact r_vret dX7_init_18 rfl ⟨rfl, rfl, rfl⟩
theorem in_15 {d : Nat} : Rn (d + 3, 47, 27355, none) kX2_init 0 [some (ax_r 15)] [] Sh29 Hp1 (fun v S9 I9 => v = none ∧ S9 = Sh123 ∧ I9 = Hp1) := by
  refine r_aload_n dX2_init_0 rfl ?_
  refine r_objInit (by simp) (fun _ => Nat.le_of_ble_eq_true rfl) wX2_3 wOi wOc dX2_init_1 ?_
  refine r_aload_n dX2_init_4 rfl ?_
  refine i_new clX3 16 Sh29_l Sh30 Hp1 (by decide +kernel) (ax_zr_id (by intro k; simp [Hp0, Hp1, ax_st])) (by decide) Sh29_c (ca := 46) (sa := 27353) rfl rfl (by decide) (by decide) w_cl_X2_9 wIn3 wNi3 dX2_init_5 ?_
  refine r_dup dX2_init_8 (fun _ => rfl) ?_
  refine r_callA (d := d + 2) (mc := 4) (ms := 2604) (as := [ax_r 16]) (how_IN jX3_init jIX3_init rfl rfl rfl wX2_11 dX2_init_9) rfl (Nat.le_refl _) (Nat.le_of_ble_eq_true rfl) (Nat.le_of_ble_eq_true rfl) (Nat.le_of_ble_eq_true rfl) (fun _ => Nat.le_of_ble_eq_true rfl) (by rw [Sh30_l]; decide) (by rw [Sh30_l]; decide) (in_16 (d := d + 0)) (fun v S9 I9 h9 => ?_)
  obtain ⟨rfl, rfl, rfl⟩ := h9
  refine ax_room (ca := 42) (sa := 24749) (by show (46 - 4 : Nat) = 42; decide) (by show (27353 - 2604 : Nat) = 24749; decide) ?_
  show Rn _ _ _ _ [ax_r 16, ax_r 15] _ _ _
  refine i_putF clX2 0 (by decide) (show Sh38[15]? = some (2, 13, [none, none, none, none, none, none, none, none, none, none, none, none, none]) by decide +kernel) (by decide) rfl rfl rfl rfl (fun _ => rfl) (fun _ => rfl) wX2_12 Sh39 (by decide +kernel) dX2_init_12 ?_
  refine r_aload_n dX2_init_15 rfl ?_
  refine i_new clX3 21 Sh39_l Sh40 Hp1 (by decide +kernel) (ax_zr_id (by intro k; simp [Hp0, Hp1, ax_st])) (by decide) Sh39_c (ca := 41) (sa := 24747) rfl rfl (by decide) (by decide) w_cl_X2_9 wIn3 wNi3 dX2_init_16 ?_
  refine r_dup dX2_init_19 (fun _ => rfl) ?_
  refine r_callA (d := d + 2) (mc := 4) (ms := 2604) (as := [ax_r 21]) (how_IN jX3_init jIX3_init rfl rfl rfl wX2_11 dX2_init_20) rfl (Nat.le_refl _) (Nat.le_of_ble_eq_true rfl) (Nat.le_of_ble_eq_true rfl) (Nat.le_of_ble_eq_true rfl) (fun _ => Nat.le_of_ble_eq_true rfl) (by rw [Sh40_l]; decide) (by rw [Sh40_l]; decide) (in_21 (d := d + 0)) (fun v S9 I9 h9 => ?_)
  obtain ⟨rfl, rfl, rfl⟩ := h9
  refine ax_room (ca := 37) (sa := 22143) (by show (41 - 4 : Nat) = 37; decide) (by show (24747 - 2604 : Nat) = 22143; decide) ?_
  show Rn _ _ _ _ [ax_r 21, ax_r 15] _ _ _
  refine i_putF clX2 1 (by decide) (show Sh48[15]? = some (2, 13, [some 16, none, none, none, none, none, none, none, none, none, none, none, none]) by decide +kernel) (by decide) rfl rfl rfl rfl (fun _ => rfl) (fun _ => rfl) wX2_18 Sh49 (by decide +kernel) dX2_init_23 ?_
  refine r_aload_n dX2_init_26 rfl ?_
  refine r_iconst dX2_init_27 ?_
  refine i_newP (N := 3) (by decide) (by decide) 26 Sh49_l Sh50 Hp1 (by decide +kernel) (ax_zr_id (by intro k; simp [Hp0, Hp1, ax_st])) (by decide) Sh49_c (ca := 36) (sa := 22140) rfl rfl (by decide) (by decide) w_cl_X2_21 wOvP dX2_init_28 ?_
  refine r_dup dX2_init_31 (fun _ => rfl) ?_
  refine r_iconst dX2_init_32 ?_
  refine i_new clX7 27 Sh50_l Sh51 Hp1 (by decide +kernel) (ax_zr_id (by intro k; simp [Hp0, Hp1, ax_st])) (by decide) Sh50_c (ca := 35) (sa := 22138) rfl rfl (by decide) (by decide) w_cl_X2_21 wIn7 wNi7 dX2_init_33 ?_
  refine r_dup dX2_init_36 (fun _ => rfl) ?_
  refine r_callA (d := d + 2) (mc := 1) (ms := 1300) (as := [ax_r 27]) (how_IN jX7_init jIX7_init rfl rfl rfl wX2_23 dX2_init_37) rfl (Nat.le_refl _) (Nat.le_of_ble_eq_true rfl) (Nat.le_of_ble_eq_true rfl) (Nat.le_of_ble_eq_true rfl) (fun _ => Nat.le_of_ble_eq_true rfl) (by rw [Sh51_l]; decide) (by rw [Sh51_l]; decide) (in_27 (d := d + 1)) (fun v S9 I9 h9 => ?_)
  obtain ⟨rfl, rfl, rfl⟩ := h9
  refine ax_room (ca := 34) (sa := 20838) (by show (35 - 1 : Nat) = 34; decide) (by show (22138 - 1300 : Nat) = 20838; decide) ?_
  show Rn _ _ _ _ [ax_r 27, ax_i 0, ax_r 26, ax_r 26, ax_r 15] _ _ _
  refine i_aastP (show Sh53[26]? = some (102, 3, [none, none, none]) by decide +kernel) (show Sh53[27]? = some (7, 2, [some 28, none]) by decide +kernel) rfl (by decide) Sh54 (by decide +kernel) dX2_init_40 (by decide) ?_
  refine r_dup dX2_init_41 (fun _ => rfl) ?_
  refine r_iconst dX2_init_42 ?_
  refine i_new clX7 29 Sh54_l Sh55 Hp1 (by decide +kernel) (ax_zr_id (by intro k; simp [Hp0, Hp1, ax_st])) (by decide) Sh54_c (ca := 33) (sa := 20836) rfl rfl (by decide) (by decide) w_cl_X2_21 wIn7 wNi7 dX2_init_43 ?_
  refine r_dup dX2_init_46 (fun _ => rfl) ?_
  refine r_callA (d := d + 2) (mc := 1) (ms := 1300) (as := [ax_r 29]) (how_IN jX7_init jIX7_init rfl rfl rfl wX2_23 dX2_init_47) rfl (Nat.le_refl _) (Nat.le_of_ble_eq_true rfl) (Nat.le_of_ble_eq_true rfl) (Nat.le_of_ble_eq_true rfl) (fun _ => Nat.le_of_ble_eq_true rfl) (by rw [Sh55_l]; decide) (by rw [Sh55_l]; decide) (in_29 (d := d + 1)) (fun v S9 I9 h9 => ?_)
  obtain ⟨rfl, rfl, rfl⟩ := h9
  refine ax_room (ca := 32) (sa := 19536) (by show (33 - 1 : Nat) = 32; decide) (by show (20836 - 1300 : Nat) = 19536; decide) ?_
  show Rn _ _ _ _ [ax_r 29, ax_i 1, ax_r 26, ax_r 26, ax_r 15] _ _ _
  refine i_aastP (show Sh57[26]? = some (102, 3, [some 27, none, none]) by decide +kernel) (show Sh57[29]? = some (7, 2, [some 30, none]) by decide +kernel) rfl (by decide) Sh58 (by decide +kernel) dX2_init_50 (by decide) ?_
  refine r_dup dX2_init_51 (fun _ => rfl) ?_
  refine r_iconst dX2_init_52 ?_
  refine i_new clX7 31 Sh58_l Sh59 Hp1 (by decide +kernel) (ax_zr_id (by intro k; simp [Hp0, Hp1, ax_st])) (by decide) Sh58_c (ca := 31) (sa := 19534) rfl rfl (by decide) (by decide) w_cl_X2_21 wIn7 wNi7 dX2_init_53 ?_
  refine r_dup dX2_init_56 (fun _ => rfl) ?_
  refine r_callA (d := d + 2) (mc := 1) (ms := 1300) (as := [ax_r 31]) (how_IN jX7_init jIX7_init rfl rfl rfl wX2_23 dX2_init_57) rfl (Nat.le_refl _) (Nat.le_of_ble_eq_true rfl) (Nat.le_of_ble_eq_true rfl) (Nat.le_of_ble_eq_true rfl) (fun _ => Nat.le_of_ble_eq_true rfl) (by rw [Sh59_l]; decide) (by rw [Sh59_l]; decide) (in_31 (d := d + 1)) (fun v S9 I9 h9 => ?_)
  obtain ⟨rfl, rfl, rfl⟩ := h9
  refine ax_room (ca := 30) (sa := 18234) (by show (31 - 1 : Nat) = 30; decide) (by show (19534 - 1300 : Nat) = 18234; decide) ?_
  show Rn _ _ _ _ [ax_r 31, ax_i 2, ax_r 26, ax_r 26, ax_r 15] _ _ _
  refine i_aastP (show Sh61[26]? = some (102, 3, [some 27, some 29, none]) by decide +kernel) (show Sh61[31]? = some (7, 2, [some 32, none]) by decide +kernel) rfl (by decide) Sh62 (by decide +kernel) dX2_init_60 (by decide) ?_
  refine i_putF clX2 2 (by decide) (show Sh62[15]? = some (2, 13, [some 16, some 21, none, none, none, none, none, none, none, none, none, none, none]) by decide +kernel) (by decide) rfl rfl rfl rfl (fun _ => rfl) (fun _ => rfl) wX2_24 Sh63 (by decide +kernel) dX2_init_61 ?_
  refine r_aload_n dX2_init_64 rfl ?_
  refine r_iconst dX2_init_65 ?_
  refine i_newP (N := 3) (by decide) (by decide) 33 Sh63_l Sh64 Hp1 (by decide +kernel) (ax_zr_id (by intro k; simp [Hp0, Hp1, ax_st])) (by decide) Sh63_c (ca := 29) (sa := 18231) rfl rfl (by decide) (by decide) w_cl_X2_21 wOvP dX2_init_66 ?_
  refine r_dup dX2_init_69 (fun _ => rfl) ?_
  refine r_iconst dX2_init_70 ?_
  refine i_new clX7 34 Sh64_l Sh65 Hp1 (by decide +kernel) (ax_zr_id (by intro k; simp [Hp0, Hp1, ax_st])) (by decide) Sh64_c (ca := 28) (sa := 18229) rfl rfl (by decide) (by decide) w_cl_X2_21 wIn7 wNi7 dX2_init_71 ?_
  refine r_dup dX2_init_74 (fun _ => rfl) ?_
  refine r_callA (d := d + 2) (mc := 1) (ms := 1300) (as := [ax_r 34]) (how_IN jX7_init jIX7_init rfl rfl rfl wX2_23 dX2_init_75) rfl (Nat.le_refl _) (Nat.le_of_ble_eq_true rfl) (Nat.le_of_ble_eq_true rfl) (Nat.le_of_ble_eq_true rfl) (fun _ => Nat.le_of_ble_eq_true rfl) (by rw [Sh65_l]; decide) (by rw [Sh65_l]; decide) (in_34 (d := d + 1)) (fun v S9 I9 h9 => ?_)
  obtain ⟨rfl, rfl, rfl⟩ := h9
  refine ax_room (ca := 27) (sa := 16929) (by show (28 - 1 : Nat) = 27; decide) (by show (18229 - 1300 : Nat) = 16929; decide) ?_
  show Rn _ _ _ _ [ax_r 34, ax_i 0, ax_r 33, ax_r 33, ax_r 15] _ _ _
  refine i_aastP (show Sh67[33]? = some (102, 3, [none, none, none]) by decide +kernel) (show Sh67[34]? = some (7, 2, [some 35, none]) by decide +kernel) rfl (by decide) Sh68 (by decide +kernel) dX2_init_78 (by decide) ?_
  refine r_dup dX2_init_79 (fun _ => rfl) ?_
  refine r_iconst dX2_init_80 ?_
  refine i_new clX7 36 Sh68_l Sh69 Hp1 (by decide +kernel) (ax_zr_id (by intro k; simp [Hp0, Hp1, ax_st])) (by decide) Sh68_c (ca := 26) (sa := 16927) rfl rfl (by decide) (by decide) w_cl_X2_21 wIn7 wNi7 dX2_init_81 ?_
  refine r_dup dX2_init_84 (fun _ => rfl) ?_
  refine r_callA (d := d + 2) (mc := 1) (ms := 1300) (as := [ax_r 36]) (how_IN jX7_init jIX7_init rfl rfl rfl wX2_23 dX2_init_85) rfl (Nat.le_refl _) (Nat.le_of_ble_eq_true rfl) (Nat.le_of_ble_eq_true rfl) (Nat.le_of_ble_eq_true rfl) (fun _ => Nat.le_of_ble_eq_true rfl) (by rw [Sh69_l]; decide) (by rw [Sh69_l]; decide) (in_36 (d := d + 1)) (fun v S9 I9 h9 => ?_)
  obtain ⟨rfl, rfl, rfl⟩ := h9
  refine ax_room (ca := 25) (sa := 15627) (by show (26 - 1 : Nat) = 25; decide) (by show (16927 - 1300 : Nat) = 15627; decide) ?_
  show Rn _ _ _ _ [ax_r 36, ax_i 1, ax_r 33, ax_r 33, ax_r 15] _ _ _
  refine i_aastP (show Sh71[33]? = some (102, 3, [some 34, none, none]) by decide +kernel) (show Sh71[36]? = some (7, 2, [some 37, none]) by decide +kernel) rfl (by decide) Sh72 (by decide +kernel) dX2_init_88 (by decide) ?_
  refine r_dup dX2_init_89 (fun _ => rfl) ?_
  refine r_iconst dX2_init_90 ?_
  refine i_new clX7 38 Sh72_l Sh73 Hp1 (by decide +kernel) (ax_zr_id (by intro k; simp [Hp0, Hp1, ax_st])) (by decide) Sh72_c (ca := 24) (sa := 15625) rfl rfl (by decide) (by decide) w_cl_X2_21 wIn7 wNi7 dX2_init_91 ?_
  refine r_dup dX2_init_94 (fun _ => rfl) ?_
  refine r_callA (d := d + 2) (mc := 1) (ms := 1300) (as := [ax_r 38]) (how_IN jX7_init jIX7_init rfl rfl rfl wX2_23 dX2_init_95) rfl (Nat.le_refl _) (Nat.le_of_ble_eq_true rfl) (Nat.le_of_ble_eq_true rfl) (Nat.le_of_ble_eq_true rfl) (fun _ => Nat.le_of_ble_eq_true rfl) (by rw [Sh73_l]; decide) (by rw [Sh73_l]; decide) (in_38 (d := d + 1)) (fun v S9 I9 h9 => ?_)
  obtain ⟨rfl, rfl, rfl⟩ := h9
  refine ax_room (ca := 23) (sa := 14325) (by show (24 - 1 : Nat) = 23; decide) (by show (15625 - 1300 : Nat) = 14325; decide) ?_
  show Rn _ _ _ _ [ax_r 38, ax_i 2, ax_r 33, ax_r 33, ax_r 15] _ _ _
  refine i_aastP (show Sh75[33]? = some (102, 3, [some 34, some 36, none]) by decide +kernel) (show Sh75[38]? = some (7, 2, [some 39, none]) by decide +kernel) rfl (by decide) Sh76 (by decide +kernel) dX2_init_98 (by decide) ?_
  refine i_putF clX2 3 (by decide) (show Sh76[15]? = some (2, 13, [some 16, some 21, some 26, none, none, none, none, none, none, none, none, none, none]) by decide +kernel) (by decide) rfl rfl rfl rfl (fun _ => rfl) (fun _ => rfl) wX2_28 Sh77 (by decide +kernel) dX2_init_99 ?_
  refine r_aload_n dX2_init_102 rfl ?_
  refine r_iconst dX2_init_103 ?_
  refine i_newP (N := 3) (by decide) (by decide) 40 Sh77_l Sh78 Hp1 (by decide +kernel) (ax_zr_id (by intro k; simp [Hp0, Hp1, ax_st])) (by decide) Sh77_c (ca := 22) (sa := 14322) rfl rfl (by decide) (by decide) w_cl_X2_21 wOvP dX2_init_104 ?_
  refine r_dup dX2_init_107 (fun _ => rfl) ?_
  refine r_iconst dX2_init_108 ?_
  refine i_new clX7 41 Sh78_l Sh79 Hp1 (by decide +kernel) (ax_zr_id (by intro k; simp [Hp0, Hp1, ax_st])) (by decide) Sh78_c (ca := 21) (sa := 14320) rfl rfl (by decide) (by decide) w_cl_X2_21 wIn7 wNi7 dX2_init_109 ?_
  refine r_dup dX2_init_112 (fun _ => rfl) ?_
  refine r_callA (d := d + 2) (mc := 1) (ms := 1300) (as := [ax_r 41]) (how_IN jX7_init jIX7_init rfl rfl rfl wX2_23 dX2_init_113) rfl (Nat.le_refl _) (Nat.le_of_ble_eq_true rfl) (Nat.le_of_ble_eq_true rfl) (Nat.le_of_ble_eq_true rfl) (fun _ => Nat.le_of_ble_eq_true rfl) (by rw [Sh79_l]; decide) (by rw [Sh79_l]; decide) (in_41 (d := d + 1)) (fun v S9 I9 h9 => ?_)
  obtain ⟨rfl, rfl, rfl⟩ := h9
  refine ax_room (ca := 20) (sa := 13020) (by show (21 - 1 : Nat) = 20; decide) (by show (14320 - 1300 : Nat) = 13020; decide) ?_
  show Rn _ _ _ _ [ax_r 41, ax_i 0, ax_r 40, ax_r 40, ax_r 15] _ _ _
  refine i_aastP (show Sh81[40]? = some (102, 3, [none, none, none]) by decide +kernel) (show Sh81[41]? = some (7, 2, [some 42, none]) by decide +kernel) rfl (by decide) Sh82 (by decide +kernel) dX2_init_116 (by decide) ?_
  refine r_dup dX2_init_117 (fun _ => rfl) ?_
  refine r_iconst dX2_init_118 ?_
  refine i_new clX7 43 Sh82_l Sh83 Hp1 (by decide +kernel) (ax_zr_id (by intro k; simp [Hp0, Hp1, ax_st])) (by decide) Sh82_c (ca := 19) (sa := 13018) rfl rfl (by decide) (by decide) w_cl_X2_21 wIn7 wNi7 dX2_init_119 ?_
  refine r_dup dX2_init_122 (fun _ => rfl) ?_
  refine r_callA (d := d + 2) (mc := 1) (ms := 1300) (as := [ax_r 43]) (how_IN jX7_init jIX7_init rfl rfl rfl wX2_23 dX2_init_123) rfl (Nat.le_refl _) (Nat.le_of_ble_eq_true rfl) (Nat.le_of_ble_eq_true rfl) (Nat.le_of_ble_eq_true rfl) (fun _ => Nat.le_of_ble_eq_true rfl) (by rw [Sh83_l]; decide) (by rw [Sh83_l]; decide) (in_43 (d := d + 1)) (fun v S9 I9 h9 => ?_)
  obtain ⟨rfl, rfl, rfl⟩ := h9
  refine ax_room (ca := 18) (sa := 11718) (by show (19 - 1 : Nat) = 18; decide) (by show (13018 - 1300 : Nat) = 11718; decide) ?_
  show Rn _ _ _ _ [ax_r 43, ax_i 1, ax_r 40, ax_r 40, ax_r 15] _ _ _
  refine i_aastP (show Sh85[40]? = some (102, 3, [some 41, none, none]) by decide +kernel) (show Sh85[43]? = some (7, 2, [some 44, none]) by decide +kernel) rfl (by decide) Sh86 (by decide +kernel) dX2_init_126 (by decide) ?_
  refine r_dup dX2_init_127 (fun _ => rfl) ?_
  refine r_iconst dX2_init_128 ?_
  refine i_new clX7 45 Sh86_l Sh87 Hp1 (by decide +kernel) (ax_zr_id (by intro k; simp [Hp0, Hp1, ax_st])) (by decide) Sh86_c (ca := 17) (sa := 11716) rfl rfl (by decide) (by decide) w_cl_X2_21 wIn7 wNi7 dX2_init_129 ?_
  refine r_dup dX2_init_132 (fun _ => rfl) ?_
  refine r_callA (d := d + 2) (mc := 1) (ms := 1300) (as := [ax_r 45]) (how_IN jX7_init jIX7_init rfl rfl rfl wX2_23 dX2_init_133) rfl (Nat.le_refl _) (Nat.le_of_ble_eq_true rfl) (Nat.le_of_ble_eq_true rfl) (Nat.le_of_ble_eq_true rfl) (fun _ => Nat.le_of_ble_eq_true rfl) (by rw [Sh87_l]; decide) (by rw [Sh87_l]; decide) (in_45 (d := d + 1)) (fun v S9 I9 h9 => ?_)
  obtain ⟨rfl, rfl, rfl⟩ := h9
  refine ax_room (ca := 16) (sa := 10416) (by show (17 - 1 : Nat) = 16; decide) (by show (11716 - 1300 : Nat) = 10416; decide) ?_
  show Rn _ _ _ _ [ax_r 45, ax_i 2, ax_r 40, ax_r 40, ax_r 15] _ _ _
  refine i_aastP (show Sh89[40]? = some (102, 3, [some 41, some 43, none]) by decide +kernel) (show Sh89[45]? = some (7, 2, [some 46, none]) by decide +kernel) rfl (by decide) Sh90 (by decide +kernel) dX2_init_136 (by decide) ?_
  refine i_putF clX2 4 (by decide) (show Sh90[15]? = some (2, 13, [some 16, some 21, some 26, some 33, none, none, none, none, none, none, none, none, none]) by decide +kernel) (by decide) rfl rfl rfl rfl (fun _ => rfl) (fun _ => rfl) wX2_31 Sh91 (by decide +kernel) dX2_init_137 ?_
  refine r_aload_n dX2_init_140 rfl ?_
  refine i_new clX7 47 Sh91_l Sh92 Hp1 (by decide +kernel) (ax_zr_id (by intro k; simp [Hp0, Hp1, ax_st])) (by decide) Sh91_c (ca := 15) (sa := 10414) rfl rfl (by decide) (by decide) w_cl_X2_21 wIn7 wNi7 dX2_init_141 ?_
  refine r_dup dX2_init_144 (fun _ => rfl) ?_
  refine r_callA (d := d + 2) (mc := 1) (ms := 1300) (as := [ax_r 47]) (how_IN jX7_init jIX7_init rfl rfl rfl wX2_23 dX2_init_145) rfl (Nat.le_refl _) (Nat.le_of_ble_eq_true rfl) (Nat.le_of_ble_eq_true rfl) (Nat.le_of_ble_eq_true rfl) (fun _ => Nat.le_of_ble_eq_true rfl) (by rw [Sh92_l]; decide) (by rw [Sh92_l]; decide) (in_47 (d := d + 1)) (fun v S9 I9 h9 => ?_)
  obtain ⟨rfl, rfl, rfl⟩ := h9
  refine ax_room (ca := 14) (sa := 9114) (by show (15 - 1 : Nat) = 14; decide) (by show (10414 - 1300 : Nat) = 9114; decide) ?_
  show Rn _ _ _ _ [ax_r 47, ax_r 15] _ _ _
  refine i_putF clX2 5 (by decide) (show Sh94[15]? = some (2, 13, [some 16, some 21, some 26, some 33, some 40, none, none, none, none, none, none, none, none]) by decide +kernel) (by decide) rfl rfl rfl rfl (fun _ => rfl) (fun _ => rfl) wX2_34 Sh95 (by decide +kernel) dX2_init_148 ?_
  refine r_aload_n dX2_init_151 rfl ?_
  refine i_new clX7 49 Sh95_l Sh96 Hp1 (by decide +kernel) (ax_zr_id (by intro k; simp [Hp0, Hp1, ax_st])) (by decide) Sh95_c (ca := 13) (sa := 9112) rfl rfl (by decide) (by decide) w_cl_X2_21 wIn7 wNi7 dX2_init_152 ?_
  refine r_dup dX2_init_155 (fun _ => rfl) ?_
  refine r_callA (d := d + 2) (mc := 1) (ms := 1300) (as := [ax_r 49]) (how_IN jX7_init jIX7_init rfl rfl rfl wX2_23 dX2_init_156) rfl (Nat.le_refl _) (Nat.le_of_ble_eq_true rfl) (Nat.le_of_ble_eq_true rfl) (Nat.le_of_ble_eq_true rfl) (fun _ => Nat.le_of_ble_eq_true rfl) (by rw [Sh96_l]; decide) (by rw [Sh96_l]; decide) (in_49 (d := d + 1)) (fun v S9 I9 h9 => ?_)
  obtain ⟨rfl, rfl, rfl⟩ := h9
  refine ax_room (ca := 12) (sa := 7812) (by show (13 - 1 : Nat) = 12; decide) (by show (9112 - 1300 : Nat) = 7812; decide) ?_
  show Rn _ _ _ _ [ax_r 49, ax_r 15] _ _ _
  refine i_putF clX2 6 (by decide) (show Sh98[15]? = some (2, 13, [some 16, some 21, some 26, some 33, some 40, some 47, none, none, none, none, none, none, none]) by decide +kernel) (by decide) rfl rfl rfl rfl (fun _ => rfl) (fun _ => rfl) wX2_38 Sh99 (by decide +kernel) dX2_init_159 ?_
  refine r_aload_n dX2_init_162 rfl ?_
  refine i_new clX7 51 Sh99_l Sh100 Hp1 (by decide +kernel) (ax_zr_id (by intro k; simp [Hp0, Hp1, ax_st])) (by decide) Sh99_c (ca := 11) (sa := 7810) rfl rfl (by decide) (by decide) w_cl_X2_21 wIn7 wNi7 dX2_init_163 ?_
  refine r_dup dX2_init_166 (fun _ => rfl) ?_
  refine r_callA (d := d + 2) (mc := 1) (ms := 1300) (as := [ax_r 51]) (how_IN jX7_init jIX7_init rfl rfl rfl wX2_23 dX2_init_167) rfl (Nat.le_refl _) (Nat.le_of_ble_eq_true rfl) (Nat.le_of_ble_eq_true rfl) (Nat.le_of_ble_eq_true rfl) (fun _ => Nat.le_of_ble_eq_true rfl) (by rw [Sh100_l]; decide) (by rw [Sh100_l]; decide) (in_51 (d := d + 1)) (fun v S9 I9 h9 => ?_)
  obtain ⟨rfl, rfl, rfl⟩ := h9
  refine ax_room (ca := 10) (sa := 6510) (by show (11 - 1 : Nat) = 10; decide) (by show (7810 - 1300 : Nat) = 6510; decide) ?_
  show Rn _ _ _ _ [ax_r 51, ax_r 15] _ _ _
  refine i_putF clX2 7 (by decide) (show Sh102[15]? = some (2, 13, [some 16, some 21, some 26, some 33, some 40, some 47, some 49, none, none, none, none, none, none]) by decide +kernel) (by decide) rfl rfl rfl rfl (fun _ => rfl) (fun _ => rfl) wX2_41 Sh103 (by decide +kernel) dX2_init_170 ?_
  refine r_aload_n dX2_init_173 rfl ?_
  refine i_new clX7 53 Sh103_l Sh104 Hp1 (by decide +kernel) (ax_zr_id (by intro k; simp [Hp0, Hp1, ax_st])) (by decide) Sh103_c (ca := 9) (sa := 6508) rfl rfl (by decide) (by decide) w_cl_X2_21 wIn7 wNi7 dX2_init_174 ?_
  refine r_dup dX2_init_177 (fun _ => rfl) ?_
  refine r_callA (d := d + 2) (mc := 1) (ms := 1300) (as := [ax_r 53]) (how_IN jX7_init jIX7_init rfl rfl rfl wX2_23 dX2_init_178) rfl (Nat.le_refl _) (Nat.le_of_ble_eq_true rfl) (Nat.le_of_ble_eq_true rfl) (Nat.le_of_ble_eq_true rfl) (fun _ => Nat.le_of_ble_eq_true rfl) (by rw [Sh104_l]; decide) (by rw [Sh104_l]; decide) (in_53 (d := d + 1)) (fun v S9 I9 h9 => ?_)
  obtain ⟨rfl, rfl, rfl⟩ := h9
  refine ax_room (ca := 8) (sa := 5208) (by show (9 - 1 : Nat) = 8; decide) (by show (6508 - 1300 : Nat) = 5208; decide) ?_
  show Rn _ _ _ _ [ax_r 53, ax_r 15] _ _ _
  refine i_putF clX2 8 (by decide) (show Sh106[15]? = some (2, 13, [some 16, some 21, some 26, some 33, some 40, some 47, some 49, some 51, none, none, none, none, none]) by decide +kernel) (by decide) rfl rfl rfl rfl (fun _ => rfl) (fun _ => rfl) wX2_44 Sh107 (by decide +kernel) dX2_init_181 ?_
  refine r_aload_n dX2_init_184 rfl ?_
  refine i_new clX7 55 Sh107_l Sh108 Hp1 (by decide +kernel) (ax_zr_id (by intro k; simp [Hp0, Hp1, ax_st])) (by decide) Sh107_c (ca := 7) (sa := 5206) rfl rfl (by decide) (by decide) w_cl_X2_21 wIn7 wNi7 dX2_init_185 ?_
  refine r_dup dX2_init_188 (fun _ => rfl) ?_
  refine r_callA (d := d + 2) (mc := 1) (ms := 1300) (as := [ax_r 55]) (how_IN jX7_init jIX7_init rfl rfl rfl wX2_23 dX2_init_189) rfl (Nat.le_refl _) (Nat.le_of_ble_eq_true rfl) (Nat.le_of_ble_eq_true rfl) (Nat.le_of_ble_eq_true rfl) (fun _ => Nat.le_of_ble_eq_true rfl) (by rw [Sh108_l]; decide) (by rw [Sh108_l]; decide) (in_55 (d := d + 1)) (fun v S9 I9 h9 => ?_)
  obtain ⟨rfl, rfl, rfl⟩ := h9
  refine ax_room (ca := 6) (sa := 3906) (by show (7 - 1 : Nat) = 6; decide) (by show (5206 - 1300 : Nat) = 3906; decide) ?_
  show Rn _ _ _ _ [ax_r 55, ax_r 15] _ _ _
  refine i_putF clX2 9 (by decide) (show Sh110[15]? = some (2, 13, [some 16, some 21, some 26, some 33, some 40, some 47, some 49, some 51, some 53, none, none, none, none]) by decide +kernel) (by decide) rfl rfl rfl rfl (fun _ => rfl) (fun _ => rfl) wX2_47 Sh111 (by decide +kernel) dX2_init_192 ?_
  refine r_aload_n dX2_init_195 rfl ?_
  refine i_new clX7 57 Sh111_l Sh112 Hp1 (by decide +kernel) (ax_zr_id (by intro k; simp [Hp0, Hp1, ax_st])) (by decide) Sh111_c (ca := 5) (sa := 3904) rfl rfl (by decide) (by decide) w_cl_X2_21 wIn7 wNi7 dX2_init_196 ?_
  refine r_dup dX2_init_199 (fun _ => rfl) ?_
  refine r_callA (d := d + 2) (mc := 1) (ms := 1300) (as := [ax_r 57]) (how_IN jX7_init jIX7_init rfl rfl rfl wX2_23 dX2_init_200) rfl (Nat.le_refl _) (Nat.le_of_ble_eq_true rfl) (Nat.le_of_ble_eq_true rfl) (Nat.le_of_ble_eq_true rfl) (fun _ => Nat.le_of_ble_eq_true rfl) (by rw [Sh112_l]; decide) (by rw [Sh112_l]; decide) (in_57 (d := d + 1)) (fun v S9 I9 h9 => ?_)
  obtain ⟨rfl, rfl, rfl⟩ := h9
  refine ax_room (ca := 4) (sa := 2604) (by show (5 - 1 : Nat) = 4; decide) (by show (3904 - 1300 : Nat) = 2604; decide) ?_
  show Rn _ _ _ _ [ax_r 57, ax_r 15] _ _ _
  refine i_putF clX2 10 (by decide) (show Sh114[15]? = some (2, 13, [some 16, some 21, some 26, some 33, some 40, some 47, some 49, some 51, some 53, some 55, none, none, none]) by decide +kernel) (by decide) rfl rfl rfl rfl (fun _ => rfl) (fun _ => rfl) wX2_50 Sh115 (by decide +kernel) dX2_init_203 ?_
  refine r_aload_n dX2_init_206 rfl ?_
  refine i_new clX7 59 Sh115_l Sh116 Hp1 (by decide +kernel) (ax_zr_id (by intro k; simp [Hp0, Hp1, ax_st])) (by decide) Sh115_c (ca := 3) (sa := 2602) rfl rfl (by decide) (by decide) w_cl_X2_21 wIn7 wNi7 dX2_init_207 ?_
  refine r_dup dX2_init_210 (fun _ => rfl) ?_
  refine r_callA (d := d + 2) (mc := 1) (ms := 1300) (as := [ax_r 59]) (how_IN jX7_init jIX7_init rfl rfl rfl wX2_23 dX2_init_211) rfl (Nat.le_refl _) (Nat.le_of_ble_eq_true rfl) (Nat.le_of_ble_eq_true rfl) (Nat.le_of_ble_eq_true rfl) (fun _ => Nat.le_of_ble_eq_true rfl) (by rw [Sh116_l]; decide) (by rw [Sh116_l]; decide) (in_59 (d := d + 1)) (fun v S9 I9 h9 => ?_)
  obtain ⟨rfl, rfl, rfl⟩ := h9
  refine ax_room (ca := 2) (sa := 1302) (by show (3 - 1 : Nat) = 2; decide) (by show (2602 - 1300 : Nat) = 1302; decide) ?_
  show Rn _ _ _ _ [ax_r 59, ax_r 15] _ _ _
  refine i_putF clX2 11 (by decide) (show Sh118[15]? = some (2, 13, [some 16, some 21, some 26, some 33, some 40, some 47, some 49, some 51, some 53, some 55, some 57, none, none]) by decide +kernel) (by decide) rfl rfl rfl rfl (fun _ => rfl) (fun _ => rfl) wX2_53 Sh119 (by decide +kernel) dX2_init_214 ?_
  refine r_aload_n dX2_init_217 rfl ?_
  refine i_new clX7 61 Sh119_l Sh120 Hp1 (by decide +kernel) (ax_zr_id (by intro k; simp [Hp0, Hp1, ax_st])) (by decide) Sh119_c (ca := 1) (sa := 1300) rfl rfl (by decide) (by decide) w_cl_X2_21 wIn7 wNi7 dX2_init_218 ?_
  refine r_dup dX2_init_221 (fun _ => rfl) ?_
  refine r_callA (d := d + 2) (mc := 1) (ms := 1300) (as := [ax_r 61]) (how_IN jX7_init jIX7_init rfl rfl rfl wX2_23 dX2_init_222) rfl (Nat.le_refl _) (Nat.le_of_ble_eq_true rfl) (Nat.le_of_ble_eq_true rfl) (Nat.le_of_ble_eq_true rfl) (fun _ => Nat.le_of_ble_eq_true rfl) (by rw [Sh120_l]; decide) (by rw [Sh120_l]; decide) (in_61 (d := d + 1)) (fun v S9 I9 h9 => ?_)
  obtain ⟨rfl, rfl, rfl⟩ := h9
  refine ax_room (ca := 0) (sa := 0) (by show (1 - 1 : Nat) = 0; decide) (by show (1300 - 1300 : Nat) = 0; decide) ?_
  show Rn _ _ _ _ [ax_r 61, ax_r 15] _ _ _
  refine i_putF clX2 12 (by decide) (show Sh122[15]? = some (2, 13, [some 16, some 21, some 26, some 33, some 40, some 47, some 49, some 51, some 53, some 55, some 57, some 59, none]) by decide +kernel) (by decide) rfl rfl rfl rfl (fun _ => rfl) (fun _ => rfl) wX2_56 Sh123 (by decide +kernel) dX2_init_225 ?_
  exact r_vret dX2_init_228 rfl ⟨rfl, rfl, rfl⟩
theorem in_63 {d : Nat} : Rn (d + 1, 1, 12, none) kX8_init 0 [some (ax_r 63)] [] Sh125 Hp1 (fun v S9 I9 => v = none ∧ S9 = Sh127 ∧ I9 = Hp1) := by
  refine r_aload_n dX8_init_0 rfl ?_
  refine r_objInit (by simp) (fun _ => Nat.le_of_ble_eq_true rfl) wX8_3 wOi wOc dX8_init_1 ?_
  refine r_aload_n dX8_init_4 rfl ?_
  refine r_bipush (v := 12) dX8_init_5 (by decide) ?_
  refine i_newI (N := 12) (by decide) (by decide) 64 Sh125_l Sh126 Hp1 (by decide +kernel) (ax_zr_id (by intro k; simp [Hp0, Hp1, ax_st])) (by decide) Sh125_c (ca := 0) (sa := 0) rfl rfl (by decide) (by decide) wArrI dX8_init_7 ?_
  refine i_putF clX8 0 (by decide) (show Sh126[63]? = some (8, 2, [none, none]) by decide +kernel) (by decide) rfl rfl rfl rfl (fun _ => rfl) (fun _ => rfl) wX8_9 Sh127 (by decide +kernel) dX8_init_9 ?_
  refine r_aload_n dX8_init_12 rfl ?_
  refine r_iconst dX8_init_13 ?_
  refine i_putI clX8 1 1 (by decide) (show Sh127[63]? = some (8, 2, [some 64, none]) by decide +kernel) rfl rfl rfl (by decide) rfl rfl wX8_15 Hp1 (ax_st_id (by simp [Hp0, Hp1, ax_st])) dX8_init_14 ?_
  exact r_vret dX8_init_17 rfl ⟨rfl, rfl, rfl⟩
theorem in_65 {d : Nat} : Rn (d + 1, 1, 12, none) kX8_init 0 [some (ax_r 65)] [] Sh129 Hp1 (fun v S9 I9 => v = none ∧ S9 = Sh131 ∧ I9 = Hp1) := by
  refine r_aload_n dX8_init_0 rfl ?_
  refine r_objInit (by simp) (fun _ => Nat.le_of_ble_eq_true rfl) wX8_3 wOi wOc dX8_init_1 ?_
  refine r_aload_n dX8_init_4 rfl ?_
  refine r_bipush (v := 12) dX8_init_5 (by decide) ?_
  refine i_newI (N := 12) (by decide) (by decide) 66 Sh129_l Sh130 Hp1 (by decide +kernel) (ax_zr_id (by intro k; simp [Hp0, Hp1, ax_st])) (by decide) Sh129_c (ca := 0) (sa := 0) rfl rfl (by decide) (by decide) wArrI dX8_init_7 ?_
  refine i_putF clX8 0 (by decide) (show Sh130[65]? = some (8, 2, [none, none]) by decide +kernel) (by decide) rfl rfl rfl rfl (fun _ => rfl) (fun _ => rfl) wX8_9 Sh131 (by decide +kernel) dX8_init_9 ?_
  refine r_aload_n dX8_init_12 rfl ?_
  refine r_iconst dX8_init_13 ?_
  refine i_putI clX8 1 1 (by decide) (show Sh131[65]? = some (8, 2, [some 66, none]) by decide +kernel) rfl rfl rfl (by decide) rfl rfl wX8_15 Hp1 (ax_st_id (by simp [Hp0, Hp1, ax_st])) dX8_init_14 ?_
  exact r_vret dX8_init_17 rfl ⟨rfl, rfl, rfl⟩
theorem in_67 {d : Nat} : Rn (d + 1, 2, 16, none) kX6_init 0 [some (ax_r 67)] [] Sh133 Hp1 (fun v S9 I9 => v = none ∧ S9 = Sh137 ∧ I9 = Hp1) := by
  refine r_aload_n dX6_init_0 rfl ?_
  refine r_objInit (by simp) (fun _ => Nat.le_of_ble_eq_true rfl) wX6_3 wOi wOc dX6_init_1 ?_
  refine r_aload_n dX6_init_4 rfl ?_
  refine r_bipush (v := 8) dX6_init_5 (by decide) ?_
  refine i_newI (N := 8) (by decide) (by decide) 68 Sh133_l Sh134 Hp1 (by decide +kernel) (ax_zr_id (by intro k; simp [Hp0, Hp1, ax_st])) (by decide) Sh133_c (ca := 1) (sa := 8) rfl rfl (by decide) (by decide) wArrI dX6_init_7 ?_
  refine i_putF clX6 0 (by decide) (show Sh134[67]? = some (6, 3, [none, none, none]) by decide +kernel) (by decide) rfl rfl rfl rfl (fun _ => rfl) (fun _ => rfl) wX6_9 Sh135 (by decide +kernel) dX6_init_9 ?_
  refine r_aload_n dX6_init_12 rfl ?_
  refine r_bipush (v := 8) dX6_init_13 (by decide) ?_
  refine i_newI (N := 8) (by decide) (by decide) 69 Sh135_l Sh136 Hp1 (by decide +kernel) (ax_zr_id (by intro k; simp [Hp0, Hp1, ax_st])) (by decide) Sh135_c (ca := 0) (sa := 0) rfl rfl (by decide) (by decide) wArrI dX6_init_15 ?_
  refine i_putF clX6 1 (by decide) (show Sh136[67]? = some (6, 3, [some 68, none, none]) by decide +kernel) (by decide) rfl rfl rfl rfl (fun _ => rfl) (fun _ => rfl) wX6_15 Sh137 (by decide +kernel) dX6_init_17 ?_
  refine r_aload_n dX6_init_20 rfl ?_
  refine r_iconst dX6_init_21 ?_
  refine i_putI clX6 2 2 (by decide) (show Sh137[67]? = some (6, 3, [some 68, some 69, none]) by decide +kernel) rfl rfl rfl (by decide) rfl rfl wX6_18 Hp1 (ax_st_id (by simp [Hp0, Hp1, ax_st])) dX6_init_22 ?_
  exact r_vret dX6_init_25 rfl ⟨rfl, rfl, rfl⟩
theorem in_70 {d : Nat} : Rn (d + 1, 1, 60, none) kX0_init 0 [some (ax_r 70)] [] Sh139 Hp1 (fun v S9 I9 => v = none ∧ S9 = Sh141 ∧ I9 = Hp1) := by
  refine r_aload_n dX0_init_0 rfl ?_
  refine r_objInit (by simp) (fun _ => Nat.le_of_ble_eq_true rfl) wX0_3 wOi wOc dX0_init_1 ?_
  refine r_aload_n dX0_init_4 rfl ?_
  refine r_bipush (v := 60) dX0_init_5 (by decide) ?_
  refine i_newI (N := 60) (by decide) (by decide) 71 Sh139_l Sh140 Hp1 (by decide +kernel) (ax_zr_id (by intro k; simp [Hp0, Hp1, ax_st])) (by decide) Sh139_c (ca := 0) (sa := 0) rfl rfl (by decide) (by decide) wArrI dX0_init_7 ?_
  refine i_putF clX0 0 (by decide) (show Sh140[70]? = some (0, 2, [none, none]) by decide +kernel) (by decide) rfl rfl rfl rfl (fun _ => rfl) (fun _ => rfl) wX0_9 Sh141 (by decide +kernel) dX0_init_9 ?_
  refine r_aload_n dX0_init_12 rfl ?_
  refine r_iconst dX0_init_13 ?_
  refine i_putI clX0 1 1 (by decide) (show Sh141[70]? = some (0, 2, [some 71, none]) by decide +kernel) rfl rfl rfl (by decide) rfl rfl wX0_15 Hp1 (ax_st_id (by simp [Hp0, Hp1, ax_st])) dX0_init_14 ?_
  exact r_vret dX0_init_17 rfl ⟨rfl, rfl, rfl⟩
theorem in_72 {d : Nat} : Rn (d + 1, 1, 60, none) kX0_init 0 [some (ax_r 72)] [] Sh143 Hp1 (fun v S9 I9 => v = none ∧ S9 = Sh145 ∧ I9 = Hp1) := by
  refine r_aload_n dX0_init_0 rfl ?_
  refine r_objInit (by simp) (fun _ => Nat.le_of_ble_eq_true rfl) wX0_3 wOi wOc dX0_init_1 ?_
  refine r_aload_n dX0_init_4 rfl ?_
  refine r_bipush (v := 60) dX0_init_5 (by decide) ?_
  refine i_newI (N := 60) (by decide) (by decide) 73 Sh143_l Sh144 Hp1 (by decide +kernel) (ax_zr_id (by intro k; simp [Hp0, Hp1, ax_st])) (by decide) Sh143_c (ca := 0) (sa := 0) rfl rfl (by decide) (by decide) wArrI dX0_init_7 ?_
  refine i_putF clX0 0 (by decide) (show Sh144[72]? = some (0, 2, [none, none]) by decide +kernel) (by decide) rfl rfl rfl rfl (fun _ => rfl) (fun _ => rfl) wX0_9 Sh145 (by decide +kernel) dX0_init_9 ?_
  refine r_aload_n dX0_init_12 rfl ?_
  refine r_iconst dX0_init_13 ?_
  refine i_putI clX0 1 1 (by decide) (show Sh145[72]? = some (0, 2, [some 73, none]) by decide +kernel) rfl rfl rfl (by decide) rfl rfl wX0_15 Hp1 (ax_st_id (by simp [Hp0, Hp1, ax_st])) dX0_init_14 ?_
  exact r_vret dX0_init_17 rfl ⟨rfl, rfl, rfl⟩
theorem in_74 {d : Nat} : Rn (d + 1, 2, 52, none) kX4_init 0 [some (ax_r 74)] [] Sh147 Hp1 (fun v S9 I9 => v = none ∧ S9 = Sh151 ∧ I9 = Hp5) := by
  refine r_aload_n dX4_init_0 rfl ?_
  refine r_objInit (by simp) (fun _ => Nat.le_of_ble_eq_true rfl) wX4_1 wOi wOc dX4_init_1 ?_
  refine r_aload_n dX4_init_4 rfl ?_
  refine r_iconst dX4_init_5 ?_
  refine i_newI (N := 4) (by decide) (by decide) 75 Sh147_l Sh148 Hp1 (by decide +kernel) (ax_zr_id (by intro k; simp [Hp0, Hp1, ax_st])) (by decide) Sh147_c (ca := 1) (sa := 48) rfl rfl (by decide) (by decide) wArrI dX4_init_6 ?_
  refine r_dup dX4_init_8 (fun _ => rfl) ?_
  refine r_iconst dX4_init_9 ?_
  refine r_iconst dX4_init_10 ?_
  refine i_iast (show Sh148[75]? = some (100, 4, []) by decide +kernel) (by decide) dX4_init_11 (by decide) (by decide) Hp2 rfl ?_
  refine r_dup dX4_init_12 (fun _ => rfl) ?_
  refine r_iconst dX4_init_13 ?_
  refine r_iconst dX4_init_14 ?_
  refine i_iast (show Sh148[75]? = some (100, 4, []) by decide +kernel) (by decide) dX4_init_15 (by decide) (by decide) Hp3 rfl ?_
  refine r_dup dX4_init_16 (fun _ => rfl) ?_
  refine r_iconst dX4_init_17 ?_
  refine r_iconst dX4_init_18 ?_
  refine i_iast (show Sh148[75]? = some (100, 4, []) by decide +kernel) (by decide) dX4_init_19 (by decide) (by decide) Hp4 rfl ?_
  refine r_dup dX4_init_20 (fun _ => rfl) ?_
  refine r_iconst dX4_init_21 ?_
  refine r_iconst dX4_init_22 ?_
  refine i_iast (show Sh148[75]? = some (100, 4, []) by decide +kernel) (by decide) dX4_init_23 (by decide) (by decide) Hp5 rfl ?_
  refine i_putF clX4 0 (by decide) (show Sh148[74]? = some (4, 2, [none, none]) by decide +kernel) (by decide) rfl rfl rfl rfl (fun _ => rfl) (fun _ => rfl) wX4_7 Sh149 (by decide +kernel) dX4_init_24 ?_
  refine r_aload_n dX4_init_27 rfl ?_
  refine r_bipush (v := 48) dX4_init_28 (by decide) ?_
  refine i_newI (N := 48) (by decide) (by decide) 76 Sh149_l Sh150 Hp5 (by decide +kernel) (ax_zr_id (by intro k; simp [Hp0, Hp1, Hp2, Hp3, Hp4, Hp5, ax_st])) (by decide) Sh149_c (ca := 0) (sa := 0) rfl rfl (by decide) (by decide) wArrI dX4_init_30 ?_
  refine i_putF clX4 1 (by decide) (show Sh150[74]? = some (4, 2, [some 75, none]) by decide +kernel) (by decide) rfl rfl rfl rfl (fun _ => rfl) (fun _ => rfl) wX4_13 Sh151 (by decide +kernel) dX4_init_32 ?_
  exact r_vret dX4_init_35 rfl ⟨rfl, rfl, rfl⟩
theorem in_78 {d : Nat} : Rn (d + 1, 1, 18, none) kX9_init 0 [some (ax_r 78)] [] Sh155 Hp5 (fun v S9 I9 => v = none ∧ S9 = Sh157 ∧ I9 = Hp5) := by
  refine r_aload_n dX9_init_0 rfl ?_
  refine r_objInit (by simp) (fun _ => Nat.le_of_ble_eq_true rfl) wX9_3 wOi wOc dX9_init_1 ?_
  refine r_aload_n dX9_init_4 rfl ?_
  refine r_bipush (v := 18) dX9_init_5 (by decide) ?_
  refine i_newI (N := 18) (by decide) (by decide) 79 Sh155_l Sh156 Hp5 (by decide +kernel) (ax_zr_id (by intro k; simp [Hp0, Hp1, Hp2, Hp3, Hp4, Hp5, ax_st])) (by decide) Sh155_c (ca := 0) (sa := 0) rfl rfl (by decide) (by decide) wArrI dX9_init_7 ?_
  refine i_putF clX9 0 (by decide) (show Sh156[78]? = some (9, 1, [none]) by decide +kernel) (by decide) rfl rfl rfl rfl (fun _ => rfl) (fun _ => rfl) wX9_9 Sh157 (by decide +kernel) dX9_init_9 ?_
  exact r_vret dX9_init_12 rfl ⟨rfl, rfl, rfl⟩
theorem in_80 {d : Nat} : Rn (d + 1, 1, 12, none) kX8_init 0 [some (ax_r 80)] [] Sh159 Hp5 (fun v S9 I9 => v = none ∧ S9 = Sh161 ∧ I9 = Hp5) := by
  refine r_aload_n dX8_init_0 rfl ?_
  refine r_objInit (by simp) (fun _ => Nat.le_of_ble_eq_true rfl) wX8_3 wOi wOc dX8_init_1 ?_
  refine r_aload_n dX8_init_4 rfl ?_
  refine r_bipush (v := 12) dX8_init_5 (by decide) ?_
  refine i_newI (N := 12) (by decide) (by decide) 81 Sh159_l Sh160 Hp5 (by decide +kernel) (ax_zr_id (by intro k; simp [Hp0, Hp1, Hp2, Hp3, Hp4, Hp5, ax_st])) (by decide) Sh159_c (ca := 0) (sa := 0) rfl rfl (by decide) (by decide) wArrI dX8_init_7 ?_
  refine i_putF clX8 0 (by decide) (show Sh160[80]? = some (8, 2, [none, none]) by decide +kernel) (by decide) rfl rfl rfl rfl (fun _ => rfl) (fun _ => rfl) wX8_9 Sh161 (by decide +kernel) dX8_init_9 ?_
  refine r_aload_n dX8_init_12 rfl ?_
  refine r_iconst dX8_init_13 ?_
  refine i_putI clX8 1 1 (by decide) (show Sh161[80]? = some (8, 2, [some 81, none]) by decide +kernel) rfl rfl rfl (by decide) rfl rfl wX8_15 Hp5 (ax_st_id (by simp [Hp0, Hp1, Hp2, Hp3, Hp4, Hp5, ax_st])) dX8_init_14 ?_
  exact r_vret dX8_init_17 rfl ⟨rfl, rfl, rfl⟩
theorem in_82 {d : Nat} : Rn (d + 1, 2, 16, none) kX6_init 0 [some (ax_r 82)] [] Sh163 Hp5 (fun v S9 I9 => v = none ∧ S9 = Sh167 ∧ I9 = Hp5) := by
  refine r_aload_n dX6_init_0 rfl ?_
  refine r_objInit (by simp) (fun _ => Nat.le_of_ble_eq_true rfl) wX6_3 wOi wOc dX6_init_1 ?_
  refine r_aload_n dX6_init_4 rfl ?_
  refine r_bipush (v := 8) dX6_init_5 (by decide) ?_
  refine i_newI (N := 8) (by decide) (by decide) 83 Sh163_l Sh164 Hp5 (by decide +kernel) (ax_zr_id (by intro k; simp [Hp0, Hp1, Hp2, Hp3, Hp4, Hp5, ax_st])) (by decide) Sh163_c (ca := 1) (sa := 8) rfl rfl (by decide) (by decide) wArrI dX6_init_7 ?_
  refine i_putF clX6 0 (by decide) (show Sh164[82]? = some (6, 3, [none, none, none]) by decide +kernel) (by decide) rfl rfl rfl rfl (fun _ => rfl) (fun _ => rfl) wX6_9 Sh165 (by decide +kernel) dX6_init_9 ?_
  refine r_aload_n dX6_init_12 rfl ?_
  refine r_bipush (v := 8) dX6_init_13 (by decide) ?_
  refine i_newI (N := 8) (by decide) (by decide) 84 Sh165_l Sh166 Hp5 (by decide +kernel) (ax_zr_id (by intro k; simp [Hp0, Hp1, Hp2, Hp3, Hp4, Hp5, ax_st])) (by decide) Sh165_c (ca := 0) (sa := 0) rfl rfl (by decide) (by decide) wArrI dX6_init_15 ?_
  refine i_putF clX6 1 (by decide) (show Sh166[82]? = some (6, 3, [some 83, none, none]) by decide +kernel) (by decide) rfl rfl rfl rfl (fun _ => rfl) (fun _ => rfl) wX6_15 Sh167 (by decide +kernel) dX6_init_17 ?_
  refine r_aload_n dX6_init_20 rfl ?_
  refine r_iconst dX6_init_21 ?_
  refine i_putI clX6 2 2 (by decide) (show Sh167[82]? = some (6, 3, [some 83, some 84, none]) by decide +kernel) rfl rfl rfl (by decide) rfl rfl wX6_18 Hp5 (ax_st_id (by simp [Hp0, Hp1, Hp2, Hp3, Hp4, Hp5, ax_st])) dX6_init_22 ?_
  exact r_vret dX6_init_25 rfl ⟨rfl, rfl, rfl⟩
theorem in_0 {d : Nat} : Rn (d + 4, 84, 36105, none) kX10_init 0 [some (ax_r 0)] [] Sh0 Hp0 (fun v S9 I9 => v = none ∧ S9 = Sh168 ∧ I9 = Hp5) := by
  refine r_aload_n dX10_init_0 rfl ?_
  refine r_objInit (by simp) (fun _ => Nat.le_of_ble_eq_true rfl) wX10_5 wOi wOc dX10_init_1 ?_
  refine r_aload_n dX10_init_4 rfl ?_
  refine i_new clX1 1 Sh0_l Sh1 Hp0 (by decide +kernel) (ax_zr_id (by intro k; rfl)) (by decide) Sh0_c (ca := 83) (sa := 36095) rfl rfl (by decide) (by decide) w_cl_X10_11 wIn1 wNi1 dX10_init_5 ?_
  refine r_dup dX10_init_8 (fun _ => rfl) ?_
  refine r_callA (d := d + 3) (mc := 8) (ms := 4339) (as := [ax_r 1]) (how_IN jX1_init jIX1_init rfl rfl rfl wX10_13 dX10_init_9) rfl (Nat.le_refl _) (Nat.le_of_ble_eq_true rfl) (Nat.le_of_ble_eq_true rfl) (Nat.le_of_ble_eq_true rfl) (fun _ => Nat.le_of_ble_eq_true rfl) (by rw [Sh1_l]; decide) (by rw [Sh1_l]; decide) (in_1 (d := d + 1)) (fun v S9 I9 h9 => ?_)
  obtain ⟨rfl, rfl, rfl⟩ := h9
  refine ax_room (ca := 75) (sa := 31756) (by show (83 - 8 : Nat) = 75; decide) (by show (36095 - 4339 : Nat) = 31756; decide) ?_
  show Rn _ _ _ _ [ax_r 1, ax_r 0] _ _ _
  refine i_putF clX10 0 (by decide) (show Sh17[0]? = some (10, 14, [none, none, none, none, none, none, none, none, none, none, none, none, none, none]) by decide +kernel) (by decide) rfl rfl rfl rfl (fun _ => rfl) (fun _ => rfl) wX10_14 Sh18 (by decide +kernel) dX10_init_12 ?_
  refine r_aload_n dX10_init_15 rfl ?_
  refine i_new clX5 10 Sh18_l Sh19 Hp1 (by decide +kernel) (ax_zr_id (by intro k; simp [Hp0, Hp1, ax_st])) (by decide) Sh18_c (ca := 74) (sa := 31751) rfl rfl (by decide) (by decide) w_cl_X10_18 wIn5 wNi5 dX10_init_16 ?_
  refine r_dup dX10_init_19 (fun _ => rfl) ?_
  refine r_callA (d := d + 3) (mc := 4) (ms := 4097) (as := [ax_r 10]) (how_IN jX5_init jIX5_init rfl rfl rfl wX10_20 dX10_init_20) rfl (Nat.le_refl _) (Nat.le_of_ble_eq_true rfl) (Nat.le_of_ble_eq_true rfl) (Nat.le_of_ble_eq_true rfl) (fun _ => Nat.le_of_ble_eq_true rfl) (by rw [Sh19_l]; decide) (by rw [Sh19_l]; decide) (in_10 (d := d + 2)) (fun v S9 I9 h9 => ?_)
  obtain ⟨rfl, rfl, rfl⟩ := h9
  refine ax_room (ca := 70) (sa := 27654) (by show (74 - 4 : Nat) = 70; decide) (by show (31751 - 4097 : Nat) = 27654; decide) ?_
  show Rn _ _ _ _ [ax_r 10, ax_r 0] _ _ _
  refine i_putF clX10 1 (by decide) (show Sh27[0]? = some (10, 14, [some 1, none, none, none, none, none, none, none, none, none, none, none, none, none]) by decide +kernel) (by decide) rfl rfl rfl rfl (fun _ => rfl) (fun _ => rfl) wX10_21 Sh28 (by decide +kernel) dX10_init_23 ?_
  refine r_aload_n dX10_init_26 rfl ?_
  refine i_new clX2 15 Sh28_l Sh29 Hp1 (by decide +kernel) (ax_zr_id (by intro k; simp [Hp0, Hp1, ax_st])) (by decide) Sh28_c (ca := 69) (sa := 27641) rfl rfl (by decide) (by decide) w_cl_X10_25 wIn2 wNi2 dX10_init_27 ?_
  refine r_dup dX10_init_30 (fun _ => rfl) ?_
  refine r_callA (d := d + 3) (mc := 47) (ms := 27355) (as := [ax_r 15]) (how_IN jX2_init jIX2_init rfl rfl rfl wX10_27 dX10_init_31) rfl (Nat.le_refl _) (Nat.le_of_ble_eq_true rfl) (Nat.le_of_ble_eq_true rfl) (Nat.le_of_ble_eq_true rfl) (fun _ => Nat.le_of_ble_eq_true rfl) (by rw [Sh29_l]; decide) (by rw [Sh29_l]; decide) (in_15 (d := d + 0)) (fun v S9 I9 h9 => ?_)
  obtain ⟨rfl, rfl, rfl⟩ := h9
  refine ax_room (ca := 22) (sa := 286) (by show (69 - 47 : Nat) = 22; decide) (by show (27641 - 27355 : Nat) = 286; decide) ?_
  show Rn _ _ _ _ [ax_r 15, ax_r 0] _ _ _
  refine i_putF clX10 2 (by decide) (show Sh123[0]? = some (10, 14, [some 1, some 10, none, none, none, none, none, none, none, none, none, none, none, none]) by decide +kernel) (by decide) rfl rfl rfl rfl (fun _ => rfl) (fun _ => rfl) wX10_28 Sh124 (by decide +kernel) dX10_init_34 ?_
  refine r_aload_n dX10_init_37 rfl ?_
  refine i_new clX8 63 Sh124_l Sh125 Hp1 (by decide +kernel) (ax_zr_id (by intro k; simp [Hp0, Hp1, ax_st])) (by decide) Sh124_c (ca := 21) (sa := 284) rfl rfl (by decide) (by decide) w_cl_X10_32 wIn8 wNi8 dX10_init_38 ?_
  refine r_dup dX10_init_41 (fun _ => rfl) ?_
  refine r_callA (d := d + 3) (mc := 1) (ms := 12) (as := [ax_r 63]) (how_IN jX8_init jIX8_init rfl rfl rfl wX10_34 dX10_init_42) rfl (Nat.le_refl _) (Nat.le_of_ble_eq_true rfl) (Nat.le_of_ble_eq_true rfl) (Nat.le_of_ble_eq_true rfl) (fun _ => Nat.le_of_ble_eq_true rfl) (by rw [Sh125_l]; decide) (by rw [Sh125_l]; decide) (in_63 (d := d + 2)) (fun v S9 I9 h9 => ?_)
  obtain ⟨rfl, rfl, rfl⟩ := h9
  refine ax_room (ca := 20) (sa := 272) (by show (21 - 1 : Nat) = 20; decide) (by show (284 - 12 : Nat) = 272; decide) ?_
  show Rn _ _ _ _ [ax_r 63, ax_r 0] _ _ _
  refine i_putF clX10 3 (by decide) (show Sh127[0]? = some (10, 14, [some 1, some 10, some 15, none, none, none, none, none, none, none, none, none, none, none]) by decide +kernel) (by decide) rfl rfl rfl rfl (fun _ => rfl) (fun _ => rfl) wX10_35 Sh128 (by decide +kernel) dX10_init_45 ?_
  refine r_aload_n dX10_init_48 rfl ?_
  refine i_new clX8 65 Sh128_l Sh129 Hp1 (by decide +kernel) (ax_zr_id (by intro k; simp [Hp0, Hp1, ax_st])) (by decide) Sh128_c (ca := 19) (sa := 270) rfl rfl (by decide) (by decide) w_cl_X10_32 wIn8 wNi8 dX10_init_49 ?_
  refine r_dup dX10_init_52 (fun _ => rfl) ?_
  refine r_callA (d := d + 3) (mc := 1) (ms := 12) (as := [ax_r 65]) (how_IN jX8_init jIX8_init rfl rfl rfl wX10_34 dX10_init_53) rfl (Nat.le_refl _) (Nat.le_of_ble_eq_true rfl) (Nat.le_of_ble_eq_true rfl) (Nat.le_of_ble_eq_true rfl) (fun _ => Nat.le_of_ble_eq_true rfl) (by rw [Sh129_l]; decide) (by rw [Sh129_l]; decide) (in_65 (d := d + 2)) (fun v S9 I9 h9 => ?_)
  obtain ⟨rfl, rfl, rfl⟩ := h9
  refine ax_room (ca := 18) (sa := 258) (by show (19 - 1 : Nat) = 18; decide) (by show (270 - 12 : Nat) = 258; decide) ?_
  show Rn _ _ _ _ [ax_r 65, ax_r 0] _ _ _
  refine i_putF clX10 4 (by decide) (show Sh131[0]? = some (10, 14, [some 1, some 10, some 15, some 63, none, none, none, none, none, none, none, none, none, none]) by decide +kernel) (by decide) rfl rfl rfl rfl (fun _ => rfl) (fun _ => rfl) wX10_39 Sh132 (by decide +kernel) dX10_init_56 ?_
  refine r_aload_n dX10_init_59 rfl ?_
  refine i_new clX6 67 Sh132_l Sh133 Hp1 (by decide +kernel) (ax_zr_id (by intro k; simp [Hp0, Hp1, ax_st])) (by decide) Sh132_c (ca := 17) (sa := 255) rfl rfl (by decide) (by decide) w_cl_X10_42 wIn6 wNi6 dX10_init_60 ?_
  refine r_dup dX10_init_63 (fun _ => rfl) ?_
  refine r_callA (d := d + 3) (mc := 2) (ms := 16) (as := [ax_r 67]) (how_IN jX6_init jIX6_init rfl rfl rfl wX10_44 dX10_init_64) rfl (Nat.le_refl _) (Nat.le_of_ble_eq_true rfl) (Nat.le_of_ble_eq_true rfl) (Nat.le_of_ble_eq_true rfl) (fun _ => Nat.le_of_ble_eq_true rfl) (by rw [Sh133_l]; decide) (by rw [Sh133_l]; decide) (in_67 (d := d + 2)) (fun v S9 I9 h9 => ?_)
  obtain ⟨rfl, rfl, rfl⟩ := h9
  refine ax_room (ca := 15) (sa := 239) (by show (17 - 2 : Nat) = 15; decide) (by show (255 - 16 : Nat) = 239; decide) ?_
  show Rn _ _ _ _ [ax_r 67, ax_r 0] _ _ _
  refine i_putF clX10 5 (by decide) (show Sh137[0]? = some (10, 14, [some 1, some 10, some 15, some 63, some 65, none, none, none, none, none, none, none, none, none]) by decide +kernel) (by decide) rfl rfl rfl rfl (fun _ => rfl) (fun _ => rfl) wX10_45 Sh138 (by decide +kernel) dX10_init_67 ?_
  refine r_aload_n dX10_init_70 rfl ?_
  refine i_new clX0 70 Sh138_l Sh139 Hp1 (by decide +kernel) (ax_zr_id (by intro k; simp [Hp0, Hp1, ax_st])) (by decide) Sh138_c (ca := 14) (sa := 237) rfl rfl (by decide) (by decide) w_cl_X10_49 wIn0 wNi0 dX10_init_71 ?_
  refine r_dup dX10_init_74 (fun _ => rfl) ?_
  refine r_callA (d := d + 3) (mc := 1) (ms := 60) (as := [ax_r 70]) (how_IN jX0_init jIX0_init rfl rfl rfl wX10_51 dX10_init_75) rfl (Nat.le_refl _) (Nat.le_of_ble_eq_true rfl) (Nat.le_of_ble_eq_true rfl) (Nat.le_of_ble_eq_true rfl) (fun _ => Nat.le_of_ble_eq_true rfl) (by rw [Sh139_l]; decide) (by rw [Sh139_l]; decide) (in_70 (d := d + 2)) (fun v S9 I9 h9 => ?_)
  obtain ⟨rfl, rfl, rfl⟩ := h9
  refine ax_room (ca := 13) (sa := 177) (by show (14 - 1 : Nat) = 13; decide) (by show (237 - 60 : Nat) = 177; decide) ?_
  show Rn _ _ _ _ [ax_r 70, ax_r 0] _ _ _
  refine i_putF clX10 6 (by decide) (show Sh141[0]? = some (10, 14, [some 1, some 10, some 15, some 63, some 65, some 67, none, none, none, none, none, none, none, none]) by decide +kernel) (by decide) rfl rfl rfl rfl (fun _ => rfl) (fun _ => rfl) wX10_52 Sh142 (by decide +kernel) dX10_init_78 ?_
  refine r_aload_n dX10_init_81 rfl ?_
  refine i_new clX0 72 Sh142_l Sh143 Hp1 (by decide +kernel) (ax_zr_id (by intro k; simp [Hp0, Hp1, ax_st])) (by decide) Sh142_c (ca := 12) (sa := 175) rfl rfl (by decide) (by decide) w_cl_X10_49 wIn0 wNi0 dX10_init_82 ?_
  refine r_dup dX10_init_85 (fun _ => rfl) ?_
  refine r_callA (d := d + 3) (mc := 1) (ms := 60) (as := [ax_r 72]) (how_IN jX0_init jIX0_init rfl rfl rfl wX10_51 dX10_init_86) rfl (Nat.le_refl _) (Nat.le_of_ble_eq_true rfl) (Nat.le_of_ble_eq_true rfl) (Nat.le_of_ble_eq_true rfl) (fun _ => Nat.le_of_ble_eq_true rfl) (by rw [Sh143_l]; decide) (by rw [Sh143_l]; decide) (in_72 (d := d + 2)) (fun v S9 I9 h9 => ?_)
  obtain ⟨rfl, rfl, rfl⟩ := h9
  refine ax_room (ca := 11) (sa := 115) (by show (12 - 1 : Nat) = 11; decide) (by show (175 - 60 : Nat) = 115; decide) ?_
  show Rn _ _ _ _ [ax_r 72, ax_r 0] _ _ _
  refine i_putF clX10 7 (by decide) (show Sh145[0]? = some (10, 14, [some 1, some 10, some 15, some 63, some 65, some 67, some 70, none, none, none, none, none, none, none]) by decide +kernel) (by decide) rfl rfl rfl rfl (fun _ => rfl) (fun _ => rfl) wX10_56 Sh146 (by decide +kernel) dX10_init_89 ?_
  refine r_aload_n dX10_init_92 rfl ?_
  refine i_new clX4 74 Sh146_l Sh147 Hp1 (by decide +kernel) (ax_zr_id (by intro k; simp [Hp0, Hp1, ax_st])) (by decide) Sh146_c (ca := 10) (sa := 113) rfl rfl (by decide) (by decide) w_cl_X10_59 wIn4 wNi4 dX10_init_93 ?_
  refine r_dup dX10_init_96 (fun _ => rfl) ?_
  refine r_callA (d := d + 3) (mc := 2) (ms := 52) (as := [ax_r 74]) (how_IN jX4_init jIX4_init rfl rfl rfl wX10_61 dX10_init_97) rfl (Nat.le_refl _) (Nat.le_of_ble_eq_true rfl) (Nat.le_of_ble_eq_true rfl) (Nat.le_of_ble_eq_true rfl) (fun _ => Nat.le_of_ble_eq_true rfl) (by rw [Sh147_l]; decide) (by rw [Sh147_l]; decide) (in_74 (d := d + 2)) (fun v S9 I9 h9 => ?_)
  obtain ⟨rfl, rfl, rfl⟩ := h9
  refine ax_room (ca := 8) (sa := 61) (by show (10 - 2 : Nat) = 8; decide) (by show (113 - 52 : Nat) = 61; decide) ?_
  show Rn _ _ _ _ [ax_r 74, ax_r 0] _ _ _
  refine i_putF clX10 8 (by decide) (show Sh151[0]? = some (10, 14, [some 1, some 10, some 15, some 63, some 65, some 67, some 70, some 72, none, none, none, none, none, none]) by decide +kernel) (by decide) rfl rfl rfl rfl (fun _ => rfl) (fun _ => rfl) wX10_62 Sh152 (by decide +kernel) dX10_init_100 ?_
  refine r_aload_n dX10_init_103 rfl ?_
  refine r_bipush (v := 9) dX10_init_104 (by decide) ?_
  refine i_newI (N := 9) (by decide) (by decide) 77 Sh152_l Sh153 Hp5 (by decide +kernel) (ax_zr_id (by intro k; simp [Hp0, Hp1, Hp2, Hp3, Hp4, Hp5, ax_st])) (by decide) Sh152_c (ca := 7) (sa := 52) rfl rfl (by decide) (by decide) wArrI dX10_init_106 ?_
  refine i_putF clX10 9 (by decide) (show Sh153[0]? = some (10, 14, [some 1, some 10, some 15, some 63, some 65, some 67, some 70, some 72, some 74, none, none, none, none, none]) by decide +kernel) (by decide) rfl rfl rfl rfl (fun _ => rfl) (fun _ => rfl) wX10_66 Sh154 (by decide +kernel) dX10_init_108 ?_
  refine r_aload_n dX10_init_111 rfl ?_
  refine i_new clX9 78 Sh154_l Sh155 Hp5 (by decide +kernel) (ax_zr_id (by intro k; simp [Hp0, Hp1, Hp2, Hp3, Hp4, Hp5, ax_st])) (by decide) Sh154_c (ca := 6) (sa := 51) rfl rfl (by decide) (by decide) w_cl_X10_70 wIn9 wNi9 dX10_init_112 ?_
  refine r_dup dX10_init_115 (fun _ => rfl) ?_
  refine r_callA (d := d + 3) (mc := 1) (ms := 18) (as := [ax_r 78]) (how_IN jX9_init jIX9_init rfl rfl rfl wX10_72 dX10_init_116) rfl (Nat.le_refl _) (Nat.le_of_ble_eq_true rfl) (Nat.le_of_ble_eq_true rfl) (Nat.le_of_ble_eq_true rfl) (fun _ => Nat.le_of_ble_eq_true rfl) (by rw [Sh155_l]; decide) (by rw [Sh155_l]; decide) (in_78 (d := d + 2)) (fun v S9 I9 h9 => ?_)
  obtain ⟨rfl, rfl, rfl⟩ := h9
  refine ax_room (ca := 5) (sa := 33) (by show (6 - 1 : Nat) = 5; decide) (by show (51 - 18 : Nat) = 33; decide) ?_
  show Rn _ _ _ _ [ax_r 78, ax_r 0] _ _ _
  refine i_putF clX10 10 (by decide) (show Sh157[0]? = some (10, 14, [some 1, some 10, some 15, some 63, some 65, some 67, some 70, some 72, some 74, some 77, none, none, none, none]) by decide +kernel) (by decide) rfl rfl rfl rfl (fun _ => rfl) (fun _ => rfl) wX10_73 Sh158 (by decide +kernel) dX10_init_119 ?_
  refine r_aload_n dX10_init_122 rfl ?_
  refine i_new clX8 80 Sh158_l Sh159 Hp5 (by decide +kernel) (ax_zr_id (by intro k; simp [Hp0, Hp1, Hp2, Hp3, Hp4, Hp5, ax_st])) (by decide) Sh158_c (ca := 4) (sa := 31) rfl rfl (by decide) (by decide) w_cl_X10_32 wIn8 wNi8 dX10_init_123 ?_
  refine r_dup dX10_init_126 (fun _ => rfl) ?_
  refine r_callA (d := d + 3) (mc := 1) (ms := 12) (as := [ax_r 80]) (how_IN jX8_init jIX8_init rfl rfl rfl wX10_34 dX10_init_127) rfl (Nat.le_refl _) (Nat.le_of_ble_eq_true rfl) (Nat.le_of_ble_eq_true rfl) (Nat.le_of_ble_eq_true rfl) (fun _ => Nat.le_of_ble_eq_true rfl) (by rw [Sh159_l]; decide) (by rw [Sh159_l]; decide) (in_80 (d := d + 2)) (fun v S9 I9 h9 => ?_)
  obtain ⟨rfl, rfl, rfl⟩ := h9
  refine ax_room (ca := 3) (sa := 19) (by show (4 - 1 : Nat) = 3; decide) (by show (31 - 12 : Nat) = 19; decide) ?_
  show Rn _ _ _ _ [ax_r 80, ax_r 0] _ _ _
  refine i_putF clX10 11 (by decide) (show Sh161[0]? = some (10, 14, [some 1, some 10, some 15, some 63, some 65, some 67, some 70, some 72, some 74, some 77, some 78, none, none, none]) by decide +kernel) (by decide) rfl rfl rfl rfl (fun _ => rfl) (fun _ => rfl) wX10_77 Sh162 (by decide +kernel) dX10_init_130 ?_
  refine r_aload_n dX10_init_133 rfl ?_
  refine i_new clX6 82 Sh162_l Sh163 Hp5 (by decide +kernel) (ax_zr_id (by intro k; simp [Hp0, Hp1, Hp2, Hp3, Hp4, Hp5, ax_st])) (by decide) Sh162_c (ca := 2) (sa := 16) rfl rfl (by decide) (by decide) w_cl_X10_42 wIn6 wNi6 dX10_init_134 ?_
  refine r_dup dX10_init_137 (fun _ => rfl) ?_
  refine r_callA (d := d + 3) (mc := 2) (ms := 16) (as := [ax_r 82]) (how_IN jX6_init jIX6_init rfl rfl rfl wX10_44 dX10_init_138) rfl (Nat.le_refl _) (Nat.le_of_ble_eq_true rfl) (Nat.le_of_ble_eq_true rfl) (Nat.le_of_ble_eq_true rfl) (fun _ => Nat.le_of_ble_eq_true rfl) (by rw [Sh163_l]; decide) (by rw [Sh163_l]; decide) (in_82 (d := d + 2)) (fun v S9 I9 h9 => ?_)
  obtain ⟨rfl, rfl, rfl⟩ := h9
  refine ax_room (ca := 0) (sa := 0) (by show (2 - 2 : Nat) = 0; decide) (by show (16 - 16 : Nat) = 0; decide) ?_
  show Rn _ _ _ _ [ax_r 82, ax_r 0] _ _ _
  refine i_putF clX10 12 (by decide) (show Sh167[0]? = some (10, 14, [some 1, some 10, some 15, some 63, some 65, some 67, some 70, some 72, some 74, some 77, some 78, some 80, none, none]) by decide +kernel) (by decide) rfl rfl rfl rfl (fun _ => rfl) (fun _ => rfl) wX10_80 Sh168 (by decide +kernel) dX10_init_141 ?_
  refine r_aload_n dX10_init_144 rfl ?_
  refine r_iconst dX10_init_145 ?_
  refine i_putI clX10 13 13 (by decide) (show Sh168[0]? = some (10, 14, [some 1, some 10, some 15, some 63, some 65, some 67, some 70, some 72, some 74, some 77, some 78, some 80, some 82, none]) by decide +kernel) rfl rfl rfl (by decide) (by decide) (by decide) wX10_83 Hp5 (ax_st_id (by simp [Hp0, Hp1, Hp2, Hp3, Hp4, Hp5, ax_st])) dX10_init_146 ?_
  exact r_vret dX10_init_149 rfl ⟨rfl, rfl, rfl⟩
theorem in_85 {d : Nat} : Rn (d + 1, 36, 50500, none) kX11_init 0 [some (ax_r 85)] [] Sh169 Hp5 (fun v S9 I9 => v = none ∧ S9 = Sh221 ∧ I9 = Hp9) := by
  refine r_aload_n dX11_init_0 rfl ?_
  refine r_objInit (by simp) (fun _ => Nat.le_of_ble_eq_true rfl) wX11_3 wOi wOc dX11_init_1 ?_
  refine r_aload_n dX11_init_4 rfl ?_
  refine r_bipush (v := 48) dX11_init_5 (by decide) ?_
  refine i_newI (N := 48) (by decide) (by decide) 86 Sh169_l Sh170 Hp5 (by decide +kernel) (ax_zr_id (by intro k; simp [Hp0, Hp1, Hp2, Hp3, Hp4, Hp5, ax_st])) (by decide) Sh169_c (ca := 35) (sa := 50452) rfl rfl (by decide) (by decide) wArrI dX11_init_7 ?_
  refine i_putF clX11 0 (by decide) (show Sh170[85]? = some (11, 30, [none, none, none, none, none, none, none, none, none, none, none, none, none, none, none, none, none, none, none, none, none, none, none, none, none, none, none, none, none, none]) by decide +kernel) (by decide) rfl rfl rfl rfl (fun _ => rfl) (fun _ => rfl) wX11_11 Sh171 (by decide +kernel) dX11_init_9 ?_
  refine r_aload_n dX11_init_12 rfl ?_
  refine r_bipush (v := 48) dX11_init_13 (by decide) ?_
  refine i_newI (N := 48) (by decide) (by decide) 87 Sh171_l Sh172 Hp5 (by decide +kernel) (ax_zr_id (by intro k; simp [Hp0, Hp1, Hp2, Hp3, Hp4, Hp5, ax_st])) (by decide) Sh171_c (ca := 34) (sa := 50404) rfl rfl (by decide) (by decide) wArrI dX11_init_15 ?_
  refine i_putF clX11 1 (by decide) (show Sh172[85]? = some (11, 30, [some 86, none, none, none, none, none, none, none, none, none, none, none, none, none, none, none, none, none, none, none, none, none, none, none, none, none, none, none, none, none]) by decide +kernel) (by decide) rfl rfl rfl rfl (fun _ => rfl) (fun _ => rfl) wX11_15 Sh173 (by decide +kernel) dX11_init_17 ?_
  refine r_aload_n dX11_init_20 rfl ?_
  refine r_sipush (v := 1024) dX11_init_21 (by decide) ?_
  refine i_newI (N := 1024) (by decide) (by decide) 88 Sh173_l Sh174 Hp5 (by decide +kernel) (ax_zr_id (by intro k; simp [Hp0, Hp1, Hp2, Hp3, Hp4, Hp5, ax_st])) (by decide) Sh173_c (ca := 33) (sa := 49380) rfl rfl (by decide) (by decide) wArrI dX11_init_24 ?_
  refine i_putF clX11 3 (by decide) (show Sh174[85]? = some (11, 30, [some 86, some 87, none, none, none, none, none, none, none, none, none, none, none, none, none, none, none, none, none, none, none, none, none, none, none, none, none, none, none, none]) by decide +kernel) (by decide) rfl rfl rfl rfl (fun _ => rfl) (fun _ => rfl) wX11_18 Sh175 (by decide +kernel) dX11_init_26 ?_
  refine r_aload_n dX11_init_29 rfl ?_
  refine r_bipush (v := 32) dX11_init_30 (by decide) ?_
  refine i_newI (N := 32) (by decide) (by decide) 89 Sh175_l Sh176 Hp5 (by decide +kernel) (ax_zr_id (by intro k; simp [Hp0, Hp1, Hp2, Hp3, Hp4, Hp5, ax_st])) (by decide) Sh175_c (ca := 32) (sa := 49348) rfl rfl (by decide) (by decide) wArrI dX11_init_32 ?_
  refine i_putF clX11 4 (by decide) (show Sh176[85]? = some (11, 30, [some 86, some 87, none, some 88, none, none, none, none, none, none, none, none, none, none, none, none, none, none, none, none, none, none, none, none, none, none, none, none, none, none]) by decide +kernel) (by decide) rfl rfl rfl rfl (fun _ => rfl) (fun _ => rfl) wX11_21 Sh177 (by decide +kernel) dX11_init_34 ?_
  refine r_aload_n dX11_init_37 rfl ?_
  refine r_sipush (v := 1024) dX11_init_38 (by decide) ?_
  refine i_newI (N := 1024) (by decide) (by decide) 90 Sh177_l Sh178 Hp5 (by decide +kernel) (ax_zr_id (by intro k; simp [Hp0, Hp1, Hp2, Hp3, Hp4, Hp5, ax_st])) (by decide) Sh177_c (ca := 31) (sa := 48324) rfl rfl (by decide) (by decide) wArrI dX11_init_41 ?_
  refine i_putF clX11 5 (by decide) (show Sh178[85]? = some (11, 30, [some 86, some 87, none, some 88, some 89, none, none, none, none, none, none, none, none, none, none, none, none, none, none, none, none, none, none, none, none, none, none, none, none, none]) by decide +kernel) (by decide) rfl rfl rfl rfl (fun _ => rfl) (fun _ => rfl) wX11_24 Sh179 (by decide +kernel) dX11_init_43 ?_
  refine r_aload_n dX11_init_46 rfl ?_
  refine r_sipush (v := 1024) dX11_init_47 (by decide) ?_
  refine i_newZ (N := 1024) (by decide) (by decide) 91 Sh179_l Sh180 Hp5 (by decide +kernel) (ax_zr_id (by intro k; simp [Hp0, Hp1, Hp2, Hp3, Hp4, Hp5, ax_st])) (by decide) Sh179_c (ca := 30) (sa := 47300) rfl rfl (by decide) (by decide) wArrZ dX11_init_50 ?_
  refine i_putF clX11 6 (by decide) (show Sh180[85]? = some (11, 30, [some 86, some 87, none, some 88, some 89, some 90, none, none, none, none, none, none, none, none, none, none, none, none, none, none, none, none, none, none, none, none, none, none, none, none]) by decide +kernel) (by decide) rfl rfl rfl rfl (fun _ => rfl) (fun _ => rfl) wX11_27 Sh181 (by decide +kernel) dX11_init_52 ?_
  refine r_aload_n dX11_init_55 rfl ?_
  refine r_sipush (v := 1025) dX11_init_56 (by decide) ?_
  refine i_newI (N := 1025) (by decide) (by decide) 92 Sh181_l Sh182 Hp5 (by decide +kernel) (ax_zr_id (by intro k; simp [Hp0, Hp1, Hp2, Hp3, Hp4, Hp5, ax_st])) (by decide) Sh181_c (ca := 29) (sa := 46275) rfl rfl (by decide) (by decide) wArrI dX11_init_59 ?_
  refine i_putF clX11 7 (by decide) (show Sh182[85]? = some (11, 30, [some 86, some 87, none, some 88, some 89, some 90, some 91, none, none, none, none, none, none, none, none, none, none, none, none, none, none, none, none, none, none, none, none, none, none, none]) by decide +kernel) (by decide) rfl rfl rfl rfl (fun _ => rfl) (fun _ => rfl) wX11_31 Sh183 (by decide +kernel) dX11_init_61 ?_
  refine r_aload_n dX11_init_64 rfl ?_
  refine r_sipush (v := 2500) dX11_init_65 (by decide) ?_
  refine i_newI (N := 2500) (by decide) (by decide) 93 Sh183_l Sh184 Hp5 (by decide +kernel) (ax_zr_id (by intro k; simp [Hp0, Hp1, Hp2, Hp3, Hp4, Hp5, ax_st])) (by decide) Sh183_c (ca := 28) (sa := 43775) rfl rfl (by decide) (by decide) wArrI dX11_init_68 ?_
  refine i_putF clX11 8 (by decide) (show Sh184[85]? = some (11, 30, [some 86, some 87, none, some 88, some 89, some 90, some 91, some 92, none, none, none, none, none, none, none, none, none, none, none, none, none, none, none, none, none, none, none, none, none, none]) by decide +kernel) (by decide) rfl rfl rfl rfl (fun _ => rfl) (fun _ => rfl) wX11_34 Sh185 (by decide +kernel) dX11_init_70 ?_
  refine r_aload_n dX11_init_73 rfl ?_
  refine r_sipush (v := 2500) dX11_init_74 (by decide) ?_
  refine i_newI (N := 2500) (by decide) (by decide) 94 Sh185_l Sh186 Hp5 (by decide +kernel) (ax_zr_id (by intro k; simp [Hp0, Hp1, Hp2, Hp3, Hp4, Hp5, ax_st])) (by decide) Sh185_c (ca := 27) (sa := 41275) rfl rfl (by decide) (by decide) wArrI dX11_init_77 ?_
  refine i_putF clX11 9 (by decide) (show Sh186[85]? = some (11, 30, [some 86, some 87, none, some 88, some 89, some 90, some 91, some 92, some 93, none, none, none, none, none, none, none, none, none, none, none, none, none, none, none, none, none, none, none, none, none]) by decide +kernel) (by decide) rfl rfl rfl rfl (fun _ => rfl) (fun _ => rfl) wX11_37 Sh187 (by decide +kernel) dX11_init_79 ?_
  refine r_aload_n dX11_init_82 rfl ?_
  refine r_sipush (v := 2500) dX11_init_83 (by decide) ?_
  refine i_newI (N := 2500) (by decide) (by decide) 95 Sh187_l Sh188 Hp5 (by decide +kernel) (ax_zr_id (by intro k; simp [Hp0, Hp1, Hp2, Hp3, Hp4, Hp5, ax_st])) (by decide) Sh187_c (ca := 26) (sa := 38775) rfl rfl (by decide) (by decide) wArrI dX11_init_86 ?_
  refine i_putF clX11 10 (by decide) (show Sh188[85]? = some (11, 30, [some 86, some 87, none, some 88, some 89, some 90, some 91, some 92, some 93, some 94, none, none, none, none, none, none, none, none, none, none, none, none, none, none, none, none, none, none, none, none]) by decide +kernel) (by decide) rfl rfl rfl rfl (fun _ => rfl) (fun _ => rfl) wX11_40 Sh189 (by decide +kernel) dX11_init_88 ?_
  refine r_aload_n dX11_init_91 rfl ?_
  refine r_sipush (v := 2500) dX11_init_92 (by decide) ?_
  refine i_newI (N := 2500) (by decide) (by decide) 96 Sh189_l Sh190 Hp5 (by decide +kernel) (ax_zr_id (by intro k; simp [Hp0, Hp1, Hp2, Hp3, Hp4, Hp5, ax_st])) (by decide) Sh189_c (ca := 25) (sa := 36275) rfl rfl (by decide) (by decide) wArrI dX11_init_95 ?_
  refine i_putF clX11 11 (by decide) (show Sh190[85]? = some (11, 30, [some 86, some 87, none, some 88, some 89, some 90, some 91, some 92, some 93, some 94, some 95, none, none, none, none, none, none, none, none, none, none, none, none, none, none, none, none, none, none, none]) by decide +kernel) (by decide) rfl rfl rfl rfl (fun _ => rfl) (fun _ => rfl) wX11_43 Sh191 (by decide +kernel) dX11_init_97 ?_
  refine r_aload_n dX11_init_100 rfl ?_
  refine r_bipush (v := 6) dX11_init_101 (by decide) ?_
  refine r_sipush (v := 2500) dX11_init_103 (by decide) ?_
  refine i_multi (N := 6) (K := 2500) (by decide) (by decide) (by decide) (by decide) 97 Sh191_l Sh192 Hp5 (by decide +kernel) (ax_mzr_id (fun a h k => by simp only [Hp0, Hp1, Hp2, Hp3, Hp4, Hp5, ax_st]; repeat (rw [if_neg (by omega)]))) (by decide) Sh191_c (ca := 18) (sa := 21269) rfl rfl (by decide) (by decide) w_cl_X11_46 wOvI wArrI dX11_init_106 ?_
  refine i_putF clX11 12 (by decide) (show Sh192[85]? = some (11, 30, [some 86, some 87, none, some 88, some 89, some 90, some 91, some 92, some 93, some 94, some 95, some 96, none, none, none, none, none, none, none, none, none, none, none, none, none, none, none, none, none, none]) by decide +kernel) (by decide) rfl rfl rfl rfl (fun _ => rfl) (fun _ => rfl) wX11_48 Sh193 (by decide +kernel) dX11_init_110 ?_
  refine r_aload_n dX11_init_113 rfl ?_
  refine r_sipush (v := 2500) dX11_init_114 (by decide) ?_
  refine i_newI (N := 2500) (by decide) (by decide) 104 Sh193_l Sh194 Hp5 (by decide +kernel) (ax_zr_id (by intro k; simp [Hp0, Hp1, Hp2, Hp3, Hp4, Hp5, ax_st])) (by decide) Sh193_c (ca := 17) (sa := 18769) rfl rfl (by decide) (by decide) wArrI dX11_init_117 ?_
  refine i_putF clX11 13 (by decide) (show Sh194[85]? = some (11, 30, [some 86, some 87, none, some 88, some 89, some 90, some 91, some 92, some 93, some 94, some 95, some 96, some 97, none, none, none, none, none, none, none, none, none, none, none, none, none, none, none, none, none]) by decide +kernel) (by decide) rfl rfl rfl rfl (fun _ => rfl) (fun _ => rfl) wX11_51 Sh195 (by decide +kernel) dX11_init_119 ?_
  refine r_aload_n dX11_init_122 rfl ?_
  refine r_sipush (v := 2500) dX11_init_123 (by decide) ?_
  refine i_newI (N := 2500) (by decide) (by decide) 105 Sh195_l Sh196 Hp5 (by decide +kernel) (ax_zr_id (by intro k; simp [Hp0, Hp1, Hp2, Hp3, Hp4, Hp5, ax_st])) (by decide) Sh195_c (ca := 16) (sa := 16269) rfl rfl (by decide) (by decide) wArrI dX11_init_126 ?_
  refine i_putF clX11 14 (by decide) (show Sh196[85]? = some (11, 30, [some 86, some 87, none, some 88, some 89, some 90, some 91, some 92, some 93, some 94, some 95, some 96, some 97, some 104, none, none, none, none, none, none, none, none, none, none, none, none, none, none, none, none]) by decide +kernel) (by decide) rfl rfl rfl rfl (fun _ => rfl) (fun _ => rfl) wX11_54 Sh197 (by decide +kernel) dX11_init_128 ?_
  refine r_aload_n dX11_init_131 rfl ?_
  refine r_sipush (v := 2500) dX11_init_132 (by decide) ?_
  refine i_newI (N := 2500) (by decide) (by decide) 106 Sh197_l Sh198 Hp5 (by decide +kernel) (ax_zr_id (by intro k; simp [Hp0, Hp1, Hp2, Hp3, Hp4, Hp5, ax_st])) (by decide) Sh197_c (ca := 15) (sa := 13769) rfl rfl (by decide) (by decide) wArrI dX11_init_135 ?_
  refine i_putF clX11 15 (by decide) (show Sh198[85]? = some (11, 30, [some 86, some 87, none, some 88, some 89, some 90, some 91, some 92, some 93, some 94, some 95, some 96, some 97, some 104, some 105, none, none, none, none, none, none, none, none, none, none, none, none, none, none, none]) by decide +kernel) (by decide) rfl rfl rfl rfl (fun _ => rfl) (fun _ => rfl) wX11_57 Sh199 (by decide +kernel) dX11_init_137 ?_
  refine r_aload_n dX11_init_140 rfl ?_
  refine r_sipush (v := 2500) dX11_init_141 (by decide) ?_
  refine i_newI (N := 2500) (by decide) (by decide) 107 Sh199_l Sh200 Hp5 (by decide +kernel) (ax_zr_id (by intro k; simp [Hp0, Hp1, Hp2, Hp3, Hp4, Hp5, ax_st])) (by decide) Sh199_c (ca := 14) (sa := 11269) rfl rfl (by decide) (by decide) wArrI dX11_init_144 ?_
  refine i_putF clX11 16 (by decide) (show Sh200[85]? = some (11, 30, [some 86, some 87, none, some 88, some 89, some 90, some 91, some 92, some 93, some 94, some 95, some 96, some 97, some 104, some 105, some 106, none, none, none, none, none, none, none, none, none, none, none, none, none, none]) by decide +kernel) (by decide) rfl rfl rfl rfl (fun _ => rfl) (fun _ => rfl) wX11_60 Sh201 (by decide +kernel) dX11_init_146 ?_
  refine r_aload_n dX11_init_149 rfl ?_
  refine r_sipush (v := 2500) dX11_init_150 (by decide) ?_
  refine i_newI (N := 2500) (by decide) (by decide) 108 Sh201_l Sh202 Hp5 (by decide +kernel) (ax_zr_id (by intro k; simp [Hp0, Hp1, Hp2, Hp3, Hp4, Hp5, ax_st])) (by decide) Sh201_c (ca := 13) (sa := 8769) rfl rfl (by decide) (by decide) wArrI dX11_init_153 ?_
  refine i_putF clX11 17 (by decide) (show Sh202[85]? = some (11, 30, [some 86, some 87, none, some 88, some 89, some 90, some 91, some 92, some 93, some 94, some 95, some 96, some 97, some 104, some 105, some 106, some 107, none, none, none, none, none, none, none, none, none, none, none, none, none]) by decide +kernel) (by decide) rfl rfl rfl rfl (fun _ => rfl) (fun _ => rfl) wX11_63 Sh203 (by decide +kernel) dX11_init_155 ?_
  refine r_aload_n dX11_init_158 rfl ?_
  refine r_sipush (v := 2500) dX11_init_159 (by decide) ?_
  refine i_newI (N := 2500) (by decide) (by decide) 109 Sh203_l Sh204 Hp5 (by decide +kernel) (ax_zr_id (by intro k; simp [Hp0, Hp1, Hp2, Hp3, Hp4, Hp5, ax_st])) (by decide) Sh203_c (ca := 12) (sa := 6269) rfl rfl (by decide) (by decide) wArrI dX11_init_162 ?_
  refine i_putF clX11 18 (by decide) (show Sh204[85]? = some (11, 30, [some 86, some 87, none, some 88, some 89, some 90, some 91, some 92, some 93, some 94, some 95, some 96, some 97, some 104, some 105, some 106, some 107, some 108, none, none, none, none, none, none, none, none, none, none, none, none]) by decide +kernel) (by decide) rfl rfl rfl rfl (fun _ => rfl) (fun _ => rfl) wX11_66 Sh205 (by decide +kernel) dX11_init_164 ?_
  refine r_aload_n dX11_init_167 rfl ?_
  refine r_sipush (v := 2500) dX11_init_168 (by decide) ?_
  refine i_newI (N := 2500) (by decide) (by decide) 110 Sh205_l Sh206 Hp5 (by decide +kernel) (ax_zr_id (by intro k; simp [Hp0, Hp1, Hp2, Hp3, Hp4, Hp5, ax_st])) (by decide) Sh205_c (ca := 11) (sa := 3769) rfl rfl (by decide) (by decide) wArrI dX11_init_171 ?_
  refine i_putF clX11 19 (by decide) (show Sh206[85]? = some (11, 30, [some 86, some 87, none, some 88, some 89, some 90, some 91, some 92, some 93, some 94, some 95, some 96, some 97, some 104, some 105, some 106, some 107, some 108, some 109, none, none, none, none, none, none, none, none, none, none, none]) by decide +kernel) (by decide) rfl rfl rfl rfl (fun _ => rfl) (fun _ => rfl) wX11_69 Sh207 (by decide +kernel) dX11_init_173 ?_
  refine r_aload_n dX11_init_176 rfl ?_
  refine r_sipush (v := 2500) dX11_init_177 (by decide) ?_
  refine i_newI (N := 2500) (by decide) (by decide) 111 Sh207_l Sh208 Hp5 (by decide +kernel) (ax_zr_id (by intro k; simp [Hp0, Hp1, Hp2, Hp3, Hp4, Hp5, ax_st])) (by decide) Sh207_c (ca := 10) (sa := 1269) rfl rfl (by decide) (by decide) wArrI dX11_init_180 ?_
  refine i_putF clX11 20 (by decide) (show Sh208[85]? = some (11, 30, [some 86, some 87, none, some 88, some 89, some 90, some 91, some 92, some 93, some 94, some 95, some 96, some 97, some 104, some 105, some 106, some 107, some 108, some 109, some 110, none, none, none, none, none, none, none, none, none, none]) by decide +kernel) (by decide) rfl rfl rfl rfl (fun _ => rfl) (fun _ => rfl) wX11_72 Sh209 (by decide +kernel) dX11_init_182 ?_
  refine r_aload_n dX11_init_185 rfl ?_
  refine r_sipush (v := 1024) dX11_init_186 (by decide) ?_
  refine i_newZ (N := 1024) (by decide) (by decide) 112 Sh209_l Sh210 Hp5 (by decide +kernel) (ax_zr_id (by intro k; simp [Hp0, Hp1, Hp2, Hp3, Hp4, Hp5, ax_st])) (by decide) Sh209_c (ca := 9) (sa := 245) rfl rfl (by decide) (by decide) wArrZ dX11_init_189 ?_
  refine i_putF clX11 21 (by decide) (show Sh210[85]? = some (11, 30, [some 86, some 87, none, some 88, some 89, some 90, some 91, some 92, some 93, some 94, some 95, some 96, some 97, some 104, some 105, some 106, some 107, some 108, some 109, some 110, some 111, none, none, none, none, none, none, none, none, none]) by decide +kernel) (by decide) rfl rfl rfl rfl (fun _ => rfl) (fun _ => rfl) wX11_75 Sh211 (by decide +kernel) dX11_init_191 ?_
  refine r_aload_n dX11_init_194 rfl ?_
  refine r_bipush (v := 60) dX11_init_195 (by decide) ?_
  refine i_newI (N := 60) (by decide) (by decide) 113 Sh211_l Sh212 Hp5 (by decide +kernel) (ax_zr_id (by intro k; simp [Hp0, Hp1, Hp2, Hp3, Hp4, Hp5, ax_st])) (by decide) Sh211_c (ca := 8) (sa := 185) rfl rfl (by decide) (by decide) wArrI dX11_init_197 ?_
  refine i_putF clX11 22 (by decide) (show Sh212[85]? = some (11, 30, [some 86, some 87, none, some 88, some 89, some 90, some 91, some 92, some 93, some 94, some 95, some 96, some 97, some 104, some 105, some 106, some 107, some 108, some 109, some 110, some 111, some 112, none, none, none, none, none, none, none, none]) by decide +kernel) (by decide) rfl rfl rfl rfl (fun _ => rfl) (fun _ => rfl) wX11_78 Sh213 (by decide +kernel) dX11_init_199 ?_
  refine r_aload_n dX11_init_202 rfl ?_
  refine r_bipush (v := 9) dX11_init_203 (by decide) ?_
  refine i_newI (N := 9) (by decide) (by decide) 114 Sh213_l Sh214 Hp5 (by decide +kernel) (ax_zr_id (by intro k; simp [Hp0, Hp1, Hp2, Hp3, Hp4, Hp5, ax_st])) (by decide) Sh213_c (ca := 7) (sa := 176) rfl rfl (by decide) (by decide) wArrI dX11_init_205 ?_
  refine i_putF clX11 25 (by decide) (show Sh214[85]? = some (11, 30, [some 86, some 87, none, some 88, some 89, some 90, some 91, some 92, some 93, some 94, some 95, some 96, some 97, some 104, some 105, some 106, some 107, some 108, some 109, some 110, some 111, some 112, some 113, none, none, none, none, none, none, none]) by decide +kernel) (by decide) rfl rfl rfl rfl (fun _ => rfl) (fun _ => rfl) wX11_81 Sh215 (by decide +kernel) dX11_init_207 ?_
  refine r_aload_n dX11_init_210 rfl ?_
  refine r_bipush (v := 120) dX11_init_211 (by decide) ?_
  refine i_newI (N := 120) (by decide) (by decide) 115 Sh215_l Sh216 Hp5 (by decide +kernel) (ax_zr_id (by intro k; simp [Hp0, Hp1, Hp2, Hp3, Hp4, Hp5, ax_st])) (by decide) Sh215_c (ca := 6) (sa := 56) rfl rfl (by decide) (by decide) wArrI dX11_init_213 ?_
  refine i_putF clX11 26 (by decide) (show Sh216[85]? = some (11, 30, [some 86, some 87, none, some 88, some 89, some 90, some 91, some 92, some 93, some 94, some 95, some 96, some 97, some 104, some 105, some 106, some 107, some 108, some 109, some 110, some 111, some 112, some 113, none, none, some 114, none, none, none, none]) by decide +kernel) (by decide) rfl rfl rfl rfl (fun _ => rfl) (fun _ => rfl) wX11_84 Sh217 (by decide +kernel) dX11_init_215 ?_
  refine r_aload_n dX11_init_218 rfl ?_
  refine r_iconst dX11_init_219 ?_
  refine i_newI (N := 4) (by decide) (by decide) 116 Sh217_l Sh218 Hp5 (by decide +kernel) (ax_zr_id (by intro k; simp [Hp0, Hp1, Hp2, Hp3, Hp4, Hp5, ax_st])) (by decide) Sh217_c (ca := 5) (sa := 52) rfl rfl (by decide) (by decide) wArrI dX11_init_220 ?_
  refine r_dup dX11_init_222 (fun _ => rfl) ?_
  refine r_iconst dX11_init_223 ?_
  refine r_iconst dX11_init_224 ?_
  refine i_iast (show Sh218[116]? = some (100, 4, []) by decide +kernel) (by decide) dX11_init_225 (by decide) (by decide) Hp6 rfl ?_
  refine r_dup dX11_init_226 (fun _ => rfl) ?_
  refine r_iconst dX11_init_227 ?_
  refine r_iconst dX11_init_228 ?_
  refine i_iast (show Sh218[116]? = some (100, 4, []) by decide +kernel) (by decide) dX11_init_229 (by decide) (by decide) Hp7 rfl ?_
  refine r_dup dX11_init_230 (fun _ => rfl) ?_
  refine r_iconst dX11_init_231 ?_
  refine r_iconst dX11_init_232 ?_
  refine i_iast (show Sh218[116]? = some (100, 4, []) by decide +kernel) (by decide) dX11_init_233 (by decide) (by decide) Hp8 rfl ?_
  refine r_dup dX11_init_234 (fun _ => rfl) ?_
  refine r_iconst dX11_init_235 ?_
  refine r_iconst dX11_init_236 ?_
  refine i_iast (show Sh218[116]? = some (100, 4, []) by decide +kernel) (by decide) dX11_init_237 (by decide) (by decide) Hp9 rfl ?_
  refine i_putF clX11 28 (by decide) (show Sh218[85]? = some (11, 30, [some 86, some 87, none, some 88, some 89, some 90, some 91, some 92, some 93, some 94, some 95, some 96, some 97, some 104, some 105, some 106, some 107, some 108, some 109, some 110, some 111, some 112, some 113, none, none, some 114, some 115, none, none, none]) by decide +kernel) (by decide) rfl rfl rfl rfl (fun _ => rfl) (fun _ => rfl) wX11_87 Sh219 (by decide +kernel) dX11_init_238 ?_
  refine r_aload_n dX11_init_241 rfl ?_
  refine r_iconst dX11_init_242 ?_
  refine r_bipush (v := 12) dX11_init_243 (by decide) ?_
  refine i_multi (N := 4) (K := 12) (by decide) (by decide) (by decide) (by decide) 117 Sh219_l Sh220 Hp9 (by decide +kernel) (ax_mzr_id (fun a h k => by simp only [Hp0, Hp1, Hp2, Hp3, Hp4, Hp5, Hp6, Hp7, Hp8, Hp9, ax_st]; repeat (rw [if_neg (by omega)]))) (by decide) Sh219_c (ca := 0) (sa := 0) rfl rfl (by decide) (by decide) w_cl_X11_46 wOvI wArrI dX11_init_245 ?_
  refine i_putF clX11 29 (by decide) (show Sh220[85]? = some (11, 30, [some 86, some 87, none, some 88, some 89, some 90, some 91, some 92, some 93, some 94, some 95, some 96, some 97, some 104, some 105, some 106, some 107, some 108, some 109, some 110, some 111, some 112, some 113, none, none, some 114, some 115, none, some 116, none]) by decide +kernel) (by decide) rfl rfl rfl rfl (fun _ => rfl) (fun _ => rfl) wX11_90 Sh221 (by decide +kernel) dX11_init_249 ?_
  exact r_vret dX11_init_252 rfl ⟨rfl, rfl, rfl⟩
theorem F_last : Sh221 = S0 := by decide +kernel
