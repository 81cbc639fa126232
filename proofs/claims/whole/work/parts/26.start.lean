theorem wL7 : Cond.classLink "KeptCurvesLaw" 7 "KeptCurves" ∈ ax_tb := (ax_in1_1 (i := 15) rfl rfl)
theorem wL10 : Cond.classLink "KeptCurvesLaw" 10 "KeptCurvesModel" ∈ ax_tb := (ax_in1_4 (i := 99) rfl rfl)
theorem wL9m : Cond.methodLink "KeptCurvesLaw" 9 ⟨"KeptCurves", "<init>", "()V"⟩ ∈ ax_tb := (ax_in1_1 (i := 17) rfl rfl)
theorem wL12m : Cond.methodLink "KeptCurvesLaw" 12 ⟨"KeptCurvesModel", "<init>", "()V"⟩ ∈ ax_tb := (ax_in1_4 (i := 101) rfl rfl)
/-- the law's entry: both objects are made -/
theorem law_in {d L : Nat} {xs : Int → Int} (hloop : RLw (d + 14) L xs 18 [some (ax_r 1000001), some (ax_r 0), some (ax_r 85), some (ax_i 0)] Hp9) : Rn (d + 14, 122, 86649, some (L, xs)) kL_law 0 [some (ax_r 1000001), none, none, none] [] [] Hp0 (fun v _ _ => v = some (ax_i 1)) := by
  refine i_new clX10 0 rfl Sh0 Hp0 (by decide +kernel) (ax_zr_id (by intro k; rfl)) (by decide) (by decide +kernel : ax_closed [] = true) (ca := 121) (sa := 86635) rfl rfl (by decide) (by decide) wL7 wIn10 wNi10 dL_law_0 ?_
  refine r_dup dL_law_3 (fun _ => rfl) ?_
  refine r_callA (d := d + 13) (mc := 84) (ms := 36105) (as := [ax_r 0]) (how_I jX10_init jIX10_init rfl rfl rfl wL9m dL_law_4) rfl (Nat.le_refl _) (Nat.le_of_ble_eq_true rfl) (Nat.le_of_ble_eq_true rfl) (Nat.le_of_ble_eq_true rfl) (fun _ => Nat.le_of_ble_eq_true rfl) (by rw [Sh0_l]; decide) (by rw [Sh0_l]; decide) (in_0 (d := d + 9)) (fun v S9 I9 h9 => ?_)
  obtain ⟨rfl, rfl, rfl⟩ := h9
  refine ax_room (ca := 37) (sa := 50530) (by show (121 - 84 : Nat) = 37; decide) (by show (86635 - 36105 : Nat) = 50530; decide) ?_
  show Rn _ _ _ _ [ax_r 0] _ _ _
  refine r_astore_n dL_law_7 (by decide) rfl ?_
  refine i_new clX11 85 Sh168_l Sh169 Hp5 (by decide +kernel) (ax_zr_id (by intro k; simp [Hp0, Hp1, Hp2, Hp3, Hp4, Hp5, ax_st])) (by decide) Sh168_c (ca := 36) (sa := 50500) rfl rfl (by decide) (by decide) wL10 wIn11 wNi11 dL_law_8 ?_
  refine r_dup dL_law_11 (fun _ => rfl) ?_
  refine r_callA (d := d + 13) (mc := 36) (ms := 50500) (as := [ax_r 85]) (how_I jX11_init jIX11_init rfl rfl rfl wL12m dL_law_12) rfl (Nat.le_refl _) (Nat.le_of_ble_eq_true rfl) (Nat.le_of_ble_eq_true rfl) (Nat.le_of_ble_eq_true rfl) (fun _ => Nat.le_of_ble_eq_true rfl) (by rw [Sh169_l]; decide) (by rw [Sh169_l]; decide) (in_85 (d := d + 12)) (fun v S9 I9 h9 => ?_)
  obtain ⟨rfl, rfl, rfl⟩ := h9
  refine ax_room (ca := 0) (sa := 0) (by show (36 - 36 : Nat) = 0; decide) (by show (50500 - 50500 : Nat) = 0; decide) ?_
  show Rn _ _ _ _ [ax_r 85] _ _ _
  refine r_astore_n dL_law_15 (by decide) rfl ?_
  refine r_iconst dL_law_16 ?_
  refine r_istore_n dL_law_17 (by decide) rfl ?_
  rw [F_last]
  exact hloop
theorem ax_arrI {s : State} {args : Array Value} {ty : FieldType} (h : (Cond.arrayClass ty).before args s = true) : ∃ cA : ClassId, ArrOfT s cA ty ∧ s.vm.findClass ("[" ++ ty.toString) = some cA := by
  obtain ⟨c, k, comp, h1, h2, h3⟩ := Cond.arrayClass_spec h
  exact ⟨c, fun n z => ⟨fun k h => (by cases h), k, h2, comp, h3⟩, h1⟩
theorem ax_arrP {s : State} {args : Array Value} {C : String} (h : (Cond.arrayOver (.object C)).before args s = true) : ∃ cA : ClassId, ArrOfT s cA (.object C) ∧ va_RA s cA (.object C) := by
  obtain ⟨comp, c, k, h1, -, h3, h4, h5⟩ := Cond.arrayOver_spec h
  exact ⟨c, fun n z => ⟨fun k h => (by cases h), k, h3, comp, h4⟩, k, comp, h3, h4, h1, h5⟩
theorem ax_arrA {s : State} {args : Array Value} {t : FieldType} (h : (Cond.arrayOver (.array t)).before args s = true) : ∃ cA : ClassId, ArrOfT s cA (.array t) ∧ s.vm.findClass ("[" ++ (FieldType.array t).toString) = some cA := by
  obtain ⟨comp, c, k, h1, h3, h4, h5⟩ := Cond.arrayOver_specA h
  exact ⟨c, fun n z => ⟨fun k h => (by cases h), k, h3, comp, h4⟩, h5⟩
theorem ax_hp0 (a : Nat) (i : Int) : ax_R (Hp0 a i) := by show ax_R 0; decide
theorem ax_ext0 {n : Nat} {f : Nat → Nat} : (fun i => if i = 1000000 then n else f i) 1000000 = n := by simp
set_option maxRecDepth 100000 in
set_option maxHeartbeats 4000000 in
/-- the law's body out of its loop -/
theorem start_open {p : Program} {e : Env} {s : State} {m : MethodId} {below : List Frame} {meth : Method} {c : Code} (l : Launch) {b L : Nat} {xs : Nat → Int32} (QQ : State → Prop)
    (hloop : ∀ xs : Int → Int, (∀ n, ax_R (xs n)) → RLw 14 L xs 18 [some (ax_r 1000001), some (ax_r 0), some (ax_r 85), some (ax_i 0)] Hp9)
    (hx : p.tables.exec = Jvm.exec) (hb : c.code = code) (hr : meth.sig.returnType = ret) (hml : c.maxLocals = 4) (hown : s.vm.findClass "KeptCurvesLaw" = some m.cls) (hts : ∀ w ∈ lw_tbl, w.before #[Value.ref b] s = true) (hX : va_X b L xs s s.heap) (hbl : b < s.heap.size) (hlocks : meth.locks = false) (hgv : (Jvm.Cond.and given_1 narrow_1).before #[Value.ref b] s = true)
    (hret : ∀ (pc' : Nat) (ls' : Array Slot) (H' : Heap) (locs' : List Loc), decode code pc' = .ok (.ireturn, 1) → (∀ q ∈ locs', s.heap.size ≤ q.base) → W p l e room_1 s m #[Value.ref b] below meth c H' locs' 600000 7302250 QQ (F0 m pc' ls' [.int 1])) :
    W p l e room_1 s m #[Value.ref b] below meth c s.heap [] 0 0 QQ (entryFrame m ([Value.ref b] : List Value).toArray 4) := by
  have htb : ∀ w ∈ ax_tb, w.before #[Value.ref b] s = true := fun w hw => hts w (List.mem_filter.mp hw).1
  have hns : ∀ w ∈ ax_nst, w.before #[Value.ref b] s = true := fun w hw => hts w (List.mem_filter.mp hw).1
  have hA : ∀ a : Nat, a < s.heap.size → ¬ (fun q : Nat => s.heap.size ≤ q) a := fun a h => Nat.not_le.mpr h
  obtain ⟨c0, iS0, hK0⟩ := u_known (C := RX0) (T := TX0) (N := 2) (n := 2) htb wiX0 (htb _ wIn0)
  obtain ⟨c1, iS1, hK1⟩ := u_known (C := RX1) (T := TX1) (N := 10) (n := 10) htb wiX1 (htb _ wIn1)
  obtain ⟨c2, iS2, hK2⟩ := u_known (C := RX2) (T := TX2) (N := 13) (n := 13) htb wiX2 (htb _ wIn2)
  obtain ⟨c3, iS3, hK3⟩ := u_known (C := RX3) (T := TX3) (N := 2) (n := 2) htb wiX3 (htb _ wIn3)
  obtain ⟨c4, iS4, hK4⟩ := u_known (C := RX4) (T := TX4) (N := 2) (n := 2) htb wiX4 (htb _ wIn4)
  obtain ⟨c5, iS5, hK5⟩ := u_known (C := RX5) (T := TX5) (N := 5) (n := 5) htb wiX5 (htb _ wIn5)
  obtain ⟨c6, iS6, hK6⟩ := u_known (C := RX6) (T := TX6) (N := 3) (n := 3) htb wiX6 (htb _ wIn6)
  obtain ⟨c7, iS7, hK7⟩ := u_known (C := RX7) (T := TX7) (N := 2) (n := 2) htb wiX7 (htb _ wIn7)
  obtain ⟨c8, iS8, hK8⟩ := u_known (C := RX8) (T := TX8) (N := 2) (n := 2) htb wiX8 (htb _ wIn8)
  obtain ⟨c9, iS9, hK9⟩ := u_known (C := RX9) (T := TX9) (N := 1) (n := 1) htb wiX9 (htb _ wIn9)
  obtain ⟨c10, iS10, hK10⟩ := u_known (C := RX10) (T := TX10) (N := 14) (n := 14) htb wiX10 (htb _ wIn10)
  obtain ⟨c11, iS11, hK11⟩ := u_known (C := RX11) (T := TX11) (N := 30) (n := 30) htb wiX11 (htb _ wIn11)
  obtain ⟨cI, hI1, hI2⟩ := ax_arrI (htb _ wArrI)
  obtain ⟨cZ, hZ1, hZ2⟩ := ax_arrI (htb _ wArrZ)
  obtain ⟨cP, hP1, hP2⟩ := ax_arrP (hns _ wOvP)
  obtain ⟨cA, hA1, hA2⟩ := ax_arrA (hns _ wOvI)
  obtain ⟨D, hK⟩ : ∃ D : va_G, va_K D vwCl (ax_tys (cI, cZ, cP, cA)) s := by
    refine ⟨(fun k => match k with | 0 => c0 | 1 => c1 | 2 => c2 | 3 => c3 | 4 => c4 | 5 => c5 | 6 => c6 | 7 => c7 | 8 => c8 | 9 => c9 | 10 => c10 | _ => c11, fun k => match k with | 0 => iS0 | 1 => iS1 | 2 => iS2 | 3 => iS3 | 4 => iS4 | 5 => iS5 | 6 => iS6 | 7 => iS7 | 8 => iS8 | 9 => iS9 | 10 => iS10 | _ => iS11), ?_⟩
    refine ⟨fun k q hq => ?_, fun k q hq => ?_⟩
    · match k, hq with
      | 0, hq => cases hq; exact hK0
      | 1, hq => cases hq; exact hK1
      | 2, hq => cases hq; exact hK2
      | 3, hq => cases hq; exact hK3
      | 4, hq => cases hq; exact hK4
      | 5, hq => cases hq; exact hK5
      | 6, hq => cases hq; exact hK6
      | 7, hq => cases hq; exact hK7
      | 8, hq => cases hq; exact hK8
      | 9, hq => cases hq; exact hK9
      | 10, hq => cases hq; exact hK10
      | 11, hq => cases hq; exact hK11
      | k + 12, hq => simp [vwCl] at hq
    · match k, hq with
      | 0, hq => cases hq; exact ⟨hI1, hI2⟩
      | 1, hq => cases hq; exact ⟨hZ1, hZ2⟩
      | 2, hq => cases hq; exact ⟨hP1, hP2⟩
      | 3, hq => cases hq; exact ⟨hA1, hA2⟩
      | k + 4, hq => simp at hq
  have hfl := flat_of_before _ hgv
  obtain ⟨t, ht, hT⟩ := va_Tof (s := s) (args := #[Value.ref b]) (tm := .static "KeptCurves" "INVERSE" "[I") (ty := .int) (N := 31) (f := fun j => .int (Int32.ofInt (ax_inv (j : Int)))) (A := fun q : Nat => s.heap.size ≤ q) (by decide) (hfl _ (by decide +kernel)) (va_eqt (hfl _ (by decide +kernel))) (by
    intro j hj
    rcases (show j = 0 ∨ j = 1 ∨ j = 2 ∨ j = 3 ∨ j = 4 ∨ j = 5 ∨ j = 6 ∨ j = 7 ∨ j = 8 ∨ j = 9 ∨ j = 10 ∨ j = 11 ∨ j = 12 ∨ j = 13 ∨ j = 14 ∨ j = 15 ∨ j = 16 ∨ j = 17 ∨ j = 18 ∨ j = 19 ∨ j = 20 ∨ j = 21 ∨ j = 22 ∨ j = 23 ∨ j = 24 ∨ j = 25 ∨ j = 26 ∨ j = 27 ∨ j = 28 ∨ j = 29 ∨ j = 30 by omega) with rfl | rfl | rfl | rfl | rfl | rfl | rfl | rfl | rfl | rfl | rfl | rfl | rfl | rfl | rfl | rfl | rfl | rfl | rfl | rfl | rfl | rfl | rfl | rfl | rfl | rfl | rfl | rfl | rfl | rfl | rfl <;> exact va_eqt (hfl _ (by decide +kernel))) hA
  have hZ := va_Zof (s := s) (args := #[Value.ref b]) (C := "KeptCurves") (n := "INVERSE") (d := "[I") (A := fun q : Nat => s.heap.size ≤ q) (hts _ (show Cond.laysStatic "KeptCurves" "INVERSE" "[I" ∈ k2_sels lw_privs ++ tables_1 from (List.mem_append_right _ (List.mem_append_right _ (List.mem_append_left _ (List.mem_of_getElem? (i := 142) rfl)))))) (htb _ wNi10) ht hA
  have C : ax_C kL_law p s m #[Value.ref b] meth c := ⟨hx, hb, hml, hown, htb, hr, hlocks, fun h => absurd h (by decide), hns⟩
  have hxs : ∀ n : Int, ax_R ((xs n.toNat).toInt) := fun n => ⟨Int32.le_toInt _, Int32.toInt_lt _⟩
  have K := law_in (d := 0) (L := L) (xs := fun n => (xs n.toNat).toInt) (hloop _ hxs)
  have hl := lv_entry ([.ref b]) (n := 4) (Nat.le_of_ble_eq_true rfl)
  rw [lg_entry_eq]
  generalize (lg_sl ([.ref b]) ++ List.replicate (4 - (lg_sl ([.ref b])).length) Slot.unset).toArray = ls at hl ⊢
  have hXX : ax_X D (cI, cZ, cP, cA) (fun q : Nat => s.heap.size ≤ q) s s.heap [] (fun i => if i = 1000000 then t else b) [] Hp0 (some (L, fun n => (xs n.toNat).toInt)) := by
    refine ⟨fun k q h => by simp [ax_w] at h, ⟨fun i j p q h => by simp [ax_w] at h, fun k q h => by simp [ax_w] at h⟩, hK, va_S.rf, fun q h => h, hZ, hT, ax_hp0, ?_⟩
    refine ⟨?_, hbl, Nat.not_le.mpr hbl⟩
    have e : (fun j : Nat => Int32.ofInt ((fun n : Int => (xs n.toNat).toInt) (j : Int))) = xs := by
      funext j
      show Int32.ofInt ((xs ((j : Int)).toNat).toInt) = xs j
      rw [Int32.ofInt_toInt]
      rfl
    rw [e]
    exact hX
  refine K p l e room_1 s m #[Value.ref b] below meth c QQ D (cI, cZ, cP, cA) _ 600000 7302250 C (by show 0 + 14 ≤ 2048; decide) (by show 60 * (0 + 14) ≤ 84000; decide) (Nat.le_refl _) (Nat.le_refl _) s.heap [] 0 0 (fun i => if i = 1000000 then t else b) ls hXX hl (by show 0 + 122 ≤ 600000; decide) (by show 0 + 86649 ≤ 7302250; decide) ?_
  intro pc' ls' v S' I' ad' H' locs' hq hx' hr' he
  subst hq
  exact hret pc' ls' H' locs' hr'.1 (fun q hq => hx'.2.2.2.1.2.2 q hq)
