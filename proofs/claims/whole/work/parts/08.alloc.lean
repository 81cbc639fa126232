/-! making cells -/
def ax_zr (I : ax_H) (a : Nat) : ax_H := fun b j => if b = a then 0 else I b j
theorem ax_cell_congr {cs : ax_Cs} {ad ad' : Nat → Nat} {I I' : ax_H} {i : Nat} {r : Nat × Nat × List (Option Nat)} (h : I' i = I i) (hr : ∀ b, some b ∈ r.2.2 → ad' b = ad b) : ax_cell cs ad' I' i r = ax_cell cs ad I i r := by
  have key : ∀ j, (r.2.2.getD j none).map ad' = (r.2.2.getD j none).map ad := by
    intro j
    cases hj : r.2.2[j]? with
    | none => simp [hj]
    | some o =>
      cases o with
      | none => simp [hj]
      | some b =>
        have := hr b (List.mem_of_getElem? hj)
        simp [hj, this]
  unfold ax_cell
  rw [h]
  simp only [key]
/-- all references of the shape are numbers of cells that are there -/
def ax_cl1 (n : Nat) (r : Nat × Nat × List (Option Nat)) : Bool := r.2.2.all (fun o => match o with | none => true | some b => decide (b < n))
def ax_closed (S : ax_Sh) : Bool := S.all (ax_cl1 S.length)
theorem ax_closed_at {S : ax_Sh} (h : ax_closed S = true) {i b : Nat} (hi : i < S.length) (hb : some b ∈ (S.getD i (0, 0, [])).2.2) : b < S.length := by
  have h1 := List.all_eq_true.mp h (S.getD i (0, 0, [])) (by rw [List.getD_eq_getElem?_getD, List.getElem?_eq_getElem hi]; exact List.getElem_mem hi)
  have h2 := List.all_eq_true.mp h1 (some b) hb
  simpa using h2
theorem ax_up_ext {S : ax_Sh} {ad : Nat → Nat} {q : Nat} {r : Nat × Nat × List (Option Nat)} (hS : S.length < 1000000) : ax_ext S ad (S ++ [r]) (va_up ad S.length q) := by
  refine ⟨by simp, fun i hi => ?_, fun h => by simp at h⟩
  unfold va_up
  rw [if_neg (by omega)]
theorem ax_w_push {cs : ax_Cs} {ad : Nat → Nat} {S : ax_Sh} {I : ax_H} {q : Nat} {r : Nat × Nat × List (Option Nat)} {e : va_E} (hcl : ax_closed S = true) (he : ax_cell cs (va_up ad S.length q) (ax_zr I S.length) S.length r = e) : ax_w cs ad S I ++ [(q, e)] = ax_w cs (va_up ad S.length q) (S ++ [r]) (ax_zr I S.length) := by
  unfold ax_w
  rw [List.length_append, List.length_singleton, List.range_succ, List.map_append]
  congr 1
  · apply List.map_congr_left
    intro i hi
    have hi : i < S.length := List.mem_range.mp hi
    have h1 : va_up ad S.length q i = ad i := by unfold va_up; rw [if_neg (by omega)]
    have h2 : (S ++ [r]).getD i (0, 0, []) = S.getD i (0, 0, []) := by
      rw [List.getD_eq_getElem?_getD, List.getD_eq_getElem?_getD, List.getElem?_append_left hi]
    rw [h1, h2]
    congr 1
    refine (ax_cell_congr ?_ ?_).symm
    · funext j
      simp [ax_zr, show ¬ i = S.length by omega]
    · intro b hb
      have := ax_closed_at hcl hi hb
      unfold va_up
      rw [if_neg (by omega)]
  · have h2 : (S ++ [r]).getD S.length (0, 0, []) = r := by
      rw [List.getD_eq_getElem?_getD, List.getElem?_append_right (Nat.le_refl _)]
      simp
    simp only [List.map_cons, List.map_nil]
    rw [h2, he]
    simp [va_up]
theorem ax_zr_R {I : ax_H} {a : Nat} (h : ∀ b j, ax_R (I b j)) : ∀ b j, ax_R (ax_zr I a b j) := by
  intro b j
  unfold ax_zr
  split
  · decide
  · exact h b j
/-- a step that makes one cell of n slots -/
theorem ax_mk {dd : ax_D} {k : ax_K} {pc pc' : Nat} {ls : ax_L} {st st2 : List ax_V} {S : ax_Sh} {I : ax_H} {Q : Option ax_V → ax_Sh → ax_H → Prop} {r : Nat × Nat × List (Option Nat)} {ca sa : Nat} (hS : S.length < 1000000) (hcl : ax_closed S = true) (hca : dd.2.1 = ca + 1) (hsa : dd.2.2.1 = sa + r.2.1) (hv1 : ax_vl S.length st2 = true) (hv2 : ax_vo S.length ls = true)
    (K : Rn (dd.1, ca, sa, dd.2.2.2) k pc' ls (ax_r S.length :: st2) (S ++ [r]) (ax_zr I S.length) Q)
    (h : ∀ (p : Program) (l : Launch) (e : Env) (R : Room) (s : State) (m : MethodId) (args : Array Value) (below : List Frame) (meth : Method) (c : Code) (QQ : State → Prop) (D : va_G) (cs : ax_Cs) (A : Nat → Prop) (H : Heap) (locs : List Loc) (cells slots : Nat) (ad : Nat → Nat) (ls' : Array Slot),
      ax_C k p s m args meth c → ax_X D cs A s H locs ad S I dd.2.2.2 → lv_has ls' k.2.2.1 (ax_lv ad 0 ls) → cells + 1 ≤ R.cells → slots + r.2.1 ≤ R.slots →
      (∀ (H1 : Heap) (q : Nat) (ws : va_W), ws = ax_w cs (va_up ad S.length q) (S ++ [r]) (ax_zr I S.length) → va_P D vwCl ws H1 → va_D A ws → va_S A s.heap H1 locs → W p l e R s m args below meth c H1 locs (cells + 1) (slots + r.2.1) QQ (F0 m pc' ls' (.ref q :: st2.map (ax_tr ad)))) →
      W p l e R s m args below meth c H locs cells slots QQ (F0 m pc ls' (st.map (ax_tr ad)))) :
    Rn dd k pc ls st S I Q := by
  intro p l e R s m args below meth c QQ D cs A MC MS C h1 h2 h3 h4 H locs cells slots ad ls' X hl hc hs hk
  refine h p l e R s m args below meth c QQ D cs A H locs cells slots ad ls' C X hl (by omega) (by omega) (fun H1 q ws hws hP hD hS2 => ?_)
  subst hws
  have he : ax_ext S ad (S ++ [r]) (va_up ad S.length q) := ax_up_ext hS
  have e6 : va_up ad S.length q 1000000 = ad 1000000 := he.2.1 _ (Or.inr (Nat.le_refl _))
  have e7 : va_up ad S.length q 1000001 = ad 1000001 := he.2.1 _ (Or.inr (by omega))
  have X' : ax_X D cs A s H1 locs (va_up ad S.length q) (S ++ [r]) (ax_zr I S.length) dd.2.2.2 := by
    refine ⟨hP, hD, X.2.2.1, hS2, X.2.2.2.2.1, by rw [e6]; exact X.2.2.2.2.2.1, by rw [e6]; exact X.2.2.2.2.2.2.1, ax_zr_R X.2.2.2.2.2.2.2.1, ?_⟩
    have := X.2.2.2.2.2.2.2.2
    unfold ax_sc at this ⊢
    rw [e7]
    exact this
  have := K p l e R s m args below meth c QQ D cs A MC MS C h1 h2 h3 h4 H1 locs (cells + 1) (slots + r.2.1) (va_up ad S.length q) ls' X' (by rw [ax_vo_map he ls 0 hv2]; exact hl) (by show cells + 1 + ca ≤ MC; omega) (by show slots + r.2.1 + sa ≤ MS; omega) (fun pc' ls' v S2 I2 ad2 H2 locs2 hq2 hx2 hr2 he2 => hk pc' ls' v S2 I2 ad2 H2 locs2 hq2 hx2 hr2 (he.trans he2))
  rw [List.map_cons, ax_vl_map he st2 hv1] at this
  have e8 : ax_tr (va_up ad S.length q) (ax_r S.length) = .ref q := by simp [ax_tr, va_up]
  rw [e8] at this
  exact this
section
variable {dd : ax_D} {k : ax_K} {pc : Nat} {ls : ax_L} {st : List ax_V} {S : ax_Sh} {I : ax_H} {Q : Option ax_V → ax_Sh → ax_H → Prop}
theorem r_new {ci : Nat} {C : String} {T : u_T} {N : Nat} {ty : Nat → FieldType} {idx ca sa : Nat} (hc : ax_cl ci C T N ty) (hS : S.length < 1000000) (hcl : ax_closed S = true) (hca : dd.2.1 = ca + 1) (hsa : dd.2.2.1 = sa + N) (hv1 : ax_vl S.length st = true) (hv2 : ax_vo S.length ls = true)
    (hw1 : Cond.classLink k.1.cls idx C ∈ ax_tb) (hw2 : Cond.instantiable C N ∈ ax_tb) (hw3 : Cond.initialized C ∈ ax_tb) (hd : decode k.2.1 pc = .ok (.new idx, 3)) (K : Rn (dd.1, ca, sa, dd.2.2.2) k (pc + 3) ls (ax_r S.length :: st) (S ++ [(ci, N, List.replicate N none)]) (ax_zr I S.length) Q) : Rn dd k pc ls st S I Q :=
  ax_mk (r := (ci, N, List.replicate N none)) hS hcl hca hsa hv1 hv2 K fun _ _ _ _ _ _ _ _ _ _ _ D cs A H locs _ _ ad ls' C2 X hl h1 h2 w => by
    refine va_new (D := D) (ci := ci) (fs := (List.range N).map (fun j => if ax_isr ci j then .null else .int 0)) C2.1 C2.2.1 C2.2.2.2.2.1 hc.2.2.1 ty hc.2.2.2.1 C2.2.2.2.1 (C2.2.2.2.2.1 _ hw1) (C2.2.2.2.2.1 _ hw2) (C2.2.2.2.2.1 _ hw3) X.2.2.1 X.1 X.2.1 X.2.2.2.1 X.2.2.2.2.1 hc.2.1 ?_ h1 h2 hd (fun q H1 hP hD hS2 => w H1 q _ ?_ hP hD hS2)
    · intro j hj
      rw [hc.2.2.2.2.2 j hj]
      simp [vp_V, hj]
    · refine ax_w_push hcl ?_
      rw [show ax_cell cs (va_up ad S.length q) (ax_zr I S.length) S.length (ci, N, List.replicate N none) = _ from if_pos hc.1]
      congr 2
      apply List.map_congr_left
      intro j hj
      have hj : j < N := List.mem_range.mp hj
      simp [ax_zr, hj, va_rf]
theorem ax_cid {U : State} {t : FieldType} {a b : ClassId} (h1 : U.vm.findClass ("[" ++ t.toString) = some a) (h2 : U.vm.findClass ("[" ++ t.toString) = some b) : a = b := Option.some.inj (h1.symm.trans h2)
theorem r_newI {n : Int} {N ca sa : Nat} (hN : n = (N : Int)) (hlt : N ≤ 100000) (hS : S.length < 1000000) (hcl : ax_closed S = true) (hca : dd.2.1 = ca + 1) (hsa : dd.2.2.1 = sa + N) (hv1 : ax_vl S.length st = true) (hv2 : ax_vo S.length ls = true) (hw : Cond.arrayClass .int ∈ ax_tb)
    (hd : decode k.2.1 pc = .ok (.newarray .int, 2)) (K : Rn (dd.1, ca, sa, dd.2.2.2) k (pc + 2) ls (ax_r S.length :: st) (S ++ [(100, N, [])]) (ax_zr I S.length) Q) : Rn dd k pc ls (ax_i n :: st) S I Q :=
  ax_mk (r := (100, N, [])) hS hcl hca hsa hv1 hv2 K fun _ _ _ _ _ _ _ _ _ _ _ D cs A H locs _ _ ad ls' C2 X hl h1 h2 w => by
    subst hN
    refine va_newa (D := D) (atype := .int) (ty := .int) (N' := N) (a0 := (N, .inl (fun _ => 0))) C2.1 C2.2.1 (C2.2.2.2.2.1 _ hw) rfl X.2.2.1 X.1 X.2.1 X.2.2.2.1 X.2.2.2.2.1 (fun cA => by rfl) (fun h => by have := (ax_lt (x := (N : Int)) (y := 0) ⟨by omega, by omega⟩ ax_R0).mp h; omega) (by rw [ax_nat (by omega) (by omega)]; omega) (by show N * 4 ≤ _; omega) h1 h2 hd (fun q cA H1 hK hP hD hS2 => w H1 q _ ?_ hP hD hS2)
    refine ax_w_push hcl ?_
    have e : cA = cs.1 := ax_cid (U := _) (t := .int) (hK.2 4 (cA, .int) rfl).2 (X.2.2.1.2 0 (cs.1, .int) rfl).2
    subst e
    show (Sum.inl (cs.1, N, Sum.inl _) : va_E) = Sum.inl (cs.1, N, Sum.inl _)
    congr 4
    funext j
    simp [ax_zr]
theorem r_newZ {n : Int} {N ca sa : Nat} (hN : n = (N : Int)) (hlt : N ≤ 100000) (hS : S.length < 1000000) (hcl : ax_closed S = true) (hca : dd.2.1 = ca + 1) (hsa : dd.2.2.1 = sa + N) (hv1 : ax_vl S.length st = true) (hv2 : ax_vo S.length ls = true) (hw : Cond.arrayClass .boolean ∈ ax_tb)
    (hd : decode k.2.1 pc = .ok (.newarray .boolean, 2)) (K : Rn (dd.1, ca, sa, dd.2.2.2) k (pc + 2) ls (ax_r S.length :: st) (S ++ [(101, N, [])]) (ax_zr I S.length) Q) : Rn dd k pc ls (ax_i n :: st) S I Q :=
  ax_mk (r := (101, N, [])) hS hcl hca hsa hv1 hv2 K fun _ _ _ _ _ _ _ _ _ _ _ D cs A H locs _ _ ad ls' C2 X hl h1 h2 w => by
    subst hN
    refine va_newa (D := D) (atype := .boolean) (ty := .boolean) (N' := N) (a0 := (N, .inl (fun _ => 0))) C2.1 C2.2.1 (C2.2.2.2.2.1 _ hw) rfl X.2.2.1 X.1 X.2.1 X.2.2.2.1 X.2.2.2.2.1 (fun cA => by rfl) (fun h => by have := (ax_lt (x := (N : Int)) (y := 0) ⟨by omega, by omega⟩ ax_R0).mp h; omega) (by rw [ax_nat (by omega) (by omega)]; omega) (by show N * 1 ≤ _; omega) h1 h2 hd (fun q cA H1 hK hP hD hS2 => w H1 q _ ?_ hP hD hS2)
    refine ax_w_push hcl ?_
    have e : cA = cs.2.1 := ax_cid (U := _) (t := .boolean) (hK.2 4 (cA, .boolean) rfl).2 (X.2.2.1.2 1 (cs.2.1, .boolean) rfl).2
    subst e
    show (Sum.inl (cs.2.1, N, Sum.inl _) : va_E) = Sum.inl (cs.2.1, N, Sum.inl _)
    congr 4
    funext j
    simp [ax_zr]
theorem r_newP {n : Int} {N ca sa idx : Nat} (hN : n = (N : Int)) (hlt : N ≤ 100000) (hS : S.length < 1000000) (hcl : ax_closed S = true) (hca : dd.2.1 = ca + 1) (hsa : dd.2.2.1 = sa + N) (hv1 : ax_vl S.length st = true) (hv2 : ax_vo S.length ls = true) (hw : Cond.classLink k.1.cls idx "KeptCurves$Poly" ∈ ax_tb) (hw2 : Cond.arrayOver (.object "KeptCurves$Poly") ∈ ax_nst)
    (hd : decode k.2.1 pc = .ok (.anewarray idx, 3)) (K : Rn (dd.1, ca, sa, dd.2.2.2) k (pc + 3) ls (ax_r S.length :: st) (S ++ [(102, N, List.replicate N none)]) (ax_zr I S.length) Q) : Rn dd k pc ls (ax_i n :: st) S I Q :=
  ax_mk (r := (102, N, List.replicate N none)) hS hcl hca hsa hv1 hv2 K fun _ _ _ _ _ _ _ _ _ _ _ D cs A H locs _ _ ad ls' C2 X hl h1 h2 w => by
    subst hN
    refine va_newq (D := D) (C := "KeptCurves$Poly") (N' := N) C2.1 C2.2.1 C2.2.2.2.1 (C2.2.2.2.2.1 _ hw) (va_AO.of (C2.2.2.2.2.2.2.2.2 _ hw2)) X.2.2.1 X.1 X.2.1 X.2.2.2.1 X.2.2.2.2.1 (fun h => by have := (ax_lt (x := (N : Int)) (y := 0) ⟨by omega, by omega⟩ ax_R0).mp h; omega) (by rw [ax_nat (by omega) (by omega)]; omega) (by omega) h1 h2 hd (fun q cA H1 hK hP hD hS2 => w H1 q _ ?_ hP hD hS2)
    refine ax_w_push hcl ?_
    have e : cA = cs.2.2.1 := by
      obtain ⟨_, _, _, _, _, h5⟩ := (hK.2 4 (cA, .object "KeptCurves$Poly") rfl).2
      obtain ⟨_, _, _, _, _, h6⟩ := (X.2.2.1.2 2 (cs.2.2.1, .object "KeptCurves$Poly") rfl).2
      exact Option.some.inj (h5.symm.trans h6)
    subst e
    show (Sum.inl (cs.2.2.1, N, Sum.inr (Sum.inr (Sum.inr (Sum.inr _)))) : va_E) = Sum.inl (cs.2.2.1, N, Sum.inr (Sum.inr (Sum.inr (Sum.inr _))))
    congr 7
    funext j
    by_cases hj : j < N
    · simp [hj]
    · simp [hj]
/-- Object.<init> -/
theorem r_objInit {a : Nat} {idx : Nat} (hd1 : 1 ≤ dd.1) (hrest : ∀ ad : Nat → Nat, ((st.map (ax_tr ad)).map fun v => v.category).sum ≤ 8) (hw1 : Cond.methodLink k.1.cls idx Lib.objectInit ∈ ax_tb) (hw2 : Cond.instanceMethod Lib.objectInit ∈ ax_tb) (hw3 : Cond.code Lib.objectInit ⟨#[0xb1]⟩ 1 none ∈ ax_tb) (hd : decode k.2.1 pc = .ok (.invokespecial idx, 3)) (K : Rn dd k (pc + 3) ls st S I Q) : Rn dd k pc ls (ax_r a :: st) S I Q :=
  ax_pure K fun _ _ _ _ _ _ _ _ _ _ _ D cs A H locs _ _ ad ls' C X hl h1 h2 w => by
    have := lv_room (m := ⟨0, 0⟩) (pc := 0) (ls := ls') (rest := []) (hrest ad)
    refine W.objInit C.1 C.2.1 C.2.2.2.1 (C.2.2.2.2.1 _ hw1) (C.2.2.2.2.1 _ hw2) (C.2.2.2.2.1 _ hw3) (a := ad a) (rest := st.map (ax_tr ad)) rfl (by rw [C.2.2.1]; exact hl.1) rfl hd (by omega) ?_ (w ls' hl)
    have h9 := hrest ad
    show 2 * 0 + _ + 12 ≤ _
    omega
/-- the script -/
theorem r_sld {i : Int} {L : Nat} {xs : Int → Int} (hsc : dd.2.2.2 = some (L, xs)) (hL : L < 2147483648) (hd : decode k.2.1 pc = .ok (.iaload, 1)) (h : 0 ≤ i ∧ i < (L : Int)) (K : Rn dd k (pc + 1) ls (ax_i (xs i) :: st) S I Q) : Rn dd k pc ls (ax_i i :: ax_r 1000001 :: st) S I Q :=
  ax_pure K fun _ _ _ _ _ _ _ _ _ _ _ D cs A H locs _ _ ad ls' C X hl _ _ w => by
    have hx := X.2.2.2.2.2.2.2.2
    rw [hsc] at hx
    refine va_sld C.1 C.2.1 hx.1 hx.2.1 hx.2.2 X.2.2.2.1 (ax_in h.1 h.2 hL) hd ?_
    rw [ax_nat h.1 (by omega), Int.toNat_of_nonneg h.1]
    exact w ls' hl
theorem r_slen {L : Nat} {xs : Int → Int} (hsc : dd.2.2.2 = some (L, xs)) (hd : decode k.2.1 pc = .ok (.arraylength, 1)) (K : Rn dd k (pc + 1) ls (ax_i (L : Int) :: st) S I Q) : Rn dd k pc ls (ax_r 1000001 :: st) S I Q :=
  ax_pure K fun _ _ _ _ _ _ _ _ _ _ _ D cs A H locs _ _ ad ls' C X hl _ _ w => by
    have hx := X.2.2.2.2.2.2.2.2
    rw [hsc] at hx
    exact va_slen C.1 C.2.1 hx.1 hx.2.1 hx.2.2 X.2.2.2.1 hd (w ls' hl)
theorem r_getInvN {idx : Nat} {host : String} (hd : decode k.2.1 pc = .ok (.getstatic idx, 3)) (hw : Cond.fieldLinkNest k.1.cls idx "KeptCurves" "INVERSE" "[I" host ∈ ax_nst) (K : Rn dd k (pc + 3) ls (ax_r 1000000 :: st) S I Q) : Rn dd k pc ls st S I Q :=
  ax_pure K fun _ _ _ _ _ _ _ _ _ _ _ D cs A H locs _ _ ad ls' C X hl _ _ w => va_getsN C.1 C.2.1 X.2.2.2.2.2.1 X.2.2.2.1 C.2.2.2.1 (C.2.2.2.2.2.2.2.2 _ hw) (fun _ h => h) hd (w ls' hl)
end
