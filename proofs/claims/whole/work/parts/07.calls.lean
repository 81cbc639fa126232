/-! calls -/
def ax_ws (j : ax_K) : List Cond := Cond.code j.1 j.2.1 j.2.2.1 j.2.2.2 :: ax_tb
theorem ax_gd {w : Cond} (h : w ∈ ax_tb) : (w.onTables && w.keeps) = true ∨ ∃ ty, w = .arrayClass ty := good_of_word (List.mem_filter.mp h).2
/-- what is asked of a method that is called, with n parameters -/
def ax_J (j : ax_K) (n : Nat) : Prop := Cond.code j.1 j.2.1 j.2.2.1 j.2.2.2 ∈ ax_tb ∧ Cond.initialized j.1.cls ∈ ax_tb ∧ (j.1.cls ≠ "java/lang/invoke/MethodHandle" ∧ j.1.cls ≠ "java/lang/invoke/VarHandle" ∧ (parseMethodDescriptor j.1.desc).map (fun d => d.parameters.length) = some n) ∧ plainFor j.1 = true ∧ j.2.2.1 ≤ 40
theorem ax_ws_in {j : ax_K} {n : Nat} (h : ax_J j n) {w : Cond} (hw : w ∈ ax_ws j) : w ∈ ax_tb := by
  rcases List.mem_cons.mp hw with rfl | h2
  · exact h.1
  · exact h2
def ax_B (D : va_G) (cs : ax_Cs) (ad : Nat → Nat) (S : ax_Sh) (I : ax_H) (sz : Nat) (A1 : Nat → Prop) (U : State) : Prop :=
  U.heap.size = sz ∧ va_P D vwCl (ax_w cs ad S I) U.heap ∧ va_D A1 (ax_w cs ad S I) ∧ va_K D vwCl (ax_tys cs) U ∧
  va_Z "KeptCurves" "INVERSE" "[I" (.ref (ad 1000000)) A1 U U.heap ∧ va_T .int (ad 1000000) 31 (fun j => .int (Int32.ofInt (ax_inv (j : Int)))) A1 U U.heap ∧ (∀ a i, ax_R (I a i)) ∧ ∀ w ∈ ax_nst, va_Nw w U
def ax_Qc (D : va_G) (cs : ax_Cs) (ad : Nat → Nat) (S : ax_Sh) (Q : Option ax_V → ax_Sh → ax_H → Prop) (A1 : Nat → Prop) : Array Value → State → Outcome → State → Prop := fun _ st oc t =>
  (∃ (v : Option ax_V) (S' : ax_Sh) (I' : ax_H) (ad' : Nat → Nat), oc = .returned (v.map (ax_tr ad')) ∧ Q v S' I' ∧ va_P D vwCl (ax_w cs ad' S' I') t.heap ∧ va_D A1 (ax_w cs ad' S' I') ∧ (∀ a i, ax_R (I' a i)) ∧ ax_ext S ad S' ad') ∧ va_F A1 st t
theorem ax_ext.trans {S S1 S2 : ax_Sh} {ad ad1 ad2 : Nat → Nat} (h1 : ax_ext S ad S1 ad1) (h2 : ax_ext S1 ad1 S2 ad2) : ax_ext S ad S2 ad2 := by
  obtain ⟨a1, b1, c1⟩ := h1
  obtain ⟨a2, b2, c2⟩ := h2
  refine ⟨Nat.le_trans a1 a2, fun i hi => ?_, fun h => ?_⟩
  · rw [b2 i (by omega), b1 i hi]
  · rw [c2 (by omega), c1 (by omega)]
theorem ax_lv_app {ad : Nat → Nat} : ∀ (l : ax_L) (b m : Nat), ax_lv ad b (l ++ List.replicate m none) = ax_lv ad b l
  | [], b, 0 => rfl
  | [], b, m + 1 => by
    have := ax_lv_app (ad := ad) [] (b + 1) m
    simpa [List.replicate_succ, ax_lv] using this
  | none :: r, b, m => by
    have := ax_lv_app (ad := ad) r (b + 1) m
    simpa [ax_lv] using this
  | some v :: r, b, m => by
    have := ax_lv_app (ad := ad) r (b + 1) m
    simpa [ax_lv] using this
theorem ax_lv_ent {ad : Nat → Nat} : ∀ (as : List ax_V) (b : Nat), ax_lv ad b (ax_ent as) = lv_args b (as.map (ax_tr ad))
  | [], b => rfl
  | .inl n :: r, b => by
    have := ax_lv_ent (ad := ad) r (b + 1)
    simp [ax_ent, ax_lv, lv_args, ax_tr, Value.category, this]
  | .inr (.inl n) :: r, b => by
    have := ax_lv_ent (ad := ad) r (b + 2)
    simp [ax_ent, ax_lv, lv_args, ax_tr, Value.category, this]
  | .inr (.inr a) :: r, b => by
    have := ax_lv_ent (ad := ad) r (b + 1)
    simp [ax_ent, ax_lv, lv_args, ax_tr, Value.category, this]
theorem ax_sl {ad : Nat → Nat} : ∀ as : List ax_V, (lg_sl (as.map (ax_tr ad))).length = (ax_ent as).length
  | [] => rfl
  | .inl n :: r => by
    have := ax_sl (ad := ad) r
    simp only [lg_sl, List.map_cons, List.flatMap_cons, ax_tr, Value.category, ax_ent, List.length_append, List.length_cons] at this ⊢
    rw [this]; simp; omega
  | .inr (.inl n) :: r => by
    have := ax_sl (ad := ad) r
    simp only [lg_sl, List.map_cons, List.flatMap_cons, ax_tr, Value.category, ax_ent, List.length_append, List.length_cons] at this ⊢
    rw [this]; simp; omega
  | .inr (.inr a) :: r => by
    have := ax_sl (ad := ad) r
    simp only [lg_sl, List.map_cons, List.flatMap_cons, ax_tr, Value.category, ax_ent, List.length_append, List.length_cons] at this ⊢
    rw [this]; simp; omega
theorem ax_nOf {w : Cond} (h : w ∈ ax_nst) {A : Array Value} {U : State} (hb : w.before A U = true) : va_Nw w U := by
  have := (List.mem_filter.mp h).2
  cases w <;> first | exact va_Nw.of rfl hb | exact hb | simp [ax_isN] at this
theorem ax_nUse {w : Cond} (h : w ∈ ax_nst) {A : Array Value} {U : State} (hb : va_Nw w U) : w.before A U = true := by
  have := (List.mem_filter.mp h).2
  cases w <;> first | exact va_Nw.use rfl hb | exact hb | simp [ax_isN] at this
theorem ax_nWarm {w : Cond} (h : w ∈ ax_nst) {s U : State} (hW : s.WarmedH U.vm) (hZ : va_Nw w s) : va_Nw w U := by
  have := (List.mem_filter.mp h).2
  cases w <;> first
    | exact va_Nw.warmM hW hZ
    | exact va_Nw.warmF hW hZ
    | exact (Cond.arrayOver_setVmC (args := #[]) (s := s) hW.alike _).trans hZ
    | simp [ax_isN] at this
theorem ax_nCall {w : Cond} (h : w ∈ ax_nst) {U : State} {g : JFrame} {mk : MethodId} {a : Array Value} (hZ : va_Nw w U) : va_Nw w (U.calling g mk a) := by
  have := (List.mem_filter.mp h).2
  cases w <;> first
    | exact va_Nw.same (u := U) rfl (by rfl) hZ
    | exact hZ
    | simp [ax_isN] at this
/-- a method's contract out of its walk -/
theorem ax_met {d mc ms n : Nat} {j : ax_K} {as : List ax_V} {S : ax_Sh} {I : ax_H} {Q : Option ax_V → ax_Sh → ax_H → Prop} (hJ : ax_J j n) (hen : (ax_ent as).length ≤ j.2.2.1) (K : Rn (d, mc, ms, none) j 0 (ax_pad j.2.2.1 (ax_ent as)) [] S I Q)
    (l : Launch) (D : va_G) (cs : ax_Cs) (ad : Nat → Nat) (sz : Nat) : Met l j.1 (ax_ws j) { frames := d, cells := mc, slots := ms, locals := 60 * d } (va_Pc (as.map (ax_tr ad)) (ax_B D cs ad S I sz (va_A (ax_w cs ad S I) sz))) (ax_Qc D cs ad S Q (va_A (ax_w cs ad S I) sz)) mc ms (va_A (ax_w cs ad S I) sz) := by
  refine va_MetF (cc := j.2.1) (maxL := j.2.2.1) (ret := j.2.2.2) hJ.2.2.2.1 rfl ?_
  intro p e s m args below meth c s₁ B hml hv
  obtain ⟨rfl, hsz, hP, hD, hK, hZ, hT, hR, hN⟩ := hv
  have hlocks := B.notSynchronized
  have C : ax_C j p s m ((as.map (ax_tr ad)).toArray) meth c := ⟨B.exec, B.bytes, hml, findClass_of_methodNamed B.named, fun w hw => atoms_spec (ws := ax_ws j) B.pre w (List.mem_cons_of_mem _ hw), B.returns, hlocks, fun h => (name_of_methodNamed B.named B.method).1.trans h, fun w hw => ax_nUse hw (hN w hw)⟩
  subst hsz
  have hl := lv_entry (as.map (ax_tr ad)) (n := j.2.2.1) (by rw [ax_sl]; exact hen)
  rw [lg_entry_eq]
  generalize (lg_sl (as.map (ax_tr ad)) ++ List.replicate (j.2.2.1 - (lg_sl (as.map (ax_tr ad))).length) Slot.unset).toArray = ls at hl ⊢
  rw [← ax_lv_ent, ← ax_lv_app (ax_ent as) 0 (j.2.2.1 - (ax_ent as).length)] at hl
  refine K p l e _ s m _ below meth c _ D cs (va_A (ax_w cs ad S I) s.heap.size) mc ms C (Nat.le_refl _) (Nat.le_refl _) (Nat.le_refl _) (Nat.le_refl _) s.heap [] 0 0 ad ls ⟨hP, hD, hK, va_S.rf, fun q h => Or.inr h, hZ, hT, hR, trivial⟩ hl (by simp) (by simp) ?_
  intro pc' ls' v S' I' ad' H' locs' hq hx hr he
  have post : ∀ t : State, t.heap = H' → ax_Qc D cs ad S Q (va_A (ax_w cs ad S I) s.heap.size) (as.map (ax_tr ad)).toArray s (.returned (v.map (ax_tr ad'))) t := fun t ht =>
    ⟨⟨v, S', I', ad', rfl, hq, by rw [ht]; exact hx.1, hx.2.1, hx.2.2.2.2.2.2.2.1, he⟩, hx.2.2.2.1.F ht⟩
  rcases v with _ | (n | (n | a))
  · exact W.vret C.1 C.2.1 (C.2.2.2.2.2.1.trans hr.2) (fun t ht _ => post t ht) hx.2.2.2.1.2.2 hr.1
  · obtain ⟨hr1, ty, hr2, hr3⟩ := hr
    exact W.zret C.1 C.2.1 (C.2.2.2.2.2.1.trans hr2) hr3 (fun t ht _ => post t ht) hx.2.2.2.1.2.2 hr1
  · exact W.lret C.1 C.2.1 (C.2.2.2.2.2.1.trans hr.2) (fun t ht _ => post t ht) hx.2.2.2.1.2.2 hr.1
  · obtain ⟨hr1, nm, hr2⟩ := hr
    exact W.aret C.1 C.2.1 (C.2.2.2.2.2.1.trans hr2) (Or.inl ⟨nm, rfl⟩) (Or.inr ⟨_, rfl⟩) (fun t ht _ => post t ht) hx.2.2.2.1.2.2 hr1
theorem ax_blind {D : va_G} {cs : ax_Cs} {ad : Nat → Nat} {S : ax_Sh} {I : ax_H} {sz : Nat} {A1 : Nat → Prop} {vs : List Value} : FrameBlind (va_Pc vs (ax_B D cs ad S I sz A1)) := by
  intro a U g mk q
  obtain ⟨q0, q1, qP, qD, qK, qZ, qT, qR, qN⟩ := q
  exact ⟨q0, q1, qP, qD, va_K.moved (u := U) (U := U.calling g mk a) (Vm.Alike.refl U.vm) qK, va_Z.moved (u := U) (U := U.calling g mk a) (Vm.Alike.refl U.vm) qZ, va_T.moved (u := U) (U := U.calling g mk a) (Vm.Alike.refl U.vm) qT, qR, fun w hw => ax_nCall hw (qN w hw)⟩
section
variable {p : Program} {l : Launch} {e : Env} {R : Room} {s : State} {m : MethodId} {args : Array Value} {below : List Frame} {meth : Method} {c : Code} {H : Heap} {locs : List Loc} {cells slots : Nat} {QQ : State → Prop}
variable {pc : Nat} {ls : Array Slot} {rest st0 : List Value} {a : Array Value} {A0 A1 : Nat → Prop} {mc ms : Nat} {free : Addr → Prop} {D : va_G} {cs : ax_Cs} {ad : Nat → Nat} {S : ax_Sh} {Q1 : Option ax_V → ax_Sh → ax_H → Prop}
theorem ax_callG (hr : va_Run p l e R s m args below meth c H locs cells slots mc ms (F0 m pc ls st0) rest (ax_Qc D cs ad S Q1 A1 a) free) (hS : va_S A0 s.heap H locs) (hA : ∀ q, q < H.size → A1 q → A0 q) (hf : ∀ q, free q → A0 q)
    (kk : ∀ (v : Option ax_V) (S' : ax_Sh) (I' : ax_H) (ad' : Nat → Nat) (H1 : Heap) (locs1 : List Loc), Q1 v S' I' → va_P D vwCl (ax_w cs ad' S' I') H1 → va_D A1 (ax_w cs ad' S' I') → (∀ a i, ax_R (I' a i)) → ax_ext S ad S' ad' → va_S A0 s.heap H1 locs1 →
      W p l e R s m args below meth c H1 locs1 (cells + mc) (slots + ms) QQ (F0 m (pc + 3) ls ((v.map (ax_tr ad')).toList ++ rest))) : W p l e R s m args below meth c H locs cells slots QQ (F0 m pc ls st0) := by
  intro T hT X
  obtain ⟨v, st₀, t, T', L, h0, X', hL, e1, e2, ⟨⟨u, S', I', ad', hv, hq, hP, hD, hR, he⟩, hz, hk⟩, st⟩ := hr T hT X
  cases hv
  rw [h0] at hz hk
  obtain ⟨t2, a1, b1⟩ := kk u S' I' ad' T'.heap (locs ++ L) hq (by rw [e1]; exact hP) hD hR he
    ⟨Nat.le_trans hS.1 (by rw [e1]; exact hz), fun q h1 h2 => by rw [e1, hk q (Nat.lt_of_lt_of_le h1 hS.1) (fun z => h2 (hA q (Nat.lt_of_lt_of_le h1 hS.1) z))]; exact hS.2.1 q h1 h2, fun q hq => by
      rcases List.mem_append.mp hq with h | h
      · exact hS.2.2 q h
      · exact hf _ (hL q h)⟩ T' rfl X'
  exact ⟨t2, st t2 a1, b1⟩
end
theorem ax_free {A : Nat → Prop} {D : va_G} {cs : ax_Cs} {s : State} {H : Heap} {locs : List Loc} {ad : Nat → Nat} {S : ax_Sh} {I : ax_H} {sc : Option (Nat × (Int → Int))} (X : ax_X D cs A s H locs ad S I sc) : ∀ q, va_A (ax_w cs ad S I) H.size q → A q := by
  intro q h
  rcases h with ⟨k, e, h⟩ | h
  · exact X.2.1.2 k _ h
  · exact X.2.2.2.2.1 q (Nat.le_trans X.2.2.2.1.1 h)
theorem ax_preS {A : Nat → Prop} {D : va_G} {cs : ax_Cs} {s : State} {H : Heap} {locs : List Loc} {ad : Nat → Nat} {S : ax_Sh} {I : ax_H} {sc : Option (Nat × (Int → Int))} (X : ax_X D cs A s H locs ad S I sc) {args : Array Value} (hN : ∀ w ∈ ax_nst, w.before args s = true) (U : State) (hU : U.heap = H) (hW : s.WarmedH U.vm) : ax_B D cs ad S I H.size (va_A (ax_w cs ad S I) H.size) U := by
  have hF := ax_free X
  have hA : s.vm.Alike U.vm := hW.alike
  refine ⟨by rw [hU], by rw [hU]; exact X.1, X.2.1.self, va_K.moved hA X.2.2.1, ?_, ?_, X.2.2.2.2.2.2.2.1, fun w hw => ax_nWarm hw hW (ax_nOf hw (hN w hw))⟩
  · rw [hU]
    exact va_Z.moved hA ((X.2.2.2.2.2.1.kept (fun a h1 h2 => X.2.2.2.1.2.1 a h1 h2)).narrow hF)
  · rw [hU]
    exact va_T.moved hA ((X.2.2.2.2.2.2.1.kept (fun a h1 h2 => X.2.2.2.1.2.1 a h1 h2)).narrow hF)
/-- the references of these values are numbers of cells that are there -/
def ax_vl (n : Nat) : List ax_V → Bool
  | [] => true
  | .inr (.inr a) :: r => decide (a < n ∨ 1000000 ≤ a) && ax_vl n r
  | _ :: r => ax_vl n r
def ax_vo (n : Nat) : ax_L → Bool
  | [] => true
  | some (.inr (.inr a)) :: r => decide (a < n ∨ 1000000 ≤ a) && ax_vo n r
  | _ :: r => ax_vo n r
theorem ax_vl_map {S S' : ax_Sh} {ad ad' : Nat → Nat} (he : ax_ext S ad S' ad') : ∀ st : List ax_V, ax_vl S.length st = true → st.map (ax_tr ad') = st.map (ax_tr ad)
  | [], _ => rfl
  | .inl n :: r, h => by
    have := ax_vl_map he r (by simpa [ax_vl] using h)
    simp [this, ax_tr]
  | .inr (.inl n) :: r, h => by
    have := ax_vl_map he r (by simpa [ax_vl] using h)
    simp [this, ax_tr]
  | .inr (.inr a) :: r, h => by
    simp only [ax_vl, Bool.and_eq_true, decide_eq_true_eq] at h
    have := ax_vl_map he r h.2
    simp [this, ax_tr, he.2.1 a h.1]
theorem ax_vo_map {S S' : ax_Sh} {ad ad' : Nat → Nat} (he : ax_ext S ad S' ad') : ∀ (ls : ax_L) (b : Nat), ax_vo S.length ls = true → ax_lv ad' b ls = ax_lv ad b ls
  | [], _, _ => rfl
  | none :: r, b, h => by
    have := ax_vo_map he r (b + 1) (by simpa [ax_vo] using h)
    simp [ax_lv, this]
  | some (.inl n) :: r, b, h => by
    have := ax_vo_map he r (b + 1) (by simpa [ax_vo] using h)
    simp [ax_lv, this, ax_tr]
  | some (.inr (.inl n)) :: r, b, h => by
    have := ax_vo_map he r (b + 1) (by simpa [ax_vo] using h)
    simp [ax_lv, this, ax_tr]
  | some (.inr (.inr a)) :: r, b, h => by
    simp only [ax_vo, Bool.and_eq_true, decide_eq_true_eq] at h
    have := ax_vo_map he r (b + 1) h.2
    simp [ax_lv, this, ax_tr, he.2.1 a h.1]
/-- which way a method is called -/
def ax_how (k j : ax_K) (idx : Nat) (as : List ax_V) (n : Nat) (S : ax_Sh) (dec : ByteArray → Nat → Prop) (pc : Nat) : Prop :=
  ax_J j n ∧ dec k.2.1 pc ∧
  ((∃ (b : Nat) (as' : List ax_V) (ci : Nat) (q : vw_C) (rs : List (Option Nat)), as = ax_r b :: as' ∧ as'.length = n ∧ S[b]? = some (ci, q.2.2, rs) ∧ ci < 100 ∧ vwCl[ci]? = some q ∧ q.1 = j.1.cls ∧ Cond.methodLink k.1.cls idx j.1 ∈ ax_tb ∧ Cond.instanceMethod j.1 ∈ ax_tb ∧ Cond.selects j.1.cls j.1 j.1 ∈ ax_tb ∧ decode k.2.1 pc = .ok (.invokevirtual idx, 3)) ∨
   (as.length = n ∧ Cond.methodLink k.1.cls idx j.1 ∈ ax_tb ∧ Cond.static j.1 ∈ ax_tb ∧ decode k.2.1 pc = .ok (.invokestatic idx, 3)) ∨
   (as.length = n ∧ (∃ host, Cond.methodLinkNest k.1.cls idx j.1 host ∈ ax_nst) ∧ Cond.static j.1 ∈ ax_tb ∧ decode k.2.1 pc = .ok (.invokestatic idx, 3)) ∨
   (∃ (b : Nat) (as' : List ax_V), as = ax_r b :: as' ∧ as'.length = n ∧ Cond.methodLink k.1.cls idx j.1 ∈ ax_tb ∧ Cond.instanceMethod j.1 ∈ ax_tb ∧ j.1.name = "<init>" ∧ j.2.2.2 = none ∧ decode k.2.1 pc = .ok (.invokespecial idx, 3)) ∨
   (∃ (b : Nat) (as' : List ax_V), as = ax_r b :: as' ∧ as'.length = n ∧ (∃ host, Cond.methodLinkNest k.1.cls idx j.1 host ∈ ax_nst) ∧ Cond.instanceMethod j.1 ∈ ax_tb ∧ j.1.name = "<init>" ∧ j.2.2.2 = none ∧ decode k.2.1 pc = .ok (.invokespecial idx, 3)))
theorem ax_run {dd : ax_D} {k j : ax_K} {pc idx n d mc ms : Nat} {as st : List ax_V} {S : ax_Sh} {I : ax_H} {Q1 : Option ax_V → ax_Sh → ax_H → Prop} (how : ax_how k j idx as n S (fun _ _ => True) pc) (hd1 : d + 1 ≤ dd.1) (hmc : mc ≤ dd.2.1) (hms : ms ≤ dd.2.2.1) (hen : (ax_ent as).length ≤ j.2.2.1) (hrest : ∀ ad : Nat → Nat, ((st.map (ax_tr ad)).map fun v => v.category).sum ≤ 8) (K : Rn (d, mc, ms, none) j 0 (ax_pad j.2.2.1 (ax_ent as)) [] S I Q1)
    {p : Program} {l : Launch} {e : Env} {R : Room} {s : State} {m : MethodId} {args : Array Value} {below : List Frame} {meth : Method} {c : Code} {H : Heap} {locs : List Loc} {cells slots : Nat} {D : va_G} {cs : ax_Cs} {A : Nat → Prop} {ad : Nat → Nat} {ls' : Array Slot} {MC MS : Nat} {ls : List (Nat × Value)}
    (C : ax_C k p s m args meth c) (h1 : dd.1 ≤ R.frames) (h2 : 60 * dd.1 ≤ R.locals) (h3 : MC ≤ R.cells) (h4 : MS ≤ R.slots) (X : ax_X D cs A s H locs ad S I dd.2.2.2) (hl : lv_has ls' k.2.2.1 ls) (hc : cells + dd.2.1 ≤ MC) (hs : slots + dd.2.2.1 ≤ MS) :
    ∃ a, va_Run p l e R s m args below meth c H locs cells slots mc ms (F0 m pc ls' ((as.reverse ++ st).map (ax_tr ad))) (st.map (ax_tr ad)) (ax_Qc D cs ad S Q1 (va_A (ax_w cs ad S I) H.size) a) (va_A (ax_w cs ad S I) H.size) := by
  obtain ⟨hJ, -, how⟩ := how
  have hM := ax_met hJ hen K l D cs ad H.size
  have hG : GoodIn ax_tb (ax_ws j) := fun w hw => ⟨ax_ws_in hJ hw, ax_gd (ax_ws_in hJ hw)⟩
  have hF : CallFix p m c k.2.1 k.2.2.1 s args ax_tb k.1.cls := ⟨C.1, C.2.1, C.2.2.1, C.2.2.2.1, C.2.2.2.2.1⟩
  have hR : d + 1 ≤ R.frames ∧ 8 + (j.2.2.1 + 11) + 60 * d ≤ R.locals := ⟨by omega, by have := hJ.2.2.2.2; omega⟩
  have hcs : cells + mc ≤ R.cells ∧ slots + ms ≤ R.slots := ⟨by omega, by omega⟩
  have hB := callB_of (own := k.1.cls) (index := idx) (R := R) (mc := mc) (ms := ms) (rm := { frames := d, cells := mc, slots := ms, locals := 60 * d }) (args := args) (s := s) n C.2.2.2.2.1 hG rfl rfl rfl (C.2.2.2.2.1 _ hJ.2.1)
  rcases how with ⟨b, as', ci, q, rs, rfl, hn, hb, hci, hq, hqc, hli, hin, hse, hdg⟩ | ⟨hn, hli, hst, hdg⟩ | ⟨hn, ⟨host, hli⟩, hst, hdg⟩ | ⟨b, as', rfl, hn, hli, hin, hnm, hrt, hdg⟩ | ⟨b, as', rfl, hn, ⟨host, hli⟩, hin, hnm, hrt, hdg⟩
  · have he := ax_w_get (cs := cs) (ad := ad) (I := I) hb
    rw [show ax_cell cs ad I b (ci, q.2.2, rs) = _ from if_pos hci] at he
    refine ⟨_, va_runV (C := q.1) (As := as'.map (ax_tr ad)) hF hM ⟨hB (C.2.2.2.2.1 _ hli) hJ.2.2.1 hR, C.2.2.2.2.1 _ hin, by rw [hqc]; exact C.2.2.2.2.1 _ hse⟩ ⟨ax_blind, va_recv X.2.2.1 X.1 hq he, fun U hU hW => ⟨rfl, ax_preS X C.2.2.2.2.2.2.2.2 U hU hW⟩⟩ rfl (by simpa using hn) hl.1 (by simp [ax_tr]) (lv_room (hrest ad)) hdg hcs⟩
  · refine ⟨_, va_runS (As := as.map (ax_tr ad)) hF hM ⟨hB (C.2.2.2.2.1 _ hli) hJ.2.2.1 hR, C.2.2.2.2.1 _ hst⟩ ⟨ax_blind, fun U hU hW => ⟨rfl, ax_preS X C.2.2.2.2.2.2.2.2 U hU hW⟩⟩ rfl (by simpa using hn) hl.1 (by simp) (lv_room (hrest ad)) hdg hcs⟩
  · refine ⟨_, va_runSN (As := as.map (ax_tr ad)) hF hM ⟨va_cnB n C.2.2.2.2.1 hG rfl rfl rfl (ax_nOf hli (C.2.2.2.2.2.2.2.2 _ hli)) (C.2.2.2.2.1 _ hJ.2.1) hJ.2.2.1 hR, C.2.2.2.2.1 _ hst, trivial⟩ ⟨ax_blind, fun U hU hW => ⟨rfl, ax_preS X C.2.2.2.2.2.2.2.2 U hU hW⟩⟩ rfl (by simpa using hn) hl.1 (by simp) (lv_room (hrest ad)) hdg hcs⟩
  · have hws : ax_ws j = Cond.code j.1 j.2.1 j.2.2.1 none :: ax_tb := by unfold ax_ws; rw [hrt]
    refine ⟨_, va_runI (b := ad b) (As := as'.map (ax_tr ad)) hF hM (cwI (maxL := j.2.2.1) n C.2.2.2.2.1 hG hws rfl rfl (C.2.2.2.2.1 _ hJ.2.1) (C.2.2.2.2.1 _ hli) (C.2.2.2.2.1 _ hin) hnm hJ.2.2.1 hR) ⟨ax_blind, fun U hU hW => ⟨rfl, ax_preS X C.2.2.2.2.2.2.2.2 U hU hW⟩⟩ rfl (by simpa using hn) hl.1 (by simp [ax_tr]) (lv_room (hrest ad)) hdg hcs⟩
  · have hws : ax_ws j = Cond.code j.1 j.2.1 j.2.2.1 none :: ax_tb := by unfold ax_ws; rw [hrt]
    refine ⟨_, va_runIN (b := ad b) (As := as'.map (ax_tr ad)) hF hM ⟨va_cnB (maxL := j.2.2.1) n C.2.2.2.2.1 hG hws rfl rfl (ax_nOf hli (C.2.2.2.2.2.2.2.2 _ hli)) (C.2.2.2.2.1 _ hJ.2.1) hJ.2.2.1 hR, hnm, C.2.2.2.2.1 _ hin⟩ ⟨ax_blind, fun U hU hW => ⟨rfl, ax_preS X C.2.2.2.2.2.2.2.2 U hU hW⟩⟩ rfl (by simpa using hn) hl.1 (by simp [ax_tr]) (lv_room (hrest ad)) hdg hcs⟩
/-- a call that may make cells -/
theorem r_callA {dd : ax_D} {k j : ax_K} {pc idx n d mc ms : Nat} {ls : ax_L} {as st st0 : List ax_V} {S : ax_Sh} {I : ax_H} {Q Q1 : Option ax_V → ax_Sh → ax_H → Prop} (how : ax_how k j idx as n S (fun _ _ => True) pc) (hst : st0 = as.reverse ++ st) (hd1 : d + 1 ≤ dd.1) (hmc : mc ≤ dd.2.1) (hms : ms ≤ dd.2.2.1) (hen : (ax_ent as).length ≤ j.2.2.1) (hrest : ∀ ad : Nat → Nat, ((st.map (ax_tr ad)).map fun v => v.category).sum ≤ 8)
    (hv1 : ax_vl S.length st = true) (hv2 : ax_vo S.length ls = true) (K : Rn (d, mc, ms, none) j 0 (ax_pad j.2.2.1 (ax_ent as)) [] S I Q1)
    (K2 : ∀ v S' I', Q1 v S' I' → Rn (dd.1, dd.2.1 - mc, dd.2.2.1 - ms, dd.2.2.2) k (pc + 3) ls (v.toList ++ st) S' I' Q) : Rn dd k pc ls st0 S I Q := by
  intro p l e R s m args below meth c QQ D cs A MC MS C h1 h2 h3 h4 H locs cells slots ad ls' X hl hc hs hk
  subst hst
  obtain ⟨a, hr⟩ := ax_run (below := below) how hd1 hmc hms hen hrest K (p := p) (l := l) (e := e) C h1 h2 h3 h4 X hl hc hs
  refine ax_callG hr X.2.2.2.1 (fun q _ h => ax_free X q h) (fun q h => ax_free X q h) (fun v S' I' ad' H1 locs1 hq hP hD hR he hS => ?_)
  have X' : ax_X D cs A s H1 locs1 ad' S' I' dd.2.2.2 := by
    have e6 : ad' 1000000 = ad 1000000 := he.2.1 _ (Or.inr (Nat.le_refl _))
    have e7 : ad' 1000001 = ad 1000001 := he.2.1 _ (Or.inr (by omega))
    refine ⟨hP, hD.weaken (fun _ q _ h => ax_free X q.1 h), X.2.2.1, hS, X.2.2.2.2.1, by rw [e6]; exact X.2.2.2.2.2.1, by rw [e6]; exact X.2.2.2.2.2.2.1, hR, ?_⟩
    have := X.2.2.2.2.2.2.2.2
    unfold ax_sc at this ⊢
    rw [e7]
    exact this
  have := K2 v S' I' hq p l e R s m args below meth c QQ D cs A MC MS C h1 h2 h3 h4 H1 locs1 (cells + mc) (slots + ms) ad' ls' X' (by rw [ax_vo_map he ls 0 hv2]; exact hl) (by show cells + mc + (dd.2.1 - mc) ≤ MC; omega) (by show slots + ms + (dd.2.2.1 - ms) ≤ MS; omega) (fun pc' ls' v S2 I2 ad2 H2 locs2 hq2 hx2 hr2 he2 => hk pc' ls' v S2 I2 ad2 H2 locs2 hq2 hx2 hr2 (he.trans he2))
  rw [← ax_vl_map he st hv1]
  rw [List.map_append] at this
  cases v <;> exact this
/-- a call that makes none -/
theorem r_call {dd : ax_D} {k j : ax_K} {pc idx n d : Nat} {ls : ax_L} {as st st0 : List ax_V} {S : ax_Sh} {I : ax_H} {Q Q1 : Option ax_V → ax_Sh → ax_H → Prop} (how : ax_how k j idx as n S (fun _ _ => True) pc) (hst : st0 = as.reverse ++ st) (hd1 : d + 1 ≤ dd.1) (hen : (ax_ent as).length ≤ j.2.2.1) (hrest : ∀ ad : Nat → Nat, ((st.map (ax_tr ad)).map fun v => v.category).sum ≤ 8)
    (K : Rn (d, 0, 0, none) j 0 (ax_pad j.2.2.1 (ax_ent as)) [] S I Q1)
    (K2 : ∀ v S' I', Q1 v S' I' → S' = S ∧ Rn dd k (pc + 3) ls (v.toList ++ st) S I' Q) : Rn dd k pc ls st0 S I Q := by
  intro p l e R s m args below meth c QQ D cs A MC MS C h1 h2 h3 h4 H locs cells slots ad ls' X hl hc hs hk
  subst hst
  obtain ⟨a, hr⟩ := ax_run (below := below) how hd1 (Nat.zero_le _) (Nat.zero_le _) hen hrest K (p := p) (l := l) (e := e) C h1 h2 h3 h4 X hl hc hs
  refine ax_callG hr X.2.2.2.1 (fun q _ h => ax_free X q h) (fun q h => ax_free X q h) (fun v S' I' ad' H1 locs1 hq hP hD hR he hS => ?_)
  obtain ⟨rfl, K3⟩ := K2 v S' I' hq
  obtain rfl : ad' = ad := he.2.2 rfl
  have := K3 p l e R s m args below meth c QQ D cs A MC MS C h1 h2 h3 h4 H1 locs1 cells slots ad' ls' ⟨hP, hD.weaken (fun _ q _ h => ax_free X q.1 h), X.2.2.1, hS, X.2.2.2.2.1, X.2.2.2.2.2.1, X.2.2.2.2.2.2.1, hR, X.2.2.2.2.2.2.2.2⟩ hl hc hs hk
  rw [List.map_append] at this
  cases v <;> exact this
