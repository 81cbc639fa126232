/-! writing the world -/
def ax_st (I : ax_H) (a : Nat) (i v : Int) : ax_H := fun b j => if b = a ∧ j = i then v else I b j
theorem ax_st_R {I : ax_H} {a : Nat} {i v : Int} (h : ∀ b j, ax_R (I b j)) (hv : ax_R v) : ∀ b j, ax_R (ax_st I a i v b j) := by
  intro b j
  unfold ax_st
  split
  · exact hv
  · exact h b j
theorem ax_w_set {cs : ax_Cs} {ad : Nat → Nat} {S S' : ax_Sh} {I I' : ax_H} {a : Nat} {e : va_E} (hl : S'.length = S.length) (ha : a < S.length) (h1 : ax_cell cs ad I' a (S'.getD a (0, 0, [])) = e) (h2 : ∀ i, i ≠ a → i < S.length → ax_cell cs ad I' i (S'.getD i (0, 0, [])) = ax_cell cs ad I i (S.getD i (0, 0, []))) :
    (ax_w cs ad S I).set a (ad a, e) = ax_w cs ad S' I' := by
  apply List.ext_getElem?
  intro i
  unfold ax_w
  rw [List.getElem?_set, hl]
  by_cases hi : i < S.length
  · rw [List.getElem?_map, List.getElem?_map, List.getElem?_range hi]
    simp only [Option.map_some, List.length_map, List.length_range]
    by_cases hia : a = i
    · subst hia
      rw [if_pos rfl, if_pos ha, h1]
    · rw [if_neg hia, h2 i (fun q => hia q.symm) hi]
  · rw [if_neg (by omega : ¬ a = i)]
    rw [List.getElem?_eq_none (by simpa using hi), List.getElem?_eq_none (by simpa using hi)]
theorem ax_getD_set {S : ax_Sh} {a i : Nat} {r : Nat × Nat × List (Option Nat)} (h : i ≠ a) : (S.set a r).getD i (0, 0, []) = S.getD i (0, 0, []) := by
  rw [List.getD_eq_getElem?_getD, List.getD_eq_getElem?_getD, List.getElem?_set, if_neg (fun q => h q.symm)]
theorem ax_getD {S : ax_Sh} {a : Nat} {r : Nat × Nat × List (Option Nat)} (h : S[a]? = some r) : S.getD a (0, 0, []) = r := by simp [h]
theorem ax_cell_ne {cs : ax_Cs} {ad : Nat → Nat} {I I' : ax_H} {i : Nat} {r : Nat × Nat × List (Option Nat)} (h : I' i = I i) : ax_cell cs ad I' i r = ax_cell cs ad I i r := by
  unfold ax_cell
  rw [h]
theorem ax_st_ne {I : ax_H} {a : Nat} {i v : Int} {b : Nat} (h : b ≠ a) : ax_st I a i v b = I b := by
  funext j
  simp [ax_st, h]
/-- a step that writes one cell: the next of it -/
theorem ax_wr {dd : ax_D} {k : ax_K} {pc pc' : Nat} {ls ls2 : ax_L} {st st2 : List ax_V} {S S' : ax_Sh} {I I' : ax_H} {Q : Option ax_V → ax_Sh → ax_H → Prop} {a : Nat} (hSl : S'.length = S.length) (hI : (∀ b j, ax_R (I b j)) → ∀ b j, ax_R (I' b j))
    (K : Rn dd k pc' ls2 st2 S' I' Q)
    (h : ∀ (p : Program) (l : Launch) (e : Env) (R : Room) (s : State) (m : MethodId) (args : Array Value) (below : List Frame) (meth : Method) (c : Code) (QQ : State → Prop) (D : va_G) (cs : ax_Cs) (A : Nat → Prop) (H : Heap) (locs : List Loc) (cells slots : Nat) (ad : Nat → Nat) (ls' : Array Slot),
      ax_C k p s m args meth c → ax_X D cs A s H locs ad S I dd.2.2.2 → lv_has ls' k.2.2.1 (ax_lv ad 0 ls) → dd.1 ≤ R.frames → 60 * dd.1 ≤ R.locals →
      (∀ (H1 : Heap) (locs1 : List Loc) (ws : va_W), ws = ax_w cs ad S' I' → va_P D vwCl ws H1 → va_D A ws → va_S A s.heap H1 locs1 → ∀ ls2' : Array Slot, lv_has ls2' k.2.2.1 (ax_lv ad 0 ls2) → W p l e R s m args below meth c H1 locs1 cells slots QQ (F0 m pc' ls2' (st2.map (ax_tr ad)))) →
      W p l e R s m args below meth c H locs cells slots QQ (F0 m pc ls' (st.map (ax_tr ad)))) :
    Rn dd k pc ls st S I Q := by
  intro p l e R s m args below meth c QQ D cs A MC MS C h1 h2 h3 h4 H locs cells slots ad ls' X hl hc hs hk
  refine h p l e R s m args below meth c QQ D cs A H locs cells slots ad ls' C X hl h1 h2 (fun H1 locs1 ws hws hP hD hS ls2' hl2 => ?_)
  subst hws
  refine K p l e R s m args below meth c QQ D cs A MC MS C h1 h2 h3 h4 H1 locs1 cells slots ad ls2' ⟨hP, hD, X.2.2.1, hS, X.2.2.2.2.1, X.2.2.2.2.2.1, X.2.2.2.2.2.2.1, hI X.2.2.2.2.2.2.2.1, X.2.2.2.2.2.2.2.2⟩ hl2 hc hs ?_
  intro pc' ls' v S2 I2 ad2 H2 locs2 hq hx hr he
  exact hk pc' ls' v S2 I2 ad2 H2 locs2 hq hx hr (he.len hSl.symm)
section
variable {dd : ax_D} {k : ax_K} {pc : Nat} {ls : ax_L} {st : List ax_V} {S : ax_Sh} {I : ax_H} {Q : Option ax_V → ax_Sh → ax_H → Prop}
theorem r_putI {ci : Nat} {C : String} {T : u_T} {N : Nat} {ty : Nat → FieldType} {a : Nat} {rs : List (Option Nat)} {idx : Nat} {v : Int} (hc : ax_cl ci C T N ty) (j : Nat) (jI : Int) (hj : j < N) (hS : S[a]? = some (ci, N, rs)) (hi : ax_isr ci j = false) (hjI : (j : Int) = jI) (hf : (T j).2.2.2 = false) (hv : ax_R v) (hn : narrow (ty j) (.int (Int32.ofInt v)) = .int (Int32.ofInt v)) (hft : fits (ty j) (.int (Int32.ofInt v)) = true) (hw : Cond.fieldLink k.1.cls idx (T j).1 (T j).2.1 (T j).2.2.1 ∈ ax_tb) (hd : decode k.2.1 pc = .ok (.putfield idx, 3)) (K : Rn dd k (pc + 3) ls st S (ax_st I a jI v) Q) : Rn dd k pc ls (ax_i v :: ax_r a :: st) S I Q :=
  ax_wr (a := a) rfl (fun h => ax_st_R h hv) K fun _ _ _ _ _ _ _ _ _ _ _ D cs A H locs _ _ ad ls' C X hl _ _ w => by
    have he := ax_w_get (cs := cs) (ad := ad) (I := I) hS
    rw [show ax_cell cs ad I a (ci, N, rs) = _ from if_pos hc.1] at he
    refine va_put (D := D) C.1 C.2.1 C.2.2.2.2.1 hc.2.2.1 ty hc.2.2.2.1 hc.2.2.2.2.1 C.2.2.2.1 X.2.2.1 X.1 X.2.1 X.2.2.2.1 a he hc.2.1 j hj (C.2.2.2.2.1 _ hw) (fun _ h => h) hf (hc.2.2.2.1 j hj) hn hft (by simpa using hj) hd (fun H1 locs1 hP hD hS2 => w H1 locs1 _ ?_ hP hD hS2 ls' hl)
    refine ax_w_set rfl (List.getElem?_eq_some_iff.mp hS).1 ?_ ?_
    · rw [ax_getD hS, show ax_cell cs ad (ax_st I a jI v) a (ci, N, rs) = _ from if_pos hc.1]
      congr 2
      apply List.ext_getElem?
      intro i
      rw [List.getElem?_set]
      by_cases hij : j = i
      · subst hij
        simp [hj, hi, ax_st, hjI, ax_tr]
      · rw [if_neg hij]
        by_cases hiN : i < N
        · have : ¬ (i : Int) = jI := by omega
          simp [hiN, ax_st, this]
        · simp [hiN]
    · intro i hia _
      exact ax_cell_ne (ax_st_ne hia)
/-- a final field of references, in a constructor -/
theorem r_putF {ci : Nat} {C : String} {T : u_T} {N : Nat} {ty : Nat → FieldType} {a b : Nat} {rs : List (Option Nat)} {idx : Nat} (hc : ax_cl ci C T N ty) (j : Nat) (hj : j < N) (hS : S[a]? = some (ci, N, rs)) (hrs : j < rs.length) (hi : ax_isr ci j = true) (hf : (T j).2.2.2 = true) (hin : k.1.name = "<init>") (hown : (T j).1 = k.1.cls) (hn : ∀ q : Nat, narrow (ty j) (.ref q) = .ref q) (hft : ∀ q : Nat, fits (ty j) (.ref q) = true) (hw : Cond.fieldLink k.1.cls idx (T j).1 (T j).2.1 (T j).2.2.1 ∈ ax_tb) (hd : decode k.2.1 pc = .ok (.putfield idx, 3)) (K : Rn dd k (pc + 3) ls st (S.set a (ci, N, rs.set j (some b))) I Q) : Rn dd k pc ls (ax_r b :: ax_r a :: st) S I Q :=
  ax_wr (a := a) (by simp) (fun h => h) K fun _ _ _ _ _ _ _ _ _ _ _ D cs A H locs _ _ ad ls' C X hl _ _ w => by
    have he := ax_w_get (cs := cs) (ad := ad) (I := I) hS
    rw [show ax_cell cs ad I a (ci, N, rs) = _ from if_pos hc.1] at he
    have hal := (List.getElem?_eq_some_iff.mp hS).1
    refine va_putF (D := D) C.1 C.2.1 C.2.2.2.2.1 hc.2.2.1 ty hc.2.2.2.1 hc.2.2.2.2.1 C.2.2.2.1 X.2.2.1 X.1 X.2.1 X.2.2.2.1 a he hc.2.1 j hj (C.2.2.2.2.1 _ hw) (fun _ h => h) hf (C.2.2.2.2.2.2.2.1 hin) hown (hc.2.2.2.1 j hj) (hn (ad b)) (hft (ad b)) (by simpa using hj) hd (fun H1 locs1 hP hD hS2 => w H1 locs1 _ ?_ hP hD hS2 ls' hl)
    refine ax_w_set (by simp) hal ?_ ?_
    · rw [ax_getD (r := (ci, N, rs.set j (some b))) (by simp [hal]), show ax_cell cs ad I a (ci, N, rs.set j (some b)) = _ from if_pos hc.1]
      congr 2
      apply List.ext_getElem?
      intro i
      rw [List.getElem?_set]
      by_cases hij : j = i
      · subst hij
        simp [hj, hi, hrs, va_rf, ax_tr]
      · rw [if_neg hij]
        by_cases hiN : i < N
        · simp [hiN, List.getElem?_set, hij]
        · simp [hiN]
    · intro i hia _
      rw [ax_getD_set hia]
theorem r_iast {a n : Nat} {rs : List (Option Nat)} {i v : Int} (hS : S[a]? = some (100, n, rs)) (hn : n < 2147483648) (hd : decode k.2.1 pc = .ok (.iastore, 1)) (h : 0 ≤ i ∧ i < (n : Int)) (hv : ax_R v) (K : Rn dd k (pc + 1) ls st S (ax_st I a i v) Q) : Rn dd k pc ls (ax_i v :: ax_i i :: ax_r a :: st) S I Q :=
  ax_wr (a := a) rfl (fun h => ax_st_R h hv) K fun _ _ _ _ _ _ _ _ _ _ _ D cs A H locs _ _ ad ls' C X hl _ _ w => by
    have he := ax_w_get (cs := cs) (ad := ad) (I := I) hS
    refine va_iast (D := D) C.1 C.2.1 X.2.2.1 X.1 X.2.1 X.2.2.2.1 a 0 he rfl (ax_in h.1 h.2 hn) hd (fun H1 locs1 hP hD hS2 => w H1 locs1 _ ?_ hP hD hS2 ls' hl)
    refine ax_w_set rfl (List.getElem?_eq_some_iff.mp hS).1 ?_ ?_
    · rw [ax_getD hS, ax_nat h.1 (by omega)]
      show (Sum.inl (cs.1, n, Sum.inl _) : va_E) = Sum.inl (cs.1, n, Sum.inl _)
      congr 4
      funext j
      unfold upd ax_st
      by_cases hj : j = i.toNat
      · rw [if_pos hj, if_pos ⟨rfl, by omega⟩]
      · rw [if_neg hj, if_neg (fun q => hj (by have := q.2; omega))]
    · intro i hia _
      exact ax_cell_ne (ax_st_ne hia)
theorem r_zast {a n : Nat} {rs : List (Option Nat)} {i v : Int} (hS : S[a]? = some (101, n, rs)) (hn : n < 2147483648) (hd : decode k.2.1 pc = .ok (.bastore, 1)) (h : 0 ≤ i ∧ i < (n : Int)) (hv : v = 0 ∨ v = 1) (K : Rn dd k (pc + 1) ls st S (ax_st I a i v) Q) : Rn dd k pc ls (ax_i v :: ax_i i :: ax_r a :: st) S I Q :=
  ax_wr (a := a) rfl (fun h => ax_st_R h (by omega)) K fun _ _ _ _ _ _ _ _ _ _ _ D cs A H locs _ _ ad ls' C X hl _ _ w => by
    have he := ax_w_get (cs := cs) (ad := ad) (I := I) hS
    refine va_zast (D := D) C.1 C.2.1 X.2.2.1 X.1 X.2.1 X.2.2.2.1 a 1 he rfl (ax_in h.1 h.2 hn) hd (fun H1 locs1 hP hD hS2 => w H1 locs1 _ ?_ hP hD hS2 ls' hl)
    refine ax_w_set rfl (List.getElem?_eq_some_iff.mp hS).1 ?_ ?_
    · rw [ax_getD hS, ax_nat h.1 (by omega), show vp_nar .boolean (Int32.ofInt v) = Int32.ofInt v by rcases hv with rfl | rfl <;> decide]
      show (Sum.inl (cs.2.1, n, Sum.inl _) : va_E) = Sum.inl (cs.2.1, n, Sum.inl _)
      congr 4
      funext j
      unfold upd ax_st
      by_cases hj : j = i.toNat
      · rw [if_pos hj, if_pos ⟨rfl, by omega⟩]
      · rw [if_neg hj, if_neg (fun q => hj (by have := q.2; omega))]
    · intro i hia _
      exact ax_cell_ne (ax_st_ne hia)
/-- a Poly into an array of them -/
theorem r_aastP {a n b : Nat} {rs rb : List (Option Nat)} {i : Int} (hS : S[a]? = some (102, n, rs)) (hb : S[b]? = some (7, 2, rb)) (hrs : rs.length = n) (hn : n < 2147483648) (hd : decode k.2.1 pc = .ok (.aastore, 1)) (h : 0 ≤ i ∧ i < (n : Int)) (K : Rn dd k (pc + 1) ls st (S.set a (102, n, rs.set i.toNat (some b))) I Q) : Rn dd k pc ls (ax_r b :: ax_i i :: ax_r a :: st) S I Q :=
  ax_wr (a := a) (by simp) (fun h => h) K fun _ _ _ _ _ _ _ _ _ _ _ D cs A H locs _ _ ad ls' C X hl _ _ w => by
    have he := ax_w_get (cs := cs) (ad := ad) (I := I) hS
    have hq := ax_w_get (cs := cs) (ad := ad) (I := I) hb
    rw [show ax_cell cs ad I b (7, 2, rb) = _ from if_pos (show (7 : Nat) < 100 by decide)] at hq
    have hal := (List.getElem?_eq_some_iff.mp hS).1
    refine va_astq (D := D) (r := (RX7, TX7, 2)) C.1 C.2.1 X.2.2.1 X.1 X.2.1 X.2.2.2.1 a 2 b 7 he rfl hq rfl (ax_in h.1 h.2 hn) hd (fun H1 locs1 hP hD hS2 => w H1 locs1 _ ?_ hP hD hS2 ls' hl)
    refine ax_w_set (by simp) hal ?_ ?_
    · rw [ax_getD (r := (102, n, rs.set i.toNat (some b))) (by simp [hal]), ax_nat h.1 (by omega)]
      show (Sum.inl (cs.2.2.1, n, Sum.inr (Sum.inr (Sum.inr (Sum.inr _)))) : va_E) = Sum.inl (cs.2.2.1, n, Sum.inr (Sum.inr (Sum.inr (Sum.inr _))))
      congr 7
      funext j
      unfold va_up
      by_cases hj : j = i.toNat
      · rw [if_pos hj, List.getD_eq_getElem?_getD, List.getElem?_set, if_pos hj.symm, if_pos (by omega)]
        rfl
      · rw [if_neg hj]
        show Option.map ad ((rs.set i.toNat (some b)).getD j none) = Option.map ad (rs.getD j none)
        rw [List.getD_eq_getElem?_getD, List.getD_eq_getElem?_getD, List.getElem?_set, if_neg (fun q => hj q.symm)]
    · intro i hia _
      rw [ax_getD_set hia]
/-- System.arraycopy of ints -/
def ax_cp (I : ax_H) (a : Nat) (sp : Int) (b : Nat) (dp n : Int) : ax_H := fun q j => if q = b ∧ dp ≤ j ∧ j < dp + n then I a (sp + (j - dp)) else I q j
theorem r_copy {a b na nb : Nat} {ra rb : List (Option Nat)} {idx : Nat} {sp dp n : Int} (hd1 : 1 ≤ dd.1) (ha : S[a]? = some (100, na, ra)) (hb : S[b]? = some (100, nb, rb)) (h1 : 0 ≤ sp) (h2 : 0 ≤ dp) (h3 : 0 ≤ n) (h4 : sp + n ≤ (na : Int)) (h5 : dp + n ≤ (nb : Int)) (hna : na < 2147483648) (hnb : nb < 2147483648) (hrest : ∀ ad : Nat → Nat, ((st.map (ax_tr ad)).map fun v => v.category).sum ≤ 8)
    (hw : Cond.methodLink k.1.cls idx arraycopyName ∈ ax_tb) (hw2 : Cond.native arraycopyName ∈ ax_tb) (hw3 : Cond.static arraycopyName ∈ ax_tb) (hw4 : Cond.initialized "java/lang/System" ∈ ax_tb) (hd : decode k.2.1 pc = .ok (.invokestatic idx, 3)) (K : Rn dd k (pc + 3) ls st S (ax_cp I a sp b dp n) Q) : Rn dd k pc ls (ax_i n :: ax_i dp :: ax_r b :: ax_i sp :: ax_r a :: st) S I Q :=
  ax_wr (a := b) rfl (fun h q j => by unfold ax_cp; split <;> exact h _ _) K fun _ _ _ _ _ _ _ _ _ _ _ D cs A H locs _ _ ad ls' C X hl hf hlo w => by
    have hea := ax_w_get (cs := cs) (ad := ad) (I := I) ha
    have heb := ax_w_get (cs := cs) (ad := ad) (I := I) hb
    have e1 : (Int32.ofInt sp).toNatClampNeg = sp.toNat := ax_nat h1 (by omega)
    have e2 : (Int32.ofInt dp).toNatClampNeg = dp.toNat := ax_nat h2 (by omega)
    have e3 : (Int32.ofInt n).toNatClampNeg = n.toNat := ax_nat h3 (by omega)
    have neg : ∀ x : Int, 0 ≤ x → x < 2147483648 → ¬ Int32.ofInt x < 0 := fun x hx hx2 h => by
      have := (ax_lt (x := x) (y := 0) ⟨by omega, hx2⟩ ax_R0).mp h
      omega
    have hr := hrest ad
    have hw5 : nativeFrameWords "java/lang/System" "arraycopy" 5 + 11 ≤ 40 := by decide
    have h6 : sp.toNat + n.toNat ≤ na := by omega
    have h7 : dp.toNat + n.toNat ≤ nb := by omega
    have h8 : sp < 2147483648 := by omega
    have h9 : dp < 2147483648 := by omega
    have h10 : n < 2147483648 := by omega
    refine va_copyi (D := D) C.1 C.2.1 (C.2.2.1.trans hl.1.symm) C.2.2.2.1 (C.2.2.2.2.1 _ hw) (C.2.2.2.2.1 _ hw2) (C.2.2.2.2.1 _ hw3) (C.2.2.2.2.1 _ hw4) X.2.2.1 X.1 X.2.1 X.2.2.2.1 a b 0 0 hea heb rfl rfl rfl (neg sp h1 h8) (neg dp h2 h9) (neg n h3 h10) (by rw [e1, e3]; exact h6) (by rw [e2, e3]; exact h7) (fun _ _ => rfl) (by omega) (by omega) hd (fun H1 locs1 hP hD hS2 => w H1 locs1 _ ?_ hP hD hS2 ls' hl)
    refine ax_w_set rfl (List.getElem?_eq_some_iff.mp hb).1 ?_ ?_
    · rw [ax_getD hb, e1, e2, e3]
      show (Sum.inl (cs.1, nb, Sum.inl _) : va_E) = Sum.inl (cs.1, nb, Sum.inl _)
      congr 4
      funext j
      unfold va_cpy ax_cp
      by_cases hj : dp ≤ (j : Int) ∧ (j : Int) < dp + n
      · rw [if_pos (⟨rfl, hj⟩ : b = b ∧ dp ≤ (j : Int) ∧ (j : Int) < dp + n), if_pos (by omega : dp.toNat ≤ j ∧ j < dp.toNat + n.toNat)]
        congr 2
        omega
      · rw [if_neg (fun q : b = b ∧ dp ≤ (j : Int) ∧ (j : Int) < dp + n => hj q.2), if_neg (by omega : ¬ (dp.toNat ≤ j ∧ j < dp.toNat + n.toNat))]
    · intro i hia _
      apply ax_cell_ne
      funext j
      simp [ax_cp, hia]
/-! returns -/
theorem ax_ret {v : Option ax_V} (hr : ax_isRet k pc v) (hst : st = v.toList) (hq : Q v S I) : Rn dd k pc ls st S I Q := by
  intro p l e R s m args below meth c QQ D cs A MC MS C h1 h2 h3 h4 H locs cells slots ad ls' X hl hc hs hk
  subst hst
  exact W.widen (by omega) (by omega) (hk pc ls' v S I ad H locs hq X hr (ax_ext.rf S ad))
theorem r_vret (hd : decode k.2.1 pc = .ok (.return_, 1)) (hr : k.2.2.2 = none) (K : Q none S I) : Rn dd k pc ls [] S I Q := ax_ret (v := none) ⟨hd, hr⟩ rfl K
theorem r_iret {x : Int} (hd : decode k.2.1 pc = .ok (.ireturn, 1)) (hr : k.2.2.2 = some .int) (K : Q (some (ax_i x)) S I) : Rn dd k pc ls [ax_i x] S I Q := ax_ret (v := some (ax_i x)) ⟨hd, _, hr, rfl⟩ rfl K
theorem r_zret {x : Int} (hd : decode k.2.1 pc = .ok (.ireturn, 1)) (hr : k.2.2.2 = some .boolean) (hx : x = 0 ∨ x = 1) (K : Q (some (ax_i x)) S I) : Rn dd k pc ls [ax_i x] S I Q := ax_ret (v := some (ax_i x)) ⟨hd, _, hr, by rcases hx with rfl | rfl <;> decide⟩ rfl K
theorem r_lret {x : Int} (hd : decode k.2.1 pc = .ok (.lreturn, 1)) (hr : k.2.2.2 = some .long) (K : Q (some (ax_l x)) S I) : Rn dd k pc ls [ax_l x] S I Q := ax_ret (v := some (ax_l x)) ⟨hd, hr⟩ rfl K
theorem r_aret {x : Nat} {C : String} (hd : decode k.2.1 pc = .ok (.areturn, 1)) (hr : k.2.2.2 = some (.object C)) (K : Q (some (ax_r x)) S I) : Rn dd k pc ls [ax_r x] S I Q := ax_ret (v := some (ax_r x)) ⟨hd, C, hr⟩ rfl K
end
