section
variable {dd : ax_D} {k : ax_K} {pc : Nat} {ls : ax_L} {st : List ax_V} {S : ax_Sh} {I : ax_H} {Q : Option ax_V → ax_Sh → ax_H → Prop}
/-! numbers of more kinds -/
theorem r_i2l {x : Int} (hd : decode k.2.1 pc = .ok (.i2l, 1)) (hx : ax_R x) (K : Rn dd k (pc + 1) ls (ax_l x :: st) S I Q) : Rn dd k pc ls (ax_i x :: st) S I Q :=
  ax_pure K fun _ _ _ _ _ _ _ _ _ _ _ _ _ _ _ _ _ _ _ ls' C _ hl _ _ w => lv_i2l C.1 C.2.1 hd (by
    rw [← Int64.toInt_inj, Int32.toInt_toInt64, ax_to hx, ax_to8 ⟨by omega, by omega⟩]) (w ls' hl)
def ax_cmp (x y : Int) : Int := if x > y then 1 else if x = y then 0 else -1
theorem r_lcmp {x y : Int} (hd : decode k.2.1 pc = .ok (.lcmp, 1)) (hx : ax_R8 x) (hy : ax_R8 y) (K : Rn dd k (pc + 1) ls (ax_i (ax_cmp x y) :: st) S I Q) : Rn dd k pc ls (ax_l y :: ax_l x :: st) S I Q :=
  ax_pure K fun _ _ _ _ _ _ _ _ _ _ _ _ _ _ _ _ _ _ _ ls' C _ hl _ _ w => W.lcmp C.1 C.2.1 hd (by
    have e : lg_cmp (Int64.ofInt x) (Int64.ofInt y) = Int32.ofInt (ax_cmp x y) := by
      have h1 : Int64.ofInt x > Int64.ofInt y ↔ x > y := by
        show Int64.ofInt y < Int64.ofInt x ↔ y < x
        rw [Int64.lt_iff_toInt_lt, ax_to8 hx, ax_to8 hy]
      have h2 : Int64.ofInt x = Int64.ofInt y ↔ x = y := by rw [← Int64.toInt_inj, ax_to8 hx, ax_to8 hy]
      unfold lg_cmp ax_cmp
      by_cases a : x > y
      · rw [if_pos (h1.mpr a), if_pos a]; rfl
      · rw [if_neg (fun q => a (h1.mp q)), if_neg a]
        by_cases b : x = y
        · rw [if_pos (h2.mpr b), if_pos b]; rfl
        · rw [if_neg (fun q => b (h2.mp q)), if_neg b]; rfl
    rw [e]; exact w ls' hl)
def ax_lor (x y : Int) : Int := (Int64.ofInt x ||| Int64.ofInt y).toInt
theorem r_lor {x y : Int} (hd : decode k.2.1 pc = .ok (.lor, 1)) (K : Rn dd k (pc + 1) ls (ax_l (ax_lor x y) :: st) S I Q) : Rn dd k pc ls (ax_l y :: ax_l x :: st) S I Q :=
  ax_pure K fun _ _ _ _ _ _ _ _ _ _ _ _ _ _ _ _ _ _ ad ls' C _ hl _ _ w => lv_lor C.1 C.2.1 hd (by
    have e : Int64.ofInt (ax_lor x y) = Int64.ofInt x ||| Int64.ofInt y := by unfold ax_lor; rw [Int64.ofInt_toInt]
    have w := w ls' hl
    simp only [List.map_cons, ax_tr] at w
    rw [e] at w; exact w)
theorem ax_m63 : ∀ n : Fin 63, Int64.ofInt 1 <<< ((Int32.ofInt ((n : Nat) : Int)).toInt64 &&& 63) = Int64.ofInt (2 ^ (n : Nat)) := by decide +kernel
/-- 1L << y -/
theorem r_lshl {y : Int} (hd : decode k.2.1 pc = .ok (.lshl, 1)) (hy : 0 ≤ y ∧ y < 63) (K : Rn dd k (pc + 1) ls (ax_l (2 ^ y.toNat) :: st) S I Q) : Rn dd k pc ls (ax_i y :: ax_l 1 :: st) S I Q :=
  ax_pure K fun _ _ _ _ _ _ _ _ _ _ _ _ _ _ _ _ _ _ _ ls' C _ hl _ _ w => lv_lshl C.1 C.2.1 hd (by
    obtain ⟨n, rfl⟩ : ∃ n : Nat, y = n := ⟨y.toNat, by omega⟩
    exact ax_m63 ⟨n, by omega⟩) (w ls' hl)
theorem ax_bv (x : Int) : (Int32.ofInt x).toBitVec.toNat = (x % 4294967296).toNat := by
  rw [Int32.toBitVec_ofInt, BitVec.toNat_ofInt]
  rfl
theorem ax_bvi {a b : Int32} (h : a.toBitVec.toNat = b.toBitVec.toNat) : a = b := Int32.toBitVec_inj.mp (BitVec.eq_of_toNat_eq h)
theorem r_iushr {x : Int} (hd : decode k.2.1 pc = .ok (.iushr, 1)) (K : Rn dd k (pc + 1) ls (ax_i (x % 4294967296 / 65536) :: st) S I Q) : Rn dd k pc ls (ax_i 16 :: ax_i x :: st) S I Q :=
  ax_pure K fun _ _ _ _ _ _ _ _ _ _ _ _ _ _ _ _ _ _ _ ls' C _ hl _ _ w => lv_iushr C.1 C.2.1 hd (by
    apply ax_bvi
    rw [pk_ushr (Int32.ofInt x) (Int32.ofInt 16) 16 (by decide), ax_bv, ax_bv]
    omega) (w ls' hl)
theorem r_iand63 {x : Int} (hd : decode k.2.1 pc = .ok (.iand, 1)) (K : Rn dd k (pc + 1) ls (ax_i (x % 64) :: st) S I Q) : Rn dd k pc ls (ax_i 63 :: ax_i x :: st) S I Q :=
  ax_pure K fun _ _ _ _ _ _ _ _ _ _ _ _ _ _ _ _ _ _ ad ls' C _ hl _ _ w => lv_iand C.1 C.2.1 hd (by
    have e : Int32.ofInt x &&& Int32.ofInt 63 = Int32.ofInt (x % 64) := by
      rw [pk_and (Int32.ofInt x) 6 (by decide)]
      apply ax_bvi
      rw [ax_bv, ax_bv]
      show ((BitVec.ofNat 32 _).toNat) = _
      rw [BitVec.toNat_ofNat]
      omega
    rw [e]; exact w ls' hl)
def ax_xor (x y : Int) : Int := (Int32.ofInt x ^^^ Int32.ofInt y).toInt
theorem ax_xor_R (x y : Int) : ax_R (ax_xor x y) := ⟨Int32.le_toInt _, Int32.toInt_lt _⟩
theorem ax_xor_nn {x y : Int} (hx : ax_R x) (hy : ax_R y) : ax_xor x y < 0 ↔ ¬ (x < 0 ↔ y < 0) := by
  have key : ∀ z : BitVec 32, (z.toInt < 0) ↔ z.msb = true := fun z => by rw [BitVec.msb_eq_toInt]; simp
  have e1 : x = (Int32.ofInt x).toBitVec.toInt := (ax_to hx).symm
  have e2 : y = (Int32.ofInt y).toBitVec.toInt := (ax_to hy).symm
  have e3 : ax_xor x y < 0 ↔ ((Int32.ofInt x).toBitVec ^^^ (Int32.ofInt y).toBitVec).toInt < 0 := Iff.rfl
  have e4 : (x < 0) ↔ (Int32.ofInt x).toBitVec.toInt < 0 := by rw [← e1]
  have e5 : (y < 0) ↔ (Int32.ofInt y).toBitVec.toInt < 0 := by rw [← e2]
  rw [e3, e4, e5, key, key, key, BitVec.msb_xor]
  cases (Int32.ofInt x).toBitVec.msb <;> cases (Int32.ofInt y).toBitVec.msb <;> simp
theorem r_ixor {x y : Int} (hd : decode k.2.1 pc = .ok (.ixor, 1)) (K : Rn dd k (pc + 1) ls (ax_i (ax_xor x y) :: st) S I Q) : Rn dd k pc ls (ax_i y :: ax_i x :: st) S I Q :=
  ax_pure K fun _ _ _ _ _ _ _ _ _ _ _ _ _ _ _ _ _ _ ad ls' C _ hl _ _ w => lv_ixor C.1 C.2.1 hd (by
    have e : Int32.ofInt (ax_xor x y) = Int32.ofInt x ^^^ Int32.ofInt y := by unfold ax_xor; rw [Int32.ofInt_toInt]
    have w := w ls' hl
    simp only [List.map_cons, ax_tr] at w
    rw [e] at w; exact w)
theorem r_ldc {i : Nat} {v : Int} (hd : decode k.2.1 pc = .ok (.ldc i, 2)) (hw : Cond.constant k.1.cls i (Int32.ofInt v) ∈ ax_tb) (K : Rn dd k (pc + 2) ls (ax_i v :: st) S I Q) : Rn dd k pc ls st S I Q :=
  ax_pure K fun _ _ _ _ _ _ _ _ _ _ _ _ _ _ _ _ _ _ _ ls' C _ hl _ _ w => lv_ldc C.1 C.2.1 C.2.2.2.1 (C.2.2.2.2.1 _ hw) hd (w ls' hl)
theorem r_ldcw {i : Nat} {v : Int} (hd : decode k.2.1 pc = .ok (.ldc_w i, 3)) (hw : Cond.constant k.1.cls i (Int32.ofInt v) ∈ ax_tb) (K : Rn dd k (pc + 3) ls (ax_i v :: st) S I Q) : Rn dd k pc ls st S I Q :=
  ax_pure K fun _ _ _ _ _ _ _ _ _ _ _ _ _ _ _ _ _ _ _ ls' C _ hl _ _ w => lv_ldcw C.1 C.2.1 C.2.2.2.1 (C.2.2.2.2.1 _ hw) hd (w ls' hl)
theorem r_ldc2 {i : Nat} {v : Int} (hd : decode k.2.1 pc = .ok (.ldc2_w i, 3)) (hw : Cond.constantLong k.1.cls i (Int64.ofInt v) ∈ ax_tb) (K : Rn dd k (pc + 3) ls (ax_l v :: st) S I Q) : Rn dd k pc ls st S I Q :=
  ax_pure K fun _ _ _ _ _ _ _ _ _ _ _ _ _ _ _ _ _ _ _ ls' C _ hl _ _ w => lv_ldc2 C.1 C.2.1 C.2.2.2.1 (C.2.2.2.2.1 _ hw) hd (w ls' hl)
theorem r_tswIn {dflt lo hi : Int} {offs : Array Int} {len : Nat} {x off : Int} {tgt : Nat} (hd : decode k.2.1 pc = .ok (.tableswitch dflt lo hi offs, len)) (hx : ax_R x) (h1 : lo ≤ x) (h2 : x ≤ hi) (ho : offs[(x - lo).toNat]? = some off) (ht : (pc : Int) + off = (tgt : Int)) (K : Rn dd k tgt ls st S I Q) : Rn dd k pc ls (ax_i x :: st) S I Q :=
  ax_pure K fun _ _ _ _ _ _ _ _ _ _ _ _ _ _ _ _ _ _ _ ls' C _ hl _ _ w => lv_tableIn C.1 C.2.1 hd (by rw [ax_to hx]; omega) (by rw [ax_to hx]; omega) (by rw [ax_to hx]; exact ho) ht (w ls' hl)
theorem r_tswOut {dflt lo hi : Int} {offs : Array Int} {len : Nat} {x : Int} {tgt : Nat} (hd : decode k.2.1 pc = .ok (.tableswitch dflt lo hi offs, len)) (hx : ax_R x) (h1 : x < lo ∨ hi < x) (ht : (pc : Int) + dflt = (tgt : Int)) (K : Rn dd k tgt ls st S I Q) : Rn dd k pc ls (ax_i x :: st) S I Q :=
  ax_pure K fun _ _ _ _ _ _ _ _ _ _ _ _ _ _ _ _ _ _ _ ls' C _ hl _ _ w => lv_tableOut C.1 C.2.1 hd (by rw [ax_to hx]; omega) ht (w ls' hl)
/-! reading the world -/
theorem ax_w_get {cs : ax_Cs} {ad : Nat → Nat} {S : ax_Sh} {I : ax_H} {i : Nat} {r : Nat × Nat × List (Option Nat)} (h : S[i]? = some r) : (ax_w cs ad S I)[i]? = some (ad i, ax_cell cs ad I i r) := by
  have hl : i < S.length := (List.getElem?_eq_some_iff.mp h).1
  unfold ax_w
  rw [List.getElem?_map, List.getElem?_range hl]
  simp [h]
/-- what the tables say of the class ci -/
def ax_cl (ci : Nat) (C : String) (T : u_T) (N : Nat) (ty : Nat → FieldType) : Prop :=
  ci < 100 ∧ vwCl[ci]? = some (C, T, N) ∧ (∀ w ∈ u_ws C T N, w ∈ ax_tb) ∧ (∀ j, j < N → parseFieldDescriptor (T j).2.2.1 = some (ty j)) ∧ (∀ a, a < N → ∀ b, b < N → a ≠ b → (T a).2.1 ≠ (T b).2.1) ∧ ∀ j, j < N → defaultValue (ty j) = if ax_isr ci j then .null else .int 0
theorem r_getI {ci : Nat} {C : String} {T : u_T} {N : Nat} {ty : Nat → FieldType} {a : Nat} {rs : List (Option Nat)} {idx : Nat} (hc : ax_cl ci C T N ty) (j : Nat) (jI : Int) (hj : j < N) (hS : S[a]? = some (ci, N, rs)) (hi : ax_isr ci j = false) (hjI : (j : Int) = jI) (hw : Cond.fieldLink k.1.cls idx (T j).1 (T j).2.1 (T j).2.2.1 ∈ ax_tb) (hd : decode k.2.1 pc = .ok (.getfield idx, 3)) (K : Rn dd k (pc + 3) ls (ax_i (I a jI) :: st) S I Q) : Rn dd k pc ls (ax_r a :: st) S I Q :=
  ax_pure K fun _ _ _ _ _ _ _ _ _ _ _ D cs A H locs _ _ ad ls' C X hl _ _ w => by
    have he := ax_w_get (cs := cs) (ad := ad) (I := I) hS
    rw [show ax_cell cs ad I a (ci, N, rs) = _ from if_pos hc.1] at he
    refine va_get (D := D) C.1 C.2.1 C.2.2.2.2.1 hc.2.2.1 C.2.2.2.1 X.2.2.1 X.1 a he hc.2.1 j hj (C.2.2.2.2.1 _ hw) (fun _ h => h) ?_ hd (w ls' hl)
    rw [List.getElem?_map, List.getElem?_range hj]
    simp [hi, ← hjI, ax_tr]
theorem r_getR {ci : Nat} {C : String} {T : u_T} {N : Nat} {ty : Nat → FieldType} {a b : Nat} {rs : List (Option Nat)} {idx : Nat} (hc : ax_cl ci C T N ty) (j : Nat) (hj : j < N) (hS : S[a]? = some (ci, N, rs)) (hi : ax_isr ci j = true) (hb : rs[j]? = some (some b)) (hw : Cond.fieldLink k.1.cls idx (T j).1 (T j).2.1 (T j).2.2.1 ∈ ax_tb) (hd : decode k.2.1 pc = .ok (.getfield idx, 3)) (K : Rn dd k (pc + 3) ls (ax_r b :: st) S I Q) : Rn dd k pc ls (ax_r a :: st) S I Q :=
  ax_pure K fun _ _ _ _ _ _ _ _ _ _ _ D cs A H locs _ _ ad ls' C X hl _ _ w => by
    have he := ax_w_get (cs := cs) (ad := ad) (I := I) hS
    rw [show ax_cell cs ad I a (ci, N, rs) = _ from if_pos hc.1] at he
    refine va_get (D := D) C.1 C.2.1 C.2.2.2.2.1 hc.2.2.1 C.2.2.2.1 X.2.2.1 X.1 a he hc.2.1 j hj (C.2.2.2.2.1 _ hw) (fun _ h => h) ?_ hd (w ls' hl)
    rw [List.getElem?_map, List.getElem?_range hj]
    simp [hi, hb, ax_tr, va_rf]
theorem r_iald {a n : Nat} {rs : List (Option Nat)} {i : Int} (hS : S[a]? = some (100, n, rs)) (hn : n < 2147483648) (hd : decode k.2.1 pc = .ok (.iaload, 1)) (h : 0 ≤ i ∧ i < (n : Int)) (K : Rn dd k (pc + 1) ls (ax_i (I a i) :: st) S I Q) : Rn dd k pc ls (ax_i i :: ax_r a :: st) S I Q :=
  ax_pure K fun _ _ _ _ _ _ _ _ _ _ _ D cs A H locs _ _ ad ls' C X hl _ _ w => by
    have he := ax_w_get (cs := cs) (ad := ad) (I := I) hS
    refine va_iald (D := D) C.1 C.2.1 X.2.2.1 X.1 a 0 he rfl (ax_in h.1 h.2 hn) hd ?_
    rw [ax_nat h.1 (by omega), Int.toNat_of_nonneg h.1]
    exact w ls' hl
theorem r_zald {a n : Nat} {rs : List (Option Nat)} {i : Int} (hS : S[a]? = some (101, n, rs)) (hn : n < 2147483648) (hd : decode k.2.1 pc = .ok (.baload, 1)) (h : 0 ≤ i ∧ i < (n : Int)) (K : Rn dd k (pc + 1) ls (ax_i (I a i) :: st) S I Q) : Rn dd k pc ls (ax_i i :: ax_r a :: st) S I Q :=
  ax_pure K fun _ _ _ _ _ _ _ _ _ _ _ D cs A H locs _ _ ad ls' C X hl _ _ w => by
    have he := ax_w_get (cs := cs) (ad := ad) (I := I) hS
    refine va_zald (D := D) C.1 C.2.1 X.2.2.1 X.1 a 1 he rfl (ax_in h.1 h.2 hn) hd ?_
    rw [ax_nat h.1 (by omega), Int.toNat_of_nonneg h.1]
    exact w ls' hl
theorem r_alen {a n : Nat} {rs : List (Option Nat)} (hS : S[a]? = some (100, n, rs)) (hd : decode k.2.1 pc = .ok (.arraylength, 1)) (nI : Int) (hnI : (n : Int) = nI) (K : Rn dd k (pc + 1) ls (ax_i nI :: st) S I Q) : Rn dd k pc ls (ax_r a :: st) S I Q :=
  ax_pure K fun _ _ _ _ _ _ _ _ _ _ _ D cs A H locs _ _ ad ls' C X hl _ _ w => by
    have he := ax_w_get (cs := cs) (ad := ad) (I := I) hS
    refine va_alen (D := D) C.1 C.2.1 X.2.2.1 X.1 a 0 he rfl (v := Int32.ofInt nI) ?_ hd (w ls' hl)
    subst hnI; rfl
theorem r_aaldP {a n b : Nat} {rs : List (Option Nat)} {i : Int} (hS : S[a]? = some (102, n, rs)) (hn : n < 2147483648) (hd : decode k.2.1 pc = .ok (.aaload, 1)) (h : 0 ≤ i ∧ i < (n : Int)) (hb : rs[i.toNat]? = some (some b)) (K : Rn dd k (pc + 1) ls (ax_r b :: st) S I Q) : Rn dd k pc ls (ax_i i :: ax_r a :: st) S I Q :=
  ax_pure K fun _ _ _ _ _ _ _ _ _ _ _ D cs A H locs _ _ ad ls' C X hl _ _ w => by
    have he := ax_w_get (cs := cs) (ad := ad) (I := I) hS
    refine va_aldq (D := D) C.1 C.2.1 X.2.2.1 X.1 a 2 he rfl (ax_in h.1 h.2 hn) hd ?_
    rw [ax_nat h.1 (by omega)]
    have := w ls' hl
    simpa [hb, ax_tr, va_rf] using this
theorem r_aaldA {a n b : Nat} {rs : List (Option Nat)} {i : Int} (hS : S[a]? = some (103, n, rs)) (hn : n < 2147483648) (hd : decode k.2.1 pc = .ok (.aaload, 1)) (h : 0 ≤ i ∧ i < (n : Int)) (hb : rs[i.toNat]? = some (some b)) (K : Rn dd k (pc + 1) ls (ax_r b :: st) S I Q) : Rn dd k pc ls (ax_i i :: ax_r a :: st) S I Q :=
  ax_pure K fun _ _ _ _ _ _ _ _ _ _ _ D cs A H locs _ _ ad ls' C X hl _ _ w => by
    have he := X.1 a _ (ax_w_get (cs := cs) (ad := ad) (I := I) hS)
    have he : H[ad a]? = some (arrV cs.2.2.2 n (fun j => va_rf ((rs.getD j none).map ad))) := he
    have hK := (X.2.2.1.2 3 (cs.2.2.2, .array .int) rfl).1
    refine W.aald (ty := .array .int) (v := .ref (ad b)) C.1 C.2.1 he (hK n _) rfl (by simp [arrV]) ?_ ?_ (g := F0 _ pc ls' _) rfl rfl hd (w ls' hl)
    · have := ax_in h.1 h.2 hn
      simpa [vp_in, arrV] using this
    · rw [ax_nat h.1 (by omega)]
      have : i.toNat < n := by omega
      simp [arrV, this, hb, va_rf]
theorem r_getInv {idx : Nat} (hd : decode k.2.1 pc = .ok (.getstatic idx, 3)) (hw : Cond.fieldLink k.1.cls idx "KeptCurves" "INVERSE" "[I" ∈ ax_tb) (K : Rn dd k (pc + 3) ls (ax_r 1000000 :: st) S I Q) : Rn dd k pc ls st S I Q :=
  ax_pure K fun _ _ _ _ _ _ _ _ _ _ _ D cs A H locs _ _ ad ls' C X hl _ _ w => va_gets C.1 C.2.1 X.2.2.2.2.2.1 X.2.2.2.1 C.2.2.2.1 (C.2.2.2.2.1 _ hw) (fun _ h => h) hd (w ls' hl)
theorem r_ialdInv {i : Int} (hd : decode k.2.1 pc = .ok (.iaload, 1)) (h : 0 ≤ i ∧ i < 31) (K : Rn dd k (pc + 1) ls (ax_i (ax_inv i) :: st) S I Q) : Rn dd k pc ls (ax_i i :: ax_r 1000000 :: st) S I Q :=
  ax_pure K fun _ _ _ _ _ _ _ _ _ _ _ D cs A H locs _ _ ad ls' C X hl _ _ w => va_ti C.1 C.2.1 X.2.2.2.2.2.2.1 X.2.2.2.1 (ax_in h.1 (by omega) (by decide)) (v := .int (Int32.ofInt (ax_inv i))) (by rw [ax_nat h.1 (by omega), Int.toNat_of_nonneg h.1]) hd (w ls' hl)
theorem r_heapR (K : (∀ a i, ax_R (I a i)) → Rn dd k pc ls st S I Q) : Rn dd k pc ls st S I Q := by
  intro p l e R s m args below meth c QQ D cs A MC MS C h1 h2 h3 h4 H locs cells slots ad ls' X hl hc hs hk
  exact K X.2.2.2.2.2.2.2.1 p l e R s m args below meth c QQ D cs A MC MS C h1 h2 h3 h4 H locs cells slots ad ls' X hl hc hs hk
theorem ax_le_mem {ad : Nat → Nat} : ∀ (l2 l1 : ax_L) (b : Nat), ax_le l2 l1 → ∀ q ∈ ax_lv ad b l2, q ∈ ax_lv ad b l1
  | [], _, _, _, q, hq => by simp [ax_lv] at hq
  | none :: r, w :: r2, b, h, q, hq => by
    have := ax_le_mem r r2 (b + 1) h q (by simpa [ax_lv] using hq)
    cases w with
    | none => simpa [ax_lv] using this
    | some w => simp only [ax_lv]; exact List.mem_cons_of_mem _ this
  | none :: r, [], b, h, q, hq => by
    have := ax_le_mem r [] (b + 1) h q (by simpa [ax_lv] using hq)
    simp [ax_lv] at this
  | some v :: r, [], b, h, q, hq => h.elim
  | some v :: r, w :: r2, b, h, q, hq => by
    obtain ⟨rfl, h⟩ := h
    simp only [ax_lv, List.mem_cons] at hq ⊢
    rcases hq with rfl | hq
    · exact Or.inl rfl
    · exact Or.inr (ax_le_mem r r2 (b + 1) h q hq)
theorem r_drop {ls2 : ax_L} (K : Rn dd k pc ls2 st S I Q) (h : ax_le ls2 ls) : Rn dd k pc ls st S I Q :=
  ax_pure K fun _ _ _ _ _ _ _ _ _ _ _ _ _ _ _ _ _ _ _ ls' C _ hl _ _ w => w ls' (ax_lsub hl (ax_le_mem ls2 ls 0 h))
theorem r_name {x : Int} (K : ∀ y, y = x → Rn dd k pc ls (ax_i y :: st) S I Q) : Rn dd k pc ls (ax_i x :: st) S I Q := K x rfl
end
