/-! The abstract machine over the kit's rows: ints are Int (read modulo 2 ^ 32), references are numbers of cells -/
abbrev ax_V : Type := Int ⊕ (Int ⊕ Nat)
abbrev ax_i (n : Int) : ax_V := .inl n
abbrev ax_l (n : Int) : ax_V := .inr (.inl n)
abbrev ax_r (a : Nat) : ax_V := .inr (.inr a)
def ax_tr (ad : Nat → Nat) : ax_V → Value
  | .inl n => .int (Int32.ofInt n)
  | .inr (.inl n) => .long (Int64.ofInt n)
  | .inr (.inr a) => .ref (ad a)
abbrev ax_H : Type := Nat → Int → Int
abbrev ax_Sh : Type := List (Nat × Nat × List (Option Nat))
/-- the words that every method may use -/
def ax_tb : List Cond := lw_tbl.filter goodWord
/-- the words on private members of nest mates -/
def ax_isN : Cond → Bool
  | .methodLinkNest _ _ _ _ => true
  | .fieldLinkNest _ _ _ _ _ _ => true
  | .arrayOver _ => true
  | _ => false
def ax_nst : List Cond := lw_tbl.filter ax_isN
/-- a method: its name, code, number of locals, answer -/
abbrev ax_K : Type := MethodName × ByteArray × Nat × Option FieldType
abbrev ax_L : Type := List (Option ax_V)
def ax_lv (ad : Nat → Nat) : Nat → ax_L → List (Nat × Value)
  | _, [] => []
  | i, none :: r => ax_lv ad (i + 1) r
  | i, some v :: r => (i, ax_tr ad v) :: ax_lv ad (i + 1) r
def ax_ent : List ax_V → ax_L
  | [] => []
  | .inr (.inl n) :: r => some (.inr (.inl n)) :: none :: ax_ent r
  | v :: r => some v :: ax_ent r
abbrev ax_pad (n : Nat) (l : ax_L) : ax_L := l ++ List.replicate (n - l.length) none
/-- in the range of an int, of a long -/
abbrev ax_R (n : Int) : Prop := -2147483648 ≤ n ∧ n < 2147483648
abbrev ax_R8 (n : Int) : Prop := -9223372036854775808 ≤ n ∧ n < 9223372036854775808
/-- which fields are references -/
def ax_fr : List (List Bool) := [
  [true, false],
  [true, false, false, false, true, true, true, true, true, true],
  [true, true, true, true, true, true, true, true, true, true, true, true, true],
  [true, true],
  [true, true],
  [true, true, true, true, false],
  [true, true, false],
  [true, false],
  [true, false],
  [true],
  [true, true, true, true, true, true, true, true, true, true, true, true, true, false],
  [true, true, false, true, true, true, true, true, true, true, true, true, true, true, true, true, true, true, true, true, true, true, true, false, false, true, true, false, true, true]]
def ax_isr (ci j : Nat) : Bool := (ax_fr.getD ci []).getD j false
abbrev ax_Cs : Type := ClassId × ClassId × ClassId × ClassId
def ax_cell (cs : ax_Cs) (ad : Nat → Nat) (I : ax_H) (i : Nat) (r : Nat × Nat × List (Option Nat)) : va_E :=
  if r.1 < 100 then .inr (r.1, (List.range r.2.1).map (fun j => if ax_isr r.1 j then va_rf ((r.2.2.getD j none).map ad) else .int (Int32.ofInt (I i (j : Int)))))
  else if r.1 = 100 then .inl (cs.1, r.2.1, .inl (fun j => Int32.ofInt (I i (j : Int))))
  else if r.1 = 101 then .inl (cs.2.1, r.2.1, .inl (fun j => Int32.ofInt (I i (j : Int))))
  else if r.1 = 102 then .inl (cs.2.2.1, r.2.1, .inr (.inr (.inr (.inr (fun j => (r.2.2.getD j none).map ad)))))
  else .inl (cs.2.2.2, r.2.1, .inr (.inr (.inr (.inr (fun j => (r.2.2.getD j none).map ad)))))
abbrev ax_tys (cs : ax_Cs) : List (ClassId × FieldType) := [(cs.1, .int), (cs.2.1, .boolean), (cs.2.2.1, .object "KeptCurves$Poly"), (cs.2.2.2, .array .int)]
def ax_w (cs : ax_Cs) (ad : Nat → Nat) (S : ax_Sh) (I : ax_H) : va_W := (List.range S.length).map (fun i => (ad i, ax_cell cs ad I i (S.getD i (0, 0, []))))
/-- the numbers of KeptCurves.INVERSE -/
def ax_invL : List Int := [0, 1, 16, 21, 8, 25, 26, 9, 4, 7, 28, 17, 13, 12, 20, 29, 2, 11, 19, 18, 14, 3, 24, 27, 22, 5, 6, 23, 10, 15, 30]
def ax_inv (n : Int) : Int := ax_invL.getD n.toNat 0
def ax_sc (ad : Nat → Nat) (A : Nat → Prop) (s : State) (sc : Option (Nat × (Int → Int))) : Prop :=
  match sc with
  | none => True
  | some (L, xs) => va_X (ad 1000001) L (fun j => Int32.ofInt (xs (j : Int))) s s.heap ∧ ad 1000001 < s.heap.size ∧ ¬ A (ad 1000001)
/-- the world: its cells, the classes, what has moved, the static row, the script -/
def ax_X (D : va_G) (cs : ax_Cs) (A : Nat → Prop) (s : State) (H : Heap) (locs : List Loc) (ad : Nat → Nat) (S : ax_Sh) (I : ax_H) (sc : Option (Nat × (Int → Int))) : Prop :=
  va_P D vwCl (ax_w cs ad S I) H ∧ va_D A (ax_w cs ad S I) ∧ va_K D vwCl (ax_tys cs) s ∧ va_S A s.heap H locs ∧ (∀ q, s.heap.size ≤ q → A q) ∧
  va_Z "KeptCurves" "INVERSE" "[I" (.ref (ad 1000000)) A s s.heap ∧ va_T .int (ad 1000000) 31 (fun j => .int (Int32.ofInt (ax_inv (j : Int)))) A s s.heap ∧ (∀ a i, ax_R (I a i)) ∧ ax_sc ad A s sc
/-- the frame of a method -/
def ax_C (k : ax_K) (p : Program) (s : State) (m : MethodId) (args : Array Value) (meth : Method) (c : Code) : Prop :=
  p.tables.exec = Jvm.exec ∧ c.code = k.2.1 ∧ c.maxLocals = k.2.2.1 ∧ s.vm.findClass k.1.cls = some m.cls ∧ (∀ w ∈ ax_tb, w.before args s = true) ∧ meth.sig.returnType = k.2.2.2 ∧ meth.locks = false ∧ (k.1.name = "<init>" → meth.name = "<init>") ∧ ∀ w ∈ ax_nst, w.before args s = true
def ax_isRet (k : ax_K) (pc : Nat) (v : Option ax_V) : Prop :=
  match v with
  | none => decode k.2.1 pc = .ok (.return_, 1) ∧ k.2.2.2 = none
  | some (.inl n) => decode k.2.1 pc = .ok (.ireturn, 1) ∧ ∃ ty, k.2.2.2 = some ty ∧ narrow ty (.int (Int32.ofInt n)) = .int (Int32.ofInt n)
  | some (.inr (.inl _)) => decode k.2.1 pc = .ok (.lreturn, 1) ∧ k.2.2.2 = some .long
  | some (.inr (.inr _)) => decode k.2.1 pc = .ok (.areturn, 1) ∧ ∃ n, k.2.2.2 = some (.object n)
def ax_ext (S : ax_Sh) (ad : Nat → Nat) (S' : ax_Sh) (ad' : Nat → Nat) : Prop := S.length ≤ S'.length ∧ (∀ i, i < S.length ∨ 1000000 ≤ i → ad' i = ad i) ∧ (S'.length = S.length → ad' = ad)
/-- the room: depth of the calls, cells, slots; the script -/
abbrev ax_D : Type := Nat × Nat × Nat × Option (Nat × (Int → Int))
/-- from this point of the method k it comes to a return, with Q of the answer and the world -/
def Rn (dd : ax_D) (k : ax_K) (pc : Nat) (ls : ax_L) (st : List ax_V) (S : ax_Sh) (I : ax_H) (Q : Option ax_V → ax_Sh → ax_H → Prop) : Prop :=
  ∀ (p : Program) (l : Launch) (e : Env) (R : Room) (s : State) (m : MethodId) (args : Array Value) (below : List Frame) (meth : Method) (c : Code) (QQ : State → Prop) (D : va_G) (cs : ax_Cs) (A : Nat → Prop) (MC MS : Nat),
    ax_C k p s m args meth c → dd.1 ≤ R.frames → 60 * dd.1 ≤ R.locals → MC ≤ R.cells → MS ≤ R.slots →
    ∀ (H : Heap) (locs : List Loc) (cells slots : Nat) (ad : Nat → Nat) (ls' : Array Slot), ax_X D cs A s H locs ad S I dd.2.2.2 → lv_has ls' k.2.2.1 (ax_lv ad 0 ls) → cells + dd.2.1 ≤ MC → slots + dd.2.2.1 ≤ MS →
    (∀ (pc' : Nat) (ls' : Array Slot) (v : Option ax_V) (S' : ax_Sh) (I' : ax_H) (ad' : Nat → Nat) (H' : Heap) (locs' : List Loc), Q v S' I' → ax_X D cs A s H' locs' ad' S' I' dd.2.2.2 → ax_isRet k pc' v → ax_ext S ad S' ad' →
      W p l e R s m args below meth c H' locs' MC MS QQ (F0 m pc' ls' (v.toList.map (ax_tr ad')))) →
    W p l e R s m args below meth c H locs cells slots QQ (F0 m pc ls' (st.map (ax_tr ad)))
theorem ax_ext.rf (S : ax_Sh) (ad : Nat → Nat) : ax_ext S ad S ad := ⟨Nat.le_refl _, fun _ _ => rfl, fun _ => rfl⟩
theorem ax_ext.len {S S' T : ax_Sh} {ad ad' : Nat → Nat} (h : ax_ext S ad S' ad') (e : T.length = S.length) : ax_ext T ad S' ad' := by
  unfold ax_ext at *
  rw [e]; exact h
/-- a step that leaves the world as it is -/
theorem ax_pure {dd : ax_D} {k : ax_K} {pc pc' : Nat} {ls ls2 : ax_L} {st st2 : List ax_V} {S : ax_Sh} {I : ax_H} {Q : Option ax_V → ax_Sh → ax_H → Prop}
    (K : Rn dd k pc' ls2 st2 S I Q)
    (h : ∀ (p : Program) (l : Launch) (e : Env) (R : Room) (s : State) (m : MethodId) (args : Array Value) (below : List Frame) (meth : Method) (c : Code) (QQ : State → Prop) (D : va_G) (cs : ax_Cs) (A : Nat → Prop) (H : Heap) (locs : List Loc) (cells slots : Nat) (ad : Nat → Nat) (ls' : Array Slot),
      ax_C k p s m args meth c → ax_X D cs A s H locs ad S I dd.2.2.2 → lv_has ls' k.2.2.1 (ax_lv ad 0 ls) → dd.1 ≤ R.frames → 60 * dd.1 ≤ R.locals →
      (∀ ls2' : Array Slot, lv_has ls2' k.2.2.1 (ax_lv ad 0 ls2) → W p l e R s m args below meth c H locs cells slots QQ (F0 m pc' ls2' (st2.map (ax_tr ad)))) →
      W p l e R s m args below meth c H locs cells slots QQ (F0 m pc ls' (st.map (ax_tr ad)))) :
    Rn dd k pc ls st S I Q := by
  intro p l e R s m args below meth c QQ D cs A MC MS C h1 h2 h3 h4 H locs cells slots ad ls' X hl hc hs hk
  exact h p l e R s m args below meth c QQ D cs A H locs cells slots ad ls' C X hl h1 h2 (fun ls2' hl2 => K p l e R s m args below meth c QQ D cs A MC MS C h1 h2 h3 h4 H locs cells slots ad ls2' X hl2 hc hs hk)
theorem ax_lv_get {ad : Nat → Nat} : ∀ (ls : ax_L) (b i : Nat) (v : ax_V), ls[i]? = some (some v) → (b + i, ax_tr ad v) ∈ ax_lv ad b ls
  | [], _, _, _, h => by simp at h
  | none :: r, b, i, v, h => by
    cases i with
    | zero => simp at h
    | succ i =>
      have := ax_lv_get (ad := ad) r (b + 1) i v (by simpa using h)
      simp only [ax_lv]
      rw [show b + (i + 1) = b + 1 + i by omega]; exact this
  | some w :: r, b, i, v, h => by
    cases i with
    | zero =>
      simp at h
      subst h
      simp [ax_lv]
    | succ i =>
      have := ax_lv_get (ad := ad) r (b + 1) i v (by simpa using h)
      simp only [ax_lv]
      rw [show b + (i + 1) = b + 1 + i by omega]; exact List.mem_cons_of_mem _ this
theorem ax_lv_mem {ad : Nat → Nat} : ∀ (ls : ax_L) (b : Nat) (q : Nat × Value), q ∈ ax_lv ad b ls → ∃ (i : Nat) (v : ax_V), ls[i]? = some (some v) ∧ q = (b + i, ax_tr ad v)
  | [], _, _, h => by simp [ax_lv] at h
  | none :: r, b, q, h => by
    obtain ⟨i, v, h1, h2⟩ := ax_lv_mem r (b + 1) q (by simpa [ax_lv] using h)
    exact ⟨i + 1, v, by simpa using h1, by rw [h2]; congr 1; omega⟩
  | some w :: r, b, q, h => by
    simp only [ax_lv, List.mem_cons] at h
    rcases h with rfl | h
    · exact ⟨0, w, by simp, rfl⟩
    · obtain ⟨i, v, h1, h2⟩ := ax_lv_mem r (b + 1) q h
      exact ⟨i + 1, v, by simpa using h1, by rw [h2]; congr 1; omega⟩
/-- reading a local -/
theorem ax_lat {ls' : Array Slot} {n : Nat} {ad : Nat → Nat} {ls : ax_L} (h : lv_has ls' n (ax_lv ad 0 ls)) {i : Nat} {v : ax_V} (hv : ls[i]? = some (some v)) : ls'[i]? = some (.val (ax_tr ad v)) := by
  have := h.2.2 _ (ax_lv_get ls 0 i v hv)
  simpa using this
theorem ax_lsub {ls' : Array Slot} {n : Nat} {l l2 : List (Nat × Value)} (h : lv_has ls' n l) (hs : ∀ q ∈ l2, q ∈ l) : lv_has ls' n l2 := ⟨h.1, h.2.1, fun q hq => h.2.2 q (hs q hq)⟩
def ax_long : Option (Option ax_V) → Bool
  | some (some (.inr (.inl _))) => true
  | _ => false
/-- locals behind a store of one word; no long may stand just ahead -/
def ax_ok1 (ls : ax_L) (i : Nat) : Bool := i < ls.length && !(0 < i && ax_long ls[i - 1]?)
theorem ax_tr_cat (ad : Nat → Nat) (v : ax_V) : (ax_tr ad v).category = 2 → ∃ n, v = .inr (.inl n) := by
  rcases v with n | n | a
  · intro h; simp [ax_tr, Value.category] at h
  · intro _; exact ⟨n, rfl⟩
  · intro h; simp [ax_tr, Value.category] at h
theorem ax_set1 {ad : Nat → Nat} {ls : ax_L} {i : Nat} {v : ax_V} (hok : ax_ok1 ls i = true) : ∀ q ∈ ax_lv ad 0 (ls.set i (some v)), q ∈ (i, ax_tr ad v) :: (ax_lv ad 0 ls).filter (fun q => !(q.1 == i) && !(q.1 + 1 == i && q.2.category == 2)) := by
  intro q hq
  obtain ⟨j, w, h1, rfl⟩ := ax_lv_mem _ _ _ hq
  simp only [ax_ok1, Bool.and_eq_true, decide_eq_true_eq, Bool.not_eq_true', Bool.and_eq_false_iff] at hok
  rw [List.getElem?_set] at h1
  by_cases hij : i = j
  · subst hij
    rw [if_pos rfl, if_pos hok.1] at h1
    simp at h1
    subst h1
    simp
  · rw [if_neg hij] at h1
    refine List.mem_cons_of_mem _ (List.mem_filter.mpr ⟨ax_lv_get ls 0 j w h1, ?_⟩)
    simp only [Nat.zero_add, Bool.and_eq_true, Bool.not_eq_true', beq_eq_false_iff_ne, ne_eq, Bool.and_eq_false_iff]
    refine ⟨fun h => hij h.symm, ?_⟩
    by_cases hc : (ax_tr ad w).category = 2
    · left
      intro hji
      obtain ⟨n, rfl⟩ := ax_tr_cat ad w hc
      rcases hok.2 with h | h
      · simp at h; omega
      · rw [show i - 1 = j by omega, h1] at h
        simp [ax_long] at h
    · right; exact hc
def ax_ok2 (ls : ax_L) (i : Nat) : Bool := i + 1 < ls.length && !(0 < i && ax_long ls[i - 1]?)
theorem ax_set2 {ad : Nat → Nat} {ls : ax_L} {i : Nat} {v : ax_V} (hok : ax_ok2 ls i = true) : ∀ q ∈ ax_lv ad 0 ((ls.set i (some v)).set (i + 1) none), q ∈ (i, ax_tr ad v) :: (ax_lv ad 0 ls).filter (fun q => !(q.1 == i) && (!(q.1 == i + 1) && !(q.1 + 1 == i && q.2.category == 2))) := by
  intro q hq
  obtain ⟨j, w, h1, rfl⟩ := ax_lv_mem _ _ _ hq
  simp only [ax_ok2, Bool.and_eq_true, decide_eq_true_eq, Bool.not_eq_true', Bool.and_eq_false_iff] at hok
  rw [List.getElem?_set] at h1
  by_cases hi1 : i + 1 = j
  · subst hi1
    rw [if_pos rfl] at h1
    have : i + 1 < (ls.set i (some v)).length := by simpa using hok.1
    rw [if_pos this] at h1
    simp at h1
  · rw [if_neg hi1, List.getElem?_set] at h1
    by_cases hij : i = j
    · subst hij
      rw [if_pos rfl, if_pos (by omega)] at h1
      simp at h1
      subst h1
      simp
    · rw [if_neg hij] at h1
      refine List.mem_cons_of_mem _ (List.mem_filter.mpr ⟨ax_lv_get ls 0 j w h1, ?_⟩)
      simp only [Nat.zero_add, Bool.and_eq_true, Bool.not_eq_true', beq_eq_false_iff_ne, ne_eq, Bool.and_eq_false_iff]
      refine ⟨fun h => hij h.symm, fun h => hi1 h.symm, ?_⟩
      by_cases hc : (ax_tr ad w).category = 2
      · left
        intro hji
        obtain ⟨n, rfl⟩ := ax_tr_cat ad w hc
        rcases hok.2 with h | h
        · simp at h; omega
        · rw [show i - 1 = j by omega, h1] at h
          simp [ax_long] at h
      · right; exact hc
/-- fewer locals are known -/
def ax_le : ax_L → ax_L → Prop
  | [], _ => True
  | none :: r, _ :: r2 => ax_le r r2
  | none :: r, [] => ax_le r []
  | some _ :: _, [] => False
  | some v :: r, w :: r2 => w = some v ∧ ax_le r r2
theorem ax_leE {l : ax_L} : ax_le [] l := trivial
theorem ax_leN {r r2 : ax_L} {w : Option ax_V} (h : ax_le r r2) : ax_le (none :: r) (w :: r2) := h
theorem ax_leS {r r2 : ax_L} {v : ax_V} (h : ax_le r r2) : ax_le (some v :: r) (some v :: r2) := ⟨rfl, h⟩
