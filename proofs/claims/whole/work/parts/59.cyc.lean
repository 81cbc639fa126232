/-! cycles of a map, purely -/
theorem itn_add (f : Int → Int) : ∀ (a b : Nat) (s : Int), itn f (a + b) s = itn f b (itn f a s)
  | 0, b, s => by rw [Nat.zero_add]; rfl
  | a + 1, b, s => by
    rw [show a + 1 + b = (a + b) + 1 by omega]
    show itn f (a + b) (f s) = itn f b (itn f a (f s))
    exact itn_add f a b (f s)
theorem itn_suc (f : Int → Int) (n : Nat) (s : Int) : itn f (n + 1) s = f (itn f n s) := itn_add f n 1 s
def isL (f : Int → Int) (s : Int) (n : Nat) : Prop := (1 ≤ n ∧ n ≤ 1024) ∧ itn f n s = s ∧ ∀ m, 1 ≤ m → m < n → itn f m s ≠ s
theorem isL_uniq {f : Int → Int} {s : Int} {n m : Nat} (h : isL f s n) (h' : isL f s m) : n = m := by
  rcases Nat.lt_trichotomy n m with q | q | q
  · exact absurd h.2.1 (h'.2.2 n h.1.1 q)
  · exact q
  · exact absurd h'.2.1 (h.2.2 m h'.1.1 q)
theorem isL_mul {f : Int → Int} {s : Int} {n : Nat} (h : itn f n s = s) : ∀ q, itn f (n * q) s = s
  | 0 => rfl
  | q + 1 => by rw [Nat.mul_succ, itn_add, isL_mul h q, h]
theorem isL_mod {f : Int → Int} {s : Int} {n : Nat} (h : itn f n s = s) (i : Nat) : itn f i s = itn f (i % n) s := by
  have e := Nat.div_add_mod i n
  have := itn_add f (n * (i / n)) (i % n) s
  rw [e, isL_mul h] at this
  exact this
theorem isL_back {f : Int → Int} {s : Int} {n : Nat} (h : isL f s n) (i : Nat) : ∃ j, itn f j (itn f i s) = s := by
  refine ⟨n - i % n, ?_⟩
  have hlt := Nat.mod_lt i (show 0 < n by have := h.1.1; omega)
  rw [isL_mod h.2.1 i, ← itn_add, show i % n + (n - i % n) = n by omega]
  exact h.2.1
theorem isL_mv {f : Int → Int} {s : Int} {n : Nat} (h : isL f s n) (i : Nat) : isL f (itn f i s) n := by
  refine ⟨h.1, ?_, fun m m1 m2 q => ?_⟩
  · rw [← itn_add, Nat.add_comm, itn_add, h.2.1]
  · obtain ⟨j, hj⟩ := isL_back h i
    refine h.2.2 m m1 m2 ?_
    have : itn f m (itn f j (itn f i s)) = itn f j (itn f i s) := by
      rw [← itn_add, Nat.add_comm, itn_add, q]
    rw [hj] at this
    exact this
theorem isL_ex {f : Int → Int} {s : Int} : ∀ p : Nat, 1 ≤ p → p ≤ 1024 → itn f p s = s → ∃ n, isL f s n := by
  intro p
  induction p using Nat.strongRecOn with
  | ind p ih =>
    intro p1 p2 h
    by_cases q : ∃ m, 1 ≤ m ∧ m < p ∧ itn f m s = s
    · obtain ⟨m, m1, m2, m3⟩ := q
      exact ih m m2 m1 (by omega) m3
    · exact ⟨p, ⟨p1, p2⟩, h, fun m m1 m2 m3 => q ⟨m, m1, m2, m3⟩⟩
/-- a map of spots: lost, or a spot -/
def mpS (f : Int → Int) : Prop := f (-7) = -7 ∧ ∀ s, f s = -7 ∨ spt (f s)
theorem nxt_mp (g : Int → Int) : mpS (nxt g) := ⟨nxt_lost g, fun _ => nxt_spt⟩
theorem itn_spt {f : Int → Int} (hf : mpS f) {s : Int} (hs : s = -7 ∨ spt s) : ∀ n, itn f n s = -7 ∨ spt (itn f n s)
  | 0 => hs
  | n + 1 => by rw [itn_suc]; exact hf.2 _
theorem isL_spt {f : Int → Int} (hf : mpS f) {s : Int} {n : Nat} (hs : spt s) (h : isL f s n) (i : Nat) : spt (itn f i s) := by
  rcases itn_spt hf (Or.inr hs) i with q | q
  · obtain ⟨j, hj⟩ := isL_back h i
    rw [q, itn_lost hf.1] at hj
    have := hs.1
    omega
  · exact q
/-- the length of a spot's cycle, 0: none -/
def lng (f : Int → Int) (s : Int) : Nat → Int → Int → Int
  | 0, _, _ => 0
  | m + 1, a, n => if a = s then n else if a < 0 then 0 else lng f s m (f a) (n + 1)
theorem lng_ok {f : Int → Int} (hf : mpS f) {s : Int} (hs : spt s) : ∀ (m n : Nat), n + m = 1025 → 1 ≤ n → (∀ l, 1 ≤ l → l < n → itn f l s ≠ s) →
    (∃ k, isL f s k ∧ lng f s m (itn f n s) n = k) ∨ (lng f s m (itn f n s) n = 0 ∧ ∀ k, ¬ isL f s k)
  | 0, n, h, _, hl => Or.inr ⟨rfl, fun k hk => hl k hk.1.1 (by have := hk.1.2; omega) hk.2.1⟩
  | m + 1, n, h, h1, hl => by
    unfold lng
    by_cases c : itn f n s = s
    · rw [if_pos c]
      exact Or.inl ⟨n, ⟨⟨h1, by omega⟩, c, hl⟩, rfl⟩
    · rw [if_neg c]
      by_cases c2 : itn f n s < 0
      · rw [if_pos c2]
        have e : itn f n s = -7 := (itn_spt hf (Or.inr hs) n).resolve_right (fun q => by have := q.1; omega)
        refine Or.inr ⟨rfl, fun k hk => ?_⟩
        rcases Nat.lt_or_ge k n with q | q
        · exact hl k hk.1.1 q hk.2.1
        · have e2 := itn_add f n (k - n) s
          rw [e, itn_lost hf.1, show n + (k - n) = k by omega, hk.2.1] at e2
          have := hs.1
          omega
      · rw [if_neg c2]
        have := lng_ok hf hs m (n + 1) (by omega) (by omega) (fun l l1 l2 => by
          by_cases q : l = n
          · rw [q]; exact c
          · exact hl l l1 (by omega))
        rw [itn_suc] at this
        exact this
theorem lng_spec {f : Int → Int} (hf : mpS f) {s : Int} (hs : spt s) : (∃ k, isL f s k ∧ lng f s 1024 (f s) 1 = k) ∨ (lng f s 1024 (f s) 1 = 0 ∧ ∀ k, ¬ isL f s k) :=
  lng_ok hf hs 1024 1 (by omega) (by omega) (fun l l1 l2 => by omega)
/-! what the class's walks leave -/
def lv (f N Z m : Int → Int) (st : Int) : Prop :=
  (∀ t, spt t → m t = -1 ∨ (0 ≤ m t ∧ m t < st)) ∧
  (∀ t, spt t → m t ≠ -1 → f t = -7 ∨ m (f t) ≠ -1) ∧
  (∀ t, spt t → t < st → m t ≠ -1) ∧
  (∀ t, spt t → (N t = -1 ∧ (m t ≠ -1 → ∀ n, ¬ isL f t n)) ∨ (m t ≠ -1 ∧ ∃ n i, spt (N t) ∧ isL f (N t) n ∧ itn f i (N t) = t ∧ Z (N t) = (n : Int))) ∧
  (∀ t, spt t → N t ≠ -1 → ∀ i, N (itn f i (N t)) = N t) ∧
  (∀ t, spt t → m t = -1 → Z t = 0)
def unm (m : Int → Int) (t : Nat) : Int := if m (t : Int) = -1 then 1 else 0
theorem unm_bd (m : Int → Int) (t : Nat) : 0 ≤ unm m t ∧ unm m t ≤ 1 := by unfold unm; split <;> omega
def wk (f m0 m : Int → Int) (st : Int) (j : Nat) : Prop :=
  (∀ i, i < j → spt (itn f i st) ∧ m0 (itn f i st) = -1 ∧ m (itn f i st) = st) ∧
  (∀ t, spt t → (∀ i, i < j → itn f i st ≠ t) → m t = m0 t) ∧
  sm (unm m) 1024 + j ≤ 1024
theorem wk_0 (f m : Int → Int) (st : Int) : wk f m m st 0 :=
  ⟨fun i hi => absurd hi (Nat.not_lt_zero i), fun _ _ _ => rfl, by have := sm_bd (f := unm m) (unm_bd m) 1024; omega⟩
theorem wk_le {f m0 m : Int → Int} {st : Int} {j : Nat} (h : wk f m0 m st j) : j ≤ 1024 := by
  have := sm_bd (f := unm m) (unm_bd m) 1024
  have := h.2.2
  omega
theorem wk_full {f m0 m : Int → Int} {st : Int} (h : wk f m0 m st 1024) {t : Int} (ht : spt t) : m t ≠ -1 := by
  intro q
  have e := sm_upd (f := fun i => if i = t.toNat then 0 else unm m i) (f' := unm m) (s := t.toNat) (fun i hi => by rw [if_neg hi]) (by
    rw [if_pos rfl]; unfold unm; rw [show ((t.toNat : Nat) : Int) = t by have := ht.1; omega, if_pos q]; rfl) 1024
  rw [if_pos (by have := ht.2; omega)] at e
  have b := sm_bd (f := fun i => if i = t.toNat then 0 else unm m i) (fun i => by
    split
    · omega
    · exact unm_bd m i) 1024
  have := h.2.2
  omega
theorem wk_step {f m0 m : Int → Int} {st : Int} {j : Nat} (hst : 0 ≤ st) (h : wk f m0 m st j) (hc : spt (itn f j st)) (hm : m (itn f j st) = -1) : wk f m0 (fun t => if t = itn f j st then st else m t) st (j + 1) := by
  have hn : ∀ i, i < j → itn f i st ≠ itn f j st := fun i hi e => by
    have := (h.1 i hi).2.2
    rw [e, hm] at this
    omega
  refine ⟨fun i hi => ?_, fun t ht hq => ?_, ?_⟩
  · by_cases e : i = j
    · subst e
      refine ⟨hc, ?_, if_pos rfl⟩
      rw [← h.2.1 _ hc hn]; exact hm
    · have := h.1 i (by omega)
      refine ⟨this.1, this.2.1, ?_⟩
      show (if _ then _ else _) = _
      rw [if_neg (hn i (by omega))]; exact this.2.2
  · show (if _ then _ else _) = _
    rw [if_neg (fun e => hq j (by omega) e.symm)]
    exact h.2.1 t ht (fun i hi => hq i (by omega))
  · have e := sm_upd (f := unm (fun t => if t = itn f j st then st else m t)) (f' := unm m) (s := (itn f j st).toNat) (fun i hi => by
      unfold unm
      simp only [show ¬ (i : Int) = itn f j st by have := hc.1; omega, if_false]) (by
      unfold unm
      have e1 : ¬ st = -1 := by omega
      simp only [show (((itn f j st).toNat : Nat) : Int) = itn f j st by have := hc.1; omega, hm, e1, if_true, if_false]
      rfl) 1024
    rw [if_pos (by have := hc.2; omega)] at e
    have := h.2.2
    omega
theorem lv_orb {f N Z m : Int → Int} {st : Int} (hf : mpS f) (h : lv f N Z m st) {c : Int} (hc : spt c) (hm : m c ≠ -1) : ∀ b, itn f b c = -7 ∨ m (itn f b c) ≠ -1
  | 0 => Or.inr hm
  | b + 1 => by
    rw [itn_suc]
    rcases itn_spt hf (Or.inr hc) b with q | q
    · rw [q]; exact Or.inl hf.1
    · rcases lv_orb hf h hc hm b with r | r
      · rw [r]; exact Or.inl hf.1
      · exact h.2.1 _ q r
theorem wk_in {f m0 m : Int → Int} {st : Int} {j : Nat} (hw : wk f m0 m st j) {t : Int} (ht : spt t) : (∃ i, i < j ∧ itn f i st = t) ∨ m t = m0 t := by
  by_cases q : ∃ i, i < j ∧ itn f i st = t
  · exact Or.inl q
  · exact Or.inr (hw.2.1 t ht (fun i hi e => q ⟨i, hi, e⟩))
theorem lv_12 {f N Z m0 m : Int → Int} {st : Int} {j : Nat} (hf : mpS f) (hst : spt st) (h : lv f N Z m0 st) (hw : wk f m0 m st j) (hc : itn f j st = -7 ∨ m (itn f j st) ≠ -1) :
    (∀ t, spt t → m t = -1 ∨ (0 ≤ m t ∧ m t < st + 1)) ∧ (∀ t, spt t → m t ≠ -1 → f t = -7 ∨ m (f t) ≠ -1) ∧ (∀ t, spt t → t < st + 1 → m t ≠ -1) := by
  have h0 := hst.1
  refine ⟨fun t ht => ?_, fun t ht hm => ?_, fun t ht hlt => ?_⟩
  · rcases wk_in hw ht with ⟨i, hi, e⟩ | e
    · have := (hw.1 i hi).2.2
      rw [e] at this
      omega
    · have := h.1 t ht
      omega
  · rcases wk_in hw ht with ⟨i, hi, e⟩ | e
    · have es : f t = itn f (i + 1) st := by rw [itn_suc, e]
      by_cases q : i + 1 = j
      · rw [es, q]; exact hc
      · have := (hw.1 (i + 1) (by omega)).2.2
        rw [es]; exact Or.inr (by omega)
    · rcases h.2.1 t ht (by rw [← e]; exact hm) with q | q
      · exact Or.inl q
      · rcases hf.2 t with r | r
        · exact Or.inl r
        · refine Or.inr ?_
          rcases wk_in hw r with ⟨i, hi, e2⟩ | e2
          · have := (hw.1 i hi).2.2
            rw [e2] at this
            omega
          · rw [e2]; exact q
  · rcases wk_in hw ht with ⟨i, hi, e⟩ | e
    · have := (hw.1 i hi).2.2
      rw [e] at this
      omega
    · by_cases q : t = st
      · subst q
        cases j with
        | zero => exact hc.resolve_left (fun r => by have : t = -7 := r; omega)
        | succ j =>
          have := (hw.1 0 (by omega)).2.2
          have e0 : itn f 0 t = t := rfl
          rw [e0] at this
          omega
      · rw [e]; exact h.2.2.1 t ht (by omega)
theorem lv_A {f N Z m0 m : Int → Int} {st : Int} {j : Nat} (hf : mpS f) (hst : spt st) (h : lv f N Z m0 st) (hw : wk f m0 m st j) (hc : itn f j st = -7 ∨ (m (itn f j st) ≠ -1 ∧ m (itn f j st) ≠ st)) : lv f N Z m (st + 1) := by
  have h0 := hst.1
  have p := lv_12 hf hst h hw (hc.elim Or.inl (fun q => Or.inr q.1))
  refine ⟨p.1, p.2.1, p.2.2, fun t ht => ?_, h.2.2.2.2.1, fun t ht hm => ?_⟩
  · rcases h.2.2.2.1 t ht with ⟨a, b⟩ | ⟨a, b⟩
    · refine Or.inl ⟨a, fun hm n hn => ?_⟩
      rcases wk_in hw ht with ⟨i, hi, e⟩ | e
      · have e0 := (hw.1 i hi).2.1
        rw [e] at e0
        have ec : itn f (j - i) t = itn f j st := by rw [← e, ← itn_add, show i + (j - i) = j by omega]
        obtain ⟨b2, hb2⟩ := isL_back hn (j - i)
        rw [ec] at hb2
        have hcs := isL_spt hf ht hn (j - i)
        rw [ec] at hcs
        have c7 : itn f j st ≠ -7 := by have := hcs.1; omega
        have c2 := hc.resolve_left c7
        have m0c : m0 (itn f j st) ≠ -1 := by
          rcases wk_in hw hcs with ⟨i2, hi2, e2⟩ | e2
          · have := (hw.1 i2 hi2).2.2
            rw [e2] at this
            exact absurd this c2.2
          · rw [← e2]; exact c2.1
        rcases lv_orb hf h hcs m0c b2 with r | r
        · rw [hb2] at r; have := ht.1; omega
        · rw [hb2] at r; exact r e0
      · exact b (by rw [← e]; exact hm) n hn
    · refine Or.inr ⟨?_, b⟩
      rcases wk_in hw ht with ⟨i, hi, e⟩ | e
      · have := (hw.1 i hi).2.1
        rw [e] at this
        exact absurd this a
      · rw [e]; exact a
  · rcases wk_in hw ht with ⟨i, hi, e⟩ | e
    · have := (hw.1 i hi).2.2
      rw [e] at this
      omega
    · exact h.2.2.2.2.2 t ht (by rw [← e]; exact hm)
theorem lv_B {f N Z m0 m : Int → Int} {st : Int} {j : Nat} (hf : mpS f) (hst : spt st) (h : lv f N Z m0 st) (hw : wk f m0 m st j) (hcs : spt (itn f j st)) (hc : m (itn f j st) = st) :
    ∃ n, isL f (itn f j st) n ∧ (∀ l, N (itn f l (itn f j st)) = -1) ∧ Z (itn f j st) = 0 ∧ ∀ N' Z' : Int → Int, (∀ l, l < n → N' (itn f l (itn f j st)) = itn f j st) → (∀ t, (∀ l, l < n → itn f l (itn f j st) ≠ t) → N' t = N t) → Z' (itn f j st) = (n : Int) → (∀ t, t ≠ itn f j st → Z' t = Z t) → lv f N' Z' m (st + 1) := by
  have h0 := hst.1
  have hj := wk_le hw
  have p := lv_12 hf hst h hw (Or.inr (by omega))
  obtain ⟨i0, hi0, e0⟩ : ∃ i, i < j ∧ itn f i st = itn f j st := by
    rcases wk_in hw hcs with q | q
    · exact q
    · have := h.1 _ hcs
      omega
  have ep : itn f (j - i0) (itn f j st) = itn f j st := by
    have := itn_add f i0 (j - i0) st
    rw [show i0 + (j - i0) = j by omega, e0] at this
    exact this.symm
  obtain ⟨n, hn⟩ := isL_ex (j - i0) (by omega) (by omega) ep
  have m0c : m0 (itn f j st) = -1 := by have := (hw.1 i0 hi0).2.1; rw [e0] at this; exact this
  have m0o : ∀ l, m0 (itn f l (itn f j st)) = -1 := fun l => by
    by_cases q : m0 (itn f l (itn f j st)) = -1
    · exact q
    · obtain ⟨b, hb⟩ := isL_back hn l
      rcases lv_orb hf h (isL_spt hf hcs hn l) q b with r | r
      · rw [hb] at r; have := hcs.1; omega
      · rw [hb] at r; exact absurd m0c r
  have No : ∀ l, N (itn f l (itn f j st)) = -1 := fun l => by
    rcases h.2.2.2.1 _ (isL_spt hf hcs hn l) with ⟨a, _⟩ | ⟨a, _⟩
    · exact a
    · exact absurd (m0o l) a
  refine ⟨n, hn, No, h.2.2.2.2.2 _ hcs m0c, fun N' Z' n1 n2 z1 z2 => ?_⟩
  generalize hcur : itn f j st = c at *
  have hn1 := hn.1.1
  have cyc : ∀ l, N' (itn f l c) = c := fun l => by
    rw [isL_mod hn.2.1 l]
    exact n1 _ (Nat.mod_lt l (by omega))
  have dec : ∀ t, (∃ l, itn f l c = t) ∨ N' t = N t := fun t => by
    by_cases q : ∃ l, l < n ∧ itn f l c = t
    · obtain ⟨l, _, e⟩ := q; exact Or.inl ⟨l, e⟩
    · exact Or.inr (n2 t (fun l hl e => q ⟨l, hl, e⟩))
  have morb : ∀ l, m (itn f l c) ≠ -1 := fun l => by
    have hl : ∀ b, itn f b c = -7 ∨ m (itn f b c) ≠ -1 := by
      intro b
      induction b with
      | zero => exact Or.inr (by show m c ≠ -1; omega)
      | succ b ih =>
        rw [itn_suc]
        rcases ih with r | r
        · rw [r]; exact Or.inl hf.1
        · exact p.2.1 _ (isL_spt hf hcs hn b) r
    rcases hl l with r | r
    · have := (isL_spt hf hcs hn l).1; omega
    · exact r
  refine ⟨p.1, p.2.1, p.2.2, fun t ht => ?_, fun t ht hN i => ?_, fun t ht hm => ?_⟩
  · rcases dec t with ⟨l, e⟩ | e
    · have hNt : N' t = c := by rw [← e]; exact cyc l
      exact Or.inr ⟨by rw [← e]; exact morb l, n, l, by rw [hNt]; exact hcs, by rw [hNt]; exact hn, by rw [hNt]; exact e, by rw [hNt]; exact z1⟩
    · rw [e]
      rcases h.2.2.2.1 t ht with ⟨a, b⟩ | ⟨a, n3, i3, b1, b2, b3, b4⟩
      · by_cases q : ∃ l, itn f l c = t
        · obtain ⟨l, el⟩ := q
          have := cyc l
          rw [el, e, a] at this
          have := hcs.1
          omega
        refine Or.inl ⟨a, fun hm n' hn' => ?_⟩
        rcases wk_in hw ht with ⟨i, hi, e3⟩ | e3
        · have ec : itn f (j - i) t = c := by rw [← e3, ← itn_add, show i + (j - i) = j by omega, hcur]
          obtain ⟨b5, hb5⟩ := isL_back hn' (j - i)
          rw [ec] at hb5
          exact q ⟨b5, hb5⟩
        · exact b (by rw [← e3]; exact hm) n' hn'
      · refine Or.inr ⟨?_, n3, i3, b1, b2, b3, ?_⟩
        · rcases wk_in hw ht with ⟨i, hi, e3⟩ | e3
          · have := (hw.1 i hi).2.1
            rw [e3] at this
            exact absurd this a
          · rw [e3]; exact a
        · rw [z2 (N t) (fun q => ?_)]; exact b4
          have h5 := h.2.2.2.2.1 t ht (by have := b1.1; omega) 0
          have h6 := No 0
          rw [show itn f 0 c = c from rfl] at h6
          rw [show itn f 0 (N t) = N t from rfl, q, h6] at h5
          have := hcs.1
          omega
  · rcases dec t with ⟨l, e⟩ | e
    · have hNt : N' t = c := by rw [← e]; exact cyc l
      rw [hNt]; exact cyc i
    · rw [e] at hN ⊢
      have h5 := h.2.2.2.2.1 t ht hN i
      rcases dec (itn f i (N t)) with ⟨l, e2⟩ | e2
      · have h6 := No l
        rw [e2, h5] at h6
        exact absurd h6 hN
      · rw [e2]; exact h5
  · have hne : t ≠ c := fun q => by rw [q, hc] at hm; omega
    rw [z2 t hne]
    rcases wk_in hw ht with ⟨i, hi, e⟩ | e
    · have := (hw.1 i hi).2.2
      rw [e] at this
      omega
    · exact h.2.2.2.2.2 t ht (by rw [← e]; exact hm)
/-- all cycles are named -/
def lok (f N Z : Int → Int) : Prop :=
  (∀ t, spt t → (N t = -1 ∧ ∀ n, ¬ isL f t n) ∨ (∃ n i, spt (N t) ∧ isL f (N t) n ∧ itn f i (N t) = t ∧ Z (N t) = (n : Int))) ∧
  (∀ t, spt t → N t ≠ -1 → ∀ i, N (itn f i (N t)) = N t)
theorem lv_lok {f N Z m : Int → Int} (h : lv f N Z m 1024) : lok f N Z :=
  ⟨fun t ht => (h.2.2.2.1 t ht).elim (fun q => Or.inl ⟨q.1, q.2 (h.2.2.1 t ht ht.2)⟩) (fun q => Or.inr q.2), h.2.2.2.2.1⟩
theorem lok_len {f N Z : Int → Int} (h : lok f N Z) {t : Int} (ht : spt t) (hN : N t ≠ -1) : ∃ n, isL f t n ∧ Z (N t) = (n : Int) ∧ spt (N t) := by
  rcases h.1 t ht with ⟨a, _⟩ | ⟨n, i, b1, b2, b3, b4⟩
  · exact absurd a hN
  · have := isL_mv b2 i
    rw [b3] at this
    exact ⟨n, this, b4, b1⟩
theorem lok_same {f N Z : Int → Int} (h : lok f N Z) {t u : Int} (ht : spt t) (hu : spt u) (hN : N t ≠ -1) : N u = N t ↔ (∃ n, isL f u n) ∧ ∃ i, itn f i u = t := by
  rcases h.1 t ht with ⟨a, _⟩ | ⟨n, i, b1, b2, b3, b4⟩
  · exact absurd a hN
  constructor
  · intro e
    rcases h.1 u hu with ⟨a, _⟩ | ⟨n', i', c1, c2, c3, c4⟩
    · exact absurd (e ▸ a) hN
    · have h1 := isL_mv c2 i'
      rw [c3] at h1
      refine ⟨⟨n', h1⟩, ?_⟩
      obtain ⟨j, hj⟩ := isL_back c2 i'
      rw [c3, e] at hj
      exact ⟨j + i, by rw [itn_add, hj, b3]⟩
  · rintro ⟨⟨n', hn'⟩, i', hi'⟩
    rcases h.1 u hu with ⟨_, a⟩ | ⟨n2, i2, c1, c2, c3, c4⟩
    · exact absurd hn' (a n')
    · have h5 := h.2 u hu (by have := c1.1; omega) (i2 + i')
      rw [itn_add, c3, hi'] at h5
      exact h5.symm
