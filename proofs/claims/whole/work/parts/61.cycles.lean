/-! how many cycles of a fibre have each length; the class -/
def sen (g : Int → Int) (k s t : Int) : Prop := ∃ u : Int, (0 ≤ u ∧ u < s) ∧ kq g u = k ∧ (∃ n, isL (nxt g) u n) ∧ ∃ i, itn (nxt g) i u = t
def nwc (g : Int → Int) (k s n : Int) : Prop := kq g s = k ∧ (∃ l : Nat, isL (nxt g) s l ∧ (l : Int) = n) ∧ ¬ sen g k s s
noncomputable def p01 (p : Prop) : Int := @ite Int p (Classical.propDecidable p) 1 0
theorem p01_t {p : Prop} (h : p) : p01 p = 1 := @if_pos p (Classical.propDecidable p) h Int 1 0
theorem p01_f {p : Prop} (h : ¬ p) : p01 p = 0 := @if_neg p (Classical.propDecidable p) h Int 1 0
theorem p01_bd (p : Prop) : 0 ≤ p01 p ∧ p01 p ≤ 1 := by
  by_cases h : p
  · rw [p01_t h]; omega
  · rw [p01_f h]; omega
noncomputable def tlc (g : Int → Int) (k : Int) : Nat → Int → Int
  | 0, _ => 0
  | s + 1, j => tlc g k s j + p01 (nwc g k (s : Int) j)
theorem tlc_bd (g : Int → Int) (k j : Int) : ∀ s, 0 ≤ tlc g k s j ∧ tlc g k s j ≤ s
  | 0 => by show (0 : Int) ≤ 0 ∧ (0 : Int) ≤ 0; omega
  | s + 1 => by
    have := tlc_bd g k j s
    have := p01_bd (nwc g k (s : Int) j)
    show 0 ≤ tlc g k s j + _ ∧ tlc g k s j + _ ≤ _
    omega
theorem tlc_no {g : Int → Int} {k j : Int} {s : Nat} (h : ∀ n, ¬ nwc g k (s : Int) n) : tlc g k (s + 1) j = tlc g k s j := by
  show _ + p01 _ = _
  rw [p01_f (h j)]; omega
theorem tlc_yes {g : Int → Int} {k j n : Int} {s : Nat} (h : nwc g k (s : Int) n) : tlc g k (s + 1) j = tlc g k s j + (if j = n then 1 else 0) := by
  show _ + p01 _ = _
  by_cases e : j = n
  · rw [e, p01_t h, if_pos rfl]
  · rw [if_neg e, p01_f (fun q => e ?_)]
    obtain ⟨_, ⟨l, hl, el⟩, _⟩ := h
    obtain ⟨_, ⟨l', hl', el'⟩, _⟩ := q
    have := isL_uniq hl hl'
    omega
def Cg (I I' : ax_H) : Prop := Mf [1, 5, 6, 13, 14] I I' ∧ ∀ k, k ≠ 3 → I' 1 k = I 1 k
theorem Cg.rf (I : ax_H) : Cg I I := ⟨Mf.rf _ _, fun _ _ => rfl⟩
theorem Cg.trans {I I' I'' : ax_H} (h : Cg I I') (h' : Cg I' I'') : Cg I I'' := ⟨h.1.trans h'.1, fun k hk => (h'.2 k hk).trans (h.2 k hk)⟩
theorem Cg.kept {I I' : ax_H} (h : Kf I I') : Cg I I' := ⟨fun b hb => by
  simp only [List.mem_cons, List.not_mem_nil, or_false, not_or] at hb
  exact h.1 b hb.1 hb.2.1 hb.2.2.1, h.2⟩
theorem Cg.q {I I' : ax_H} (h : Mf [13, 14] I I') : Cg I I' := ⟨h.mono (by intro a; simp only [List.mem_cons, List.not_mem_nil, or_false]; omega), fun k _ => by rw [h 1 (by decide)]⟩
theorem RInv.cg {g : Int → Int} {I I' : ax_H} (h : RInv g I) (e3 : I' 3 = I 3) (e4 : I' 4 = I 4) (e7 : I' 7 = I 7) (e11 : I' 1 1 = I 1 1) (e12 : I' 1 2 = I 1 2) : RInv g I' := by
  unfold RInv rowsOK aheadOK tabs at *
  rw [e3, e4, e7, e11, e12]
  exact h
theorem KInv.cg {g : Int → Int} {I I' : ax_H} (h : KInv g I) (e3 : I' 3 = I 3) (e5 : I' 5 = I 5) (e6 : I' 6 = I 6) (e11 : I' 1 1 = I 1 1) (e13 : I' 1 3 = I 1 3) : KInv g I' := by
  unfold KInv keptOK tabs at *
  rw [e3, e5, e6, e11, e13]
  exact h
theorem LInv.cg {g : Int → Int} {I I' : ax_H} (h : LInv g I) (e11 : I' 11 = I 11) (e12 : I' 12 = I 12) (e10 : I' 10 4 = I 10 4) (e1 : I' 1 1 = I 1 1) : LInv g I' := by
  unfold LInv at *
  rw [e11, e12, e10, e1]
  exact h
theorem c_tally {d : Nat} {I : ax_H} {Q : ax_H → Prop} {n : Int} (hn : 0 ≤ n ∧ n ≤ 1024) (hb : ax_R (I 14 n + 1)) (h : Q (ax_st I 14 n (I 14 n + 1))) : cV d kX5_tallyOne [ax_r 10, ax_i n] I Q :=
  vX5_tallyOne_0 ⟨by omega, by omega⟩ ⟨fun c => absurd c (by omega), fun _ => ⟨fun c => absurd c (by omega), fun _ => ⟨by omega, hb, h⟩⟩⟩
theorem c_cnt46 {d : Nat} {g : Int → Int} {k : Int} {Q : ax_H → Prop} (hk : ax_R k) {I0 : ax_H} (hQ : ∀ I', Cg I0 I' → KInv g I' → (∀ j, 0 ≤ j → j ≤ 1024 → I' 14 j = tlc g k 1024 j) → Q I') : ∀ (m s : Nat) (I : ax_H), s + m = 1024 → Cg I0 I → KInv g I → lok (nxt g) (I 11) (I 12) → (∀ x, spt x → (I 13 x ≠ 0 ↔ ∃ u : Int, (0 ≤ u ∧ u < s) ∧ kq g u = k ∧ I 11 u = x)) → (∀ j, 0 ≤ j → j ≤ 1024 → I 14 j = tlc g k s j) →
    RV (d + 4) kX5_countThrough 46 [some (ax_r 10), some (ax_r 1), some (ax_i k), some (ax_i (s : Int)), none] I Q := by
  intro m
  induction m with
  | zero =>
    intro s I hs hf hK hL hM hT
    obtain rfl : s = 1024 := by omega
    exact vX5_countThrough_46 (by decide) ⟨fun _ => hQ I hf hK hT, fun c => absurd (by decide) c⟩
  | succ m ih =>
    intro s I hs hf hK hL hM hT
    have hsp : spt (s : Int) := ⟨by omega, by omega⟩
    have nx : (s : Int) + 1 = ((s + 1 : Nat) : Int) := by omega
    -- the same marks, nothing new
    have same : ∀ I1, Cg I I1 → I1 13 = I 13 → I1 14 = I 14 → KInv g I1 → (∀ n, ¬ nwc g k (s : Int) n) → (∀ x, spt x → kq g (s : Int) = k → I 11 (s : Int) = x → I 13 x ≠ 0) → RV (d + 4) kX5_countThrough 46 [some (ax_r 10), some (ax_r 1), some (ax_i k), some (ax_i ((s : Int) + 1)), none] I1 Q := by
      intro I1 f1 e13 e14 K1 hno hm
      have e11 : I1 11 = I 11 := f1.1 11 (by decide)
      have e12 : I1 12 = I 12 := f1.1 12 (by decide)
      rw [nx]
      refine ih (s + 1) I1 (by omega) (hf.trans f1) K1 (by rw [e11, e12]; exact hL) (fun x hx => ?_) (fun j j0 j1 => by rw [e14, tlc_no hno]; exact hT j j0 j1)
      rw [e13, e11]
      constructor
      · intro q
        obtain ⟨u, u1, u2, u3⟩ := (hM x hx).1 q
        exact ⟨u, ⟨u1.1, by omega⟩, u2, u3⟩
      · rintro ⟨u, u1, u2, u3⟩
        by_cases e : u = s
        · subst e; exact hm x hx u2 u3
        · exact (hM x hx).2 ⟨u, ⟨u1.1, by omega⟩, u2, u3⟩
    refine vX5_countThrough_46 ⟨by omega, by omega⟩ ⟨fun c => absurd c (by omega), fun _ => ⟨by omega, fun c => ?_, fun c => ?_⟩⟩
    · refine same I (Cg.rf I) rfl rfl hK (fun n hn => ?_) (fun x hx _ e => absurd (e ▸ c) (by have := hx.1; omega))
      obtain ⟨_, ⟨l, hl, _⟩, _⟩ := hn
      rcases hL.1 _ hsp with ⟨_, a⟩ | ⟨n', i', b1, _⟩
      · exact a l hl
      · have := b1.1; omega
    · have hN : I 11 (s : Int) ≠ -1 := by omega
      obtain ⟨n, hn, hz, hx⟩ := lok_len hL hsp hN
      refine ⟨fun c2 => absurd c2 (by have := hx.2; omega), fun _ => ⟨hx, fun c3 => ?_, fun c3 => ?_⟩⟩
      · refine same I (Cg.rf I) rfl rfl hK (fun n' hn' => ?_) (fun x hx2 _ e => by rw [← e]; exact c3)
        obtain ⟨u, u1, u2, u3⟩ := (hM _ hx).1 c3
        have hu : spt u := ⟨u1.1, by omega⟩
        have := (lok_same hL hsp hu hN).1 u3
        exact hn'.2.2 ⟨u, u1, u2, this.1, this.2⟩
      · refine c_keeps hK hsp hk (fun I1 f1 r1 => ?_)
        have c1 := Cg.kept f1
        have w : ∀ b, 8 < b → I1 b = I b := fun b hb => f1.1 b (by omega) (by omega) (by omega)
        by_cases e : kq g (s : Int) = k
        · rw [if_pos e]
          refine b1 ?_
          have hnew : nwc g k (s : Int) (n : Int) := by
            refine ⟨e, ⟨n, hn, rfl⟩, ?_⟩
            rintro ⟨u, u1, u2, u3, u4⟩
            have hu : spt u := ⟨u1.1, by omega⟩
            have := (lok_same hL hsp hu hN).2 ⟨u3, u4⟩
            exact absurd c3 ((hM _ hx).2 ⟨u, u1, u2, this⟩)
          have e12 : (ax_st I1 13 (I 11 (s : Int)) 1) 12 (I 11 (s : Int)) = (n : Int) := by rw [st_cell (by decide), w 12 (by decide)]; exact hz
          rw [e12]
          have n1 := hn.1
          have e14 : (ax_st I1 13 (I 11 (s : Int)) 1) 14 (n : Int) = tlc g k s n := by rw [st_cell (by decide), w 14 (by decide)]; exact hT n (by omega) (by omega)
          have tb := tlc_bd g k n s
          refine c_tally ⟨by omega, by omega⟩ (by rw [e14]; exact ⟨by omega, by omega⟩) ?_
          rw [e14, nx]
          have q2 : Mf [13, 14] I1 (ax_st (ax_st I1 13 (I 11 (s : Int)) 1) 14 (n : Int) (tlc g k s n + 1)) := (Mf.st (by decide)).trans (Mf.st (by decide))
          have v : ∀ b, b ≠ 13 → b ≠ 14 → (ax_st (ax_st I1 13 (I 11 (s : Int)) 1) 14 (n : Int) (tlc g k s n + 1)) b = I1 b := fun b b1 b2 => by rw [st_cell b2, st_cell b1]
          refine ih (s + 1) _ (by omega) ((hf.trans c1).trans (Cg.q q2)) (r1.inv.cg (v 3 (by decide) (by decide)) (v 5 (by decide) (by decide)) (v 6 (by decide) (by decide)) (by rw [v 1 (by decide) (by decide)]) (by rw [v 1 (by decide) (by decide)])) (by rw [v 11 (by decide) (by decide), v 12 (by decide) (by decide), w 11 (by decide), w 12 (by decide)]; exact hL) (fun x hx2 => ?_) (fun j j0 j1 => ?_)
          · rw [v 11 (by decide) (by decide), w 11 (by decide), st_cell (by decide), st_at, w 13 (by decide)]
            by_cases ex : x = I 11 (s : Int)
            · rw [if_pos ex]
              exact ⟨fun _ => ⟨s, ⟨by omega, by omega⟩, e, ex.symm⟩, fun _ => by decide⟩
            · rw [if_neg ex, hM x hx2]
              constructor
              · rintro ⟨u, u1, u2, u3⟩
                exact ⟨u, ⟨u1.1, by omega⟩, u2, u3⟩
              · rintro ⟨u, u1, u2, u3⟩
                by_cases eu : u = s
                · subst eu; exact absurd u3.symm ex
                · exact ⟨u, ⟨u1.1, by omega⟩, u2, u3⟩
          · rw [tlc_yes hnew, st_at]
            by_cases ej : j = (n : Int)
            · rw [if_pos ej, if_pos ej, ej]
            · rw [if_neg ej, if_neg ej, st_cell (by decide), w 14 (by decide), hT j j0 j1]; omega
        · rw [if_neg e]
          exact b0 (same I1 c1 (w 13 (by decide)) (w 14 (by decide)) r1.inv (fun n' hn' => e hn'.1) (fun _ _ q => absurd q e))
theorem c_cnt24 {d : Nat} {k : Int} {Q : ax_H → Prop} : ∀ (n : Nat) (j : Int) (I : ax_H), j = 1024 - n → n ≤ 1024 → (∀ s, 0 ≤ s → s < j → I 13 s = 0) →
    (∀ I', Mf [13] I I' → (∀ s, spt s → I' 13 s = 0) → RV (d + 4) kX5_countThrough 46 [some (ax_r 10), some (ax_r 1), some (ax_i k), some (ax_i 0), none] I' Q) →
    RV (d + 4) kX5_countThrough 24 [some (ax_r 10), some (ax_r 1), some (ax_i k), some (ax_i j), none] I Q := by
  intro n
  induction n with
  | zero =>
    intro j I hj _ hA hQ
    exact vX5_countThrough_24 ⟨by omega, by omega⟩ ⟨fun _ => hQ I (Mf.rf _ I) (fun s hs => hA s hs.1 (by have := hs.2; omega)), fun c => absurd (by omega) c⟩
  | succ n ih =>
    intro j I hj hn hA hQ
    refine vX5_countThrough_24 ⟨by omega, by omega⟩ ⟨fun c => absurd c (by omega), fun _ => ⟨by omega, ?_⟩⟩
    refine ih (j + 1) _ (by omega) (by omega) (fun s h1 h2 => ?_) (fun I' hf hs => hQ I' ((Mf.st (by decide)).trans hf) hs)
    rw [st_at]
    split
    · rfl
    · exact hA s h1 (by omega)
theorem c_cnt2 {d : Nat} {k : Int} {Q : ax_H → Prop} : ∀ (n : Nat) (j : Int) (I : ax_H), j = 1025 - n → n ≤ 1025 → (∀ s, 0 ≤ s → s < j → I 14 s = 0) →
    (∀ I', Mf [14] I I' → (∀ s, 0 ≤ s → s ≤ 1024 → I' 14 s = 0) → RV (d + 4) kX5_countThrough 24 [some (ax_r 10), some (ax_r 1), some (ax_i k), some (ax_i 0), none] I' Q) →
    RV (d + 4) kX5_countThrough 2 [some (ax_r 10), some (ax_r 1), some (ax_i k), some (ax_i j), none] I Q := by
  intro n
  induction n with
  | zero =>
    intro j I hj _ hA hQ
    exact vX5_countThrough_2 ⟨by omega, by omega⟩ ⟨fun _ => hQ I (Mf.rf _ I) (fun s h1 h2 => hA s h1 (by omega)), fun c => absurd (by omega) c⟩
  | succ n ih =>
    intro j I hj hn hA hQ
    refine vX5_countThrough_2 ⟨by omega, by omega⟩ ⟨fun c => absurd c (by omega), fun _ => ⟨by omega, ?_⟩⟩
    refine ih (j + 1) _ (by omega) (by omega) (fun s h1 h2 => ?_) (fun I' hf hs => hQ I' ((Mf.st (by decide)).trans hf) hs)
    rw [st_at]
    split
    · rfl
    · exact hA s h1 (by omega)
theorem c_count {d : Nat} {g : Int → Int} {k : Int} {I : ax_H} {Q : ax_H → Prop} (hk : ax_R k) (hK : KInv g I) (hL : lok (nxt g) (I 11) (I 12)) (hQ : ∀ I', Cg I I' → KInv g I' → (∀ j, 0 ≤ j → j ≤ 1024 → I' 14 j = tlc g k 1024 j) → Q I') : cV (d + 4) kX5_countThrough [ax_r 10, ax_r 1, ax_i k] I Q := by
  refine vX5_countThrough_0 ?_
  refine c_cnt2 1025 0 I (by omega) (by omega) (fun s h1 h2 => absurd h2 (by omega)) (fun I1 f1 k1 => ?_)
  refine c_cnt24 1024 0 I1 (by omega) (by omega) (fun s h1 h2 => absurd h2 (by omega)) (fun I2 f2 k2 => ?_)
  have w : ∀ b, b ≠ 13 → b ≠ 14 → I2 b = I b := fun b b1 b2 => by rw [f2 b (by simp [b1]), f1 b (by simp [b2])]
  refine c_cnt46 (I0 := I) hk hQ 1024 0 I2 (by omega) (Cg.q ((f1.mono (by decide)).trans (f2.mono (by decide)))) (hK.cg (w 3 (by decide) (by decide)) (w 5 (by decide) (by decide)) (w 6 (by decide) (by decide)) (by rw [w 1 (by decide) (by decide)]) (by rw [w 1 (by decide) (by decide)])) (by rw [w 11 (by decide) (by decide), w 12 (by decide) (by decide)]; exact hL) (fun x hx => ?_) (fun j j0 j1 => by rw [f2 14 (by decide), k1 j j0 j1]; rfl)
  rw [k2 x hx]
  exact ⟨fun c => absurd rfl c, fun ⟨u, u1, _⟩ => absurd u1.2 (by have := u1.1; omega)⟩
/-! the answers out of the tally -/
def cyF (T : Int → Int) (w : Int) : Nat → Int
  | 0 => 0
  | n + 1 => cyF T w n + (if 0 < T ((n : Int) + 1) then (if w = 0 then T ((n : Int) + 1) else if w = 1 then ((n : Int) + 1) * T ((n : Int) + 1) else 1) else 0)
def cyT (T : Int → Int) (w b : Int) : Nat → Int
  | 0 => -5
  | n + 1 => if 0 < T ((n : Int) + 1) ∧ cyF T 2 n = w then (if b = 1 then (n : Int) + 1 else T ((n : Int) + 1)) else cyT T w b n
theorem cyF_bd {T : Int → Int} (hT : ∀ j, 0 ≤ T j ∧ T j ≤ 1024) (w : Int) : ∀ n : Nat, n ≤ 1024 → 0 ≤ cyF T w n ∧ cyF T w n ≤ 1048576 * (n : Int)
  | 0, _ => by show (0 : Int) ≤ 0 ∧ (0 : Int) ≤ _; omega
  | n + 1, h => by
    have h1 := cyF_bd hT w n (by omega)
    have h2 := hT ((n : Int) + 1)
    have h3 := md_bd (show 0 ≤ (n : Int) + 1 by omega) (show (n : Int) + 1 ≤ 1024 by omega) h2.1 h2.2
    unfold cyF
    split
    · split
      · omega
      · split <;> omega
    · omega
theorem cyF_mono {T : Int → Int} (n : Nat) : ∀ m, cyF T 2 n ≤ cyF T 2 (n + m)
  | 0 => Int.le_refl _
  | m + 1 => by
    have h1 := cyF_mono (T := T) n m
    have e : cyF T 2 (n + (m + 1)) = cyF T 2 (n + m) + (if 0 < T (((n + m : Nat) : Int) + 1) then 1 else 0) := rfl
    rw [e]
    by_cases c : 0 < T (((n + m : Nat) : Int) + 1)
    · rw [if_pos c]; exact Int.le_trans h1 (Int.le_add_of_nonneg_right (by decide))
    · rw [if_neg c]; exact Int.le_trans h1 (Int.le_add_of_nonneg_right (by decide))
theorem cyT_stay {T : Int → Int} {w b : Int} {n : Nat} (h : w < cyF T 2 n) : ∀ m, cyT T w b (n + m) = cyT T w b n
  | 0 => rfl
  | m + 1 => by
    have h1 := cyF_mono (T := T) n m
    have e : cyT T w b (n + (m + 1)) = if 0 < T (((n + m : Nat) : Int) + 1) ∧ cyF T 2 (n + m) = w then (if b = 1 then ((n + m : Nat) : Int) + 1 else T (((n + m : Nat) : Int) + 1)) else cyT T w b (n + m) := rfl
    rw [e, if_neg (fun q => by have := q.2; omega)]
    exact cyT_stay h m
theorem cyT_bd {T : Int → Int} (hT : ∀ j, 0 ≤ T j ∧ T j ≤ 1024) (w b : Int) : ∀ n : Nat, n ≤ 1024 → -5 ≤ cyT T w b n ∧ cyT T w b n ≤ 1024
  | 0, _ => by show (-5 : Int) ≤ -5 ∧ (-5 : Int) ≤ 1024; omega
  | n + 1, h => by
    have h1 := cyT_bd hT w b n (by omega)
    have h2 := hT ((n : Int) + 1)
    unfold cyT
    split
    · split <;> omega
    · exact h1
theorem c_tot {d : Nat} {T : Int → Int} {I : ax_H} {Q : Int → ax_H → Prop} {w : Int} (hw : 0 ≤ w ∧ w ≤ 2) (hT : ∀ j, 0 ≤ j → j ≤ 1024 → I 14 j = T j) (h : Q (cyF T w 1024) I) : ∀ (m n : Nat), n + m = 1024 →
    RI d kX5_total 4 [some (ax_r 10), some (ax_i w), some (ax_i (cyF T w n)), some (ax_i ((n : Int) + 1))] I Q := by
  intro m
  induction m with
  | zero =>
    intro n hn
    obtain rfl : n = 1024 := by omega
    exact vX5_total_4 ⟨by omega, by omega⟩ (by decide) ⟨fun _ => h, fun c => absurd (by decide) c⟩
  | succ m ih =>
    intro n hn
    have nx := ih (n + 1) (by omega)
    unfold cyF at nx
    have e := hT ((n : Int) + 1) (by omega) (by omega)
    rw [show ((n + 1 : Nat) : Int) + 1 = (n : Int) + 1 + 1 by omega] at nx
    refine vX5_total_4 ⟨by omega, by omega⟩ ⟨by omega, by omega⟩ ⟨fun c => absurd c (by omega), fun _ => ⟨by omega, fun c => ?_, fun c => ⟨fun c2 => ⟨fun c3 y hy => ?_, fun c3 y hy => ?_⟩, fun c2 y hy => ?_⟩⟩⟩
    · rw [e] at c
      rw [if_neg (by omega), Int.add_zero] at nx; exact nx
    · rw [e] at c
      rw [if_pos (by omega), if_neg c2, if_neg c3] at nx
      rw [hy]; exact nx
    · rw [e] at c
      rw [if_pos (by omega), if_neg c2, if_pos c3, Int.mul_comm] at nx
      rw [hy, e]; exact nx
    · rw [e] at c
      rw [if_pos (by omega), if_pos c2] at nx
      rw [hy, e]; exact nx
theorem c_ofl {d : Nat} {T : Int → Int} {I : ax_H} {Q : Int → ax_H → Prop} {w b : Int} (hw : ax_R w) (hb : 0 ≤ b ∧ b ≤ 1) (hTb : ∀ j, 0 ≤ T j ∧ T j ≤ 1024) (hT : ∀ j, 0 ≤ j → j ≤ 1024 → I 14 j = T j) (h : Q (cyT T w b 1024) I) : ∀ (m n : Nat), n + m = 1024 → cyT T w b n = -5 →
    RI d kX5_ofLength 34 [some (ax_r 10), none, some (ax_i b), some (ax_i w), some (ax_i (cyF T 2 n)), some (ax_i ((n : Int) + 1))] I Q := by
  intro m
  induction m with
  | zero =>
    intro n hn h5
    obtain rfl : n = 1024 := by omega
    have bd := cyF_bd hTb 2 1024 (by omega)
    rw [h5] at h
    exact vX5_ofLength_34 ⟨by omega, by omega⟩ hw ⟨by omega, by omega⟩ (by decide) ⟨fun _ => h, fun c => absurd (by decide) c⟩
  | succ m ih =>
    intro n hn h5
    have bd := cyF_bd hTb 2 n (by omega)
    have e := hT ((n : Int) + 1) (by omega) (by omega)
    have eF : cyF T 2 (n + 1) = cyF T 2 n + (if 0 < T ((n : Int) + 1) then 1 else 0) := rfl
    have eT : cyT T w b (n + 1) = if 0 < T ((n : Int) + 1) ∧ cyF T 2 n = w then (if b = 1 then (n : Int) + 1 else T ((n : Int) + 1)) else cyT T w b n := rfl
    have nx : cyT T w b (n + 1) = -5 → _ := ih (n + 1) (by omega)
    rw [show ((n + 1 : Nat) : Int) + 1 = (n : Int) + 1 + 1 by omega, eF] at nx
    refine vX5_ofLength_34 ⟨by omega, by omega⟩ hw ⟨by omega, by omega⟩ ⟨by omega, by omega⟩ ⟨fun c => absurd c (by omega), fun _ => ⟨by omega, fun c => ?_, fun c => ⟨fun c2 => ?_, fun c2 => ?_⟩⟩⟩
    · rw [e] at c
      rw [if_neg (by omega), Int.add_zero] at nx
      exact nx (by rw [eT, if_neg (by omega)]; exact h5)
    · rw [e] at c
      rw [if_pos (by omega)] at nx
      exact nx (by rw [eT, if_neg (fun q => c2 q.2)]; exact h5)
    · rw [e] at c
      have hs := cyT_stay (T := T) (w := w) (b := b) (n := n + 1) (by rw [eF, if_pos (by omega)]; omega) m
      rw [show n + 1 + m = 1024 by omega, eT, if_pos ⟨by omega, c2⟩] at hs
      rw [hs] at h
      refine ⟨fun c3 => ?_, fun c3 => ?_⟩
      · rw [if_neg (by omega)] at h
        rw [e]; exact h
      · rw [if_pos (by omega)] at h; exact h
noncomputable def r_cycles (g : Int → Int) (k w : Int) : Int := if co k ∧ ((0 ≤ w ∧ w ≤ 2) ∨ (10 ≤ w ∧ w < 90)) then (if w ≤ 2 then cyF (tlc g k 1024) w 1024 else cyT (tlc g k 1024) (if w < 50 then w - 10 else w - 50) (if w < 50 then 1 else 0) 1024) else -1
theorem r_cycles_R (g : Int → Int) (k w : Int) : ax_R (r_cycles g k w) := by
  have hT : ∀ j, 0 ≤ tlc g k 1024 j ∧ tlc g k 1024 j ≤ 1024 := fun j => tlc_bd g k j 1024
  unfold r_cycles
  split
  · split
    · have := cyF_bd hT w 1024 (by omega); exact ⟨by omega, by omega⟩
    · have := cyT_bd hT (if w < 50 then w - 10 else w - 50) (if w < 50 then 1 else 0) 1024 (by omega); exact ⟨by omega, by omega⟩
  · decide
def Ca (I I' : ax_H) : Prop := Mf [1, 4, 5, 6, 7, 10, 11, 12, 13, 14] I I' ∧ ∀ k, k ≠ 2 → k ≠ 3 → I' 1 k = I 1 k
theorem a_cycles {d : Nat} {g : Int → Int} {I : ax_H} {Q : Int → ax_H → Prop} {k w : Int} (hk : ax_R k) (hw : ax_R w) (hR : RInv g I) (hK : KInv g I) (hL : LInv g I) (hQ : ∀ I', Ca I I' → RInv g I' → KInv g I' → LInv g I' → Q (r_cycles g k w) I') : cI (d + 6) kX10_cycles [ax_r 0, ax_i k, ax_i w] I Q := by
  have h0 := hQ I ⟨Mf.rf _ _, fun _ _ _ => rfl⟩ hR hK hL
  have run : co k → ((0 ≤ w ∧ w ≤ 2) ∨ (10 ≤ w ∧ w < 90)) → cV (d + 5) kX5_learn [ax_r 10, ax_r 1] I (fun I19 =>
          cV (d + 5) kX5_countThrough [ax_r 10, ax_r 1, ax_i k] I19 (fun I20 =>
          (2 < w →
            cI (d + 5) kX5_ofLength [ax_r 10, ax_i w] I20 (fun w23 I22 =>
            Q w23 I22)) ∧
          (¬ 2 < w →
            cI (d + 5) kX5_total [ax_r 10, ax_i w] I20 (fun w25 I24 =>
            Q w25 I24)))) := by
    intro hc hw2
    refine c_learnL hR hL (fun I1 f1 r1 v1 l1 => ?_)
    have k1 : KInv g I1 := hK.cg (f1.1 3 (by decide)) (f1.1 5 (by decide)) (f1.1 6 (by decide)) (f1.2.1 1 (by decide)) (f1.2.1 3 (by decide))
    refine c_count hk k1 l1 (fun I2 f2 k2 t2 => ?_)
    have hTb : ∀ j, 0 ≤ tlc g k 1024 j ∧ tlc g k 1024 j ≤ 1024 := fun j => tlc_bd g k j 1024
    have r2 : RInv g I2 := r1.cg (f2.1 3 (by decide)) (f2.1 4 (by decide)) (f2.1 7 (by decide)) (f2.2 1 (by decide)) (f2.2 2 (by decide))
    have l2 : LInv g I2 := by
      refine ⟨fun _ => ?_, ?_⟩
      · rw [f2.1 11 (by decide), f2.1 12 (by decide)]; exact l1
      · rw [f2.1 10 (by decide), f2.2 1 (by decide), v1]; exact Int.le_refl _
    have fin := hQ I2 ⟨fun b hb => by
      simp only [List.mem_cons, List.not_mem_nil, or_false, not_or] at hb
      rw [f2.1 b (by simp [hb]), f1.1 b (by simp [hb])], fun j j2 j3 => by rw [f2.2 j j3, f1.2.1 j j2]⟩ r2 k2 l2
    unfold r_cycles at fin
    rw [if_pos ⟨hc, hw2⟩] at fin
    refine ⟨fun c => ?_, fun c => ?_⟩
    · rw [if_neg (by omega)] at fin
      refine vX5_ofLength_0 hw ⟨fun c2 y hy => ?_, fun c2 y hy => ?_⟩
      · rw [if_neg (by omega), if_neg (by omega)] at fin
        rw [hy]
        exact c_ofl (b := 0) ⟨by omega, by omega⟩ (by decide) hTb t2 fin 1024 0 (by omega) rfl
      · rw [if_pos (by omega), if_pos (by omega)] at fin
        rw [hy]
        exact c_ofl (b := 1) ⟨by omega, by omega⟩ (by decide) hTb t2 fin 1024 0 (by omega) rfl
    · rw [if_pos (by omega)] at fin
      exact vX5_total_0 (c_tot (by omega) t2 fin 1024 0 (by omega))
  have no : ¬ ((0 ≤ w ∧ w ≤ 2) ∨ (10 ≤ w ∧ w < 90)) → Q (-1) I := fun c => by
    unfold r_cycles at h0
    rw [if_neg (fun q => c q.2)] at h0; exact h0
  have no2 : ¬ co k → Q (-1) I := fun c => by
    unfold r_cycles at h0
    rw [if_neg (fun q => c q.1)] at h0; exact h0
  refine vX10_cycles_0 hw ⟨fun c => ⟨fun c2 => ?_, fun c2 => absurd c (by omega)⟩, fun c => ⟨fun c2 => ?_, fun c2 => ⟨fun c3 => ?_, fun c3 => ⟨fun c4 => ?_, fun c4 => ?_⟩⟩⟩⟩
  · exact c_isCoordinate hk (fun hc => b1 (no (by omega))) (fun hc => b0 (no2 hc))
  · exact c_isCoordinate hk (fun hc => b1 (run hc (by omega))) (fun hc => b0 (no2 hc))
  · exact c_isCoordinate hk (fun hc => b1 (no (by omega))) (fun hc => b0 (no2 hc))
  · exact c_isCoordinate hk (fun hc => b1 (no (by omega))) (fun hc => b0 (no2 hc))
  · exact c_isCoordinate hk (fun hc => b1 (run hc (by omega))) (fun hc => b0 (no2 hc))
