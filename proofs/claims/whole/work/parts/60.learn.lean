/-! the class learns its cycles -/
def Lg (I I' : ax_H) : Prop := Mf [1, 4, 7, 11, 12, 13] I I' ∧ ∀ k, k ≠ 2 → I' 1 k = I 1 k
theorem Lg.rf (I : ax_H) : Lg I I := ⟨Mf.rf _ _, fun _ _ => rfl⟩
theorem Lg.trans {I I' I'' : ax_H} (h : Lg I I') (h' : Lg I' I'') : Lg I I'' := ⟨h.1.trans h'.1, fun k hk => (h'.2 k hk).trans (h.2 k hk)⟩
theorem Lg.rows {I I' : ax_H} (h : Rf I I') : Lg I I' := ⟨fun b hb => by
  simp only [List.mem_cons, List.not_mem_nil, or_false, not_or] at hb
  exact h.1 b hb.1 hb.2.1 hb.2.2.1, h.2⟩
theorem Lg.q {I I' : ax_H} (h : Mf [11, 12, 13] I I') : Lg I I' := ⟨h.mono (by intro a; simp only [List.mem_cons, List.not_mem_nil, or_false]; omega), fun k _ => by rw [h 1 (by decide)]⟩
theorem RInv.mf {g : Int → Int} {I I' : ax_H} {l : List Nat} (h : RInv g I) (hf : Mf l I I') (h1 : 1 ∉ l) (h3 : 3 ∉ l) (h4 : 4 ∉ l) (h7 : 7 ∉ l) : RInv g I' := h.of (hf 1 h1) (hf 3 h3) (hf 4 h4) (hf 7 h7)
theorem c_go17 {d : Nat} {g : Int → Int} {Q : ax_H → Prop} {first : Int} {n : Nat} {I0 : ax_H} (hs : spt first) (hn : isL (nxt g) first n) (hN : ∀ l, I0 11 (itn (nxt g) l first) = -1)
    (hQ : ∀ I', Lg I0 I' → RInv g I' → I' 13 = I0 13 → (∀ l, l < n → I' 11 (itn (nxt g) l first) = first) → (∀ t, (∀ l, l < n → itn (nxt g) l first ≠ t) → I' 11 t = I0 11 t) → I' 12 first = (n : Int) → (∀ t, t ≠ first → I' 12 t = I0 12 t) → Q I') : ∀ (m i : Nat) (I : ax_H), i + m = n → Lg I0 I → RInv g I → I 13 = I0 13 → (∀ l, l < i → I 11 (itn (nxt g) l first) = first) → (∀ t, (∀ l, l < i → itn (nxt g) l first ≠ t) → I 11 t = I0 11 t) → I 12 first = (i : Int) → (∀ t, t ≠ first → I 12 t = I0 12 t) →
    RV (d + 4) kX5_goRound 17 [some (ax_r 10), some (ax_r 1), some (ax_i first), some (ax_i (itn (nxt g) i first)), some (ax_i (i : Int))] I Q := by
  have n1 := hn.1.1
  have n2 := hn.1.2
  have hs1 := hs.1
  intro m
  induction m with
  | zero =>
    intro i I hi hf hR h13 hA hB hC hD
    obtain rfl : i = n := by omega
    have fin := hQ I hf hR h13 hA hB hC hD
    have e0 := hA 0 (by omega)
    have e1 : itn (nxt g) 0 first = first := rfl
    rw [e1] at e0
    rw [hn.2.1]
    exact vX5_goRound_17 ⟨by omega, by have := hs.2; omega⟩ ⟨by omega, by have := hs.2; omega⟩ ⟨by omega, by omega⟩ ⟨fun _ => fin, fun _ => ⟨fun _ => fin, fun _ => ⟨fun _ => fin, fun _ => ⟨hs, fun _ => fin, fun c => absurd (e0.symm.trans c) (by omega)⟩⟩⟩⟩
  | succ m ih =>
    intro i I hi hf hR h13 hA hB hC hD
    have hcs := isL_spt (nxt_mp g) hs hn i
    have hne : ∀ l, l < i → itn (nxt g) l first ≠ itn (nxt g) i first := fun l hl e => by
      have h1 := isL_mv hn l
      have h2 := itn_add (nxt g) l (i - l) first
      rw [show l + (i - l) = i by omega, ← e] at h2
      exact h1.2.2 (i - l) (by omega) (by omega) h2.symm
    have e11 : I 11 (itn (nxt g) i first) = -1 := by rw [hB _ hne]; exact hN i
    have e12 : (ax_st I 11 (itn (nxt g) i first) first) 12 first = (i : Int) := by rw [st_cell (by decide), hC]
    refine vX5_goRound_17 ⟨by omega, by have := hs.2; omega⟩ (spt_R (Or.inr hcs)) ⟨by omega, by omega⟩ ⟨fun c => absurd c (by omega), fun _ => ⟨fun c => absurd c (by have := hcs.1; omega), fun _ => ⟨fun c => absurd c (by have := hcs.2; omega), fun _ => ⟨hcs, fun c => absurd e11 c, fun _ => ⟨hs, ?_⟩⟩⟩⟩⟩
    rw [e12]
    refine ⟨⟨by omega, by omega⟩, ?_⟩
    have q1 : Mf [11, 12, 13] I (ax_st (ax_st I 11 (itn (nxt g) i first) first) 12 first ((i : Int) + 1)) := (Mf.st (by decide)).trans (Mf.st (by decide))
    refine c_stepFrom (hR.mf q1 (by decide) (by decide) (by decide) (by decide)) (spt_R (Or.inr hcs)) (fun I1 f1 r1 => ?_)
    have w : ∀ b, 8 < b → I1 b = (ax_st (ax_st I 11 (itn (nxt g) i first) first) 12 first ((i : Int) + 1)) b := fun b hb => f1.1 b (by omega) (by omega) (by omega)
    rw [← itn_suc (nxt g) i first, show (i : Int) + 1 = ((i + 1 : Nat) : Int) by omega]
    refine ih (i + 1) I1 (by omega) ((hf.trans (Lg.q q1)).trans (Lg.rows f1)) r1 (by rw [w 13 (by decide), st_cell (by decide), st_cell (by decide), h13]) (fun l hl => ?_) (fun t ht => ?_) ?_ (fun t ht => ?_)
    · rw [w 11 (by decide), st_cell (by decide), st_at]
      split
      · rfl
      · rename_i c
        by_cases e : l = i
        · exact absurd (by rw [e]) c
        · exact hA l (by omega)
    · rw [w 11 (by decide), st_cell (by decide), st_ne (Or.inr (fun e => ht i (by omega) e.symm))]
      exact hB t (fun l hl => ht l (by omega))
    · rw [w 12 (by decide), st_same]; omega
    · rw [w 12 (by decide), st_ne (Or.inr ht), st_cell (by decide)]
      exact hD t ht
theorem c_goRound {d : Nat} {g : Int → Int} {Q : ax_H → Prop} {first : Int} {n : Nat} {I : ax_H} (hs : spt first) (hn : isL (nxt g) first n) (hN : ∀ l, I 11 (itn (nxt g) l first) = -1) (hZ : I 12 first = 0) (hR : RInv g I)
    (hQ : ∀ I', Lg I I' → RInv g I' → I' 13 = I 13 → (∀ l, l < n → I' 11 (itn (nxt g) l first) = first) → (∀ t, (∀ l, l < n → itn (nxt g) l first ≠ t) → I' 11 t = I 11 t) → I' 12 first = (n : Int) → (∀ t, t ≠ first → I' 12 t = I 12 t) → Q I') : cV (d + 4) kX5_goRound [ax_r 10, ax_r 1, ax_i first] I Q :=
  vX5_goRound_0 ⟨by have := hs.1; omega, by have := hs.2; omega⟩ ⟨fun c => absurd c (by have := hs.1; omega), fun _ => ⟨fun _ => c_go17 hs hn hN hQ n 0 I (by omega) (Lg.rf I) hR rfl (fun l hl => absurd hl (Nat.not_lt_zero l)) (fun _ _ => rfl) hZ (fun _ _ => rfl), fun c => absurd hs.2 c⟩⟩
theorem c_isUnm {d : Nat} {I : ax_H} {Q : Int → ax_H → Prop} {s : Int} (hs : s = -7 ∨ spt s) (h1 : spt s → I 13 s = -1 → Q 1 I) (h0 : (s = -7 ∨ I 13 s ≠ -1) → Q 0 I) : cI d kX5_isUnmarked [ax_r 10, ax_i s] I Q := by
  refine vX5_isUnmarked_0 (spt_R hs) ⟨fun c => h0 (Or.inl (hs.resolve_right (fun q => by have := q.1; omega))), fun c => ?_⟩
  have hsp : spt s := hs.resolve_left (fun q => by omega)
  exact ⟨fun c2 => absurd c2 (by have := hsp.2; omega), fun c2 => ⟨hsp, fun c3 => h0 (Or.inr c3), fun c3 => h1 hsp c3⟩⟩
theorem c_learn70 {d : Nat} {g : Int → Int} {Q : ax_H → Prop} {st : Int} {I0 : ax_H} (hst : spt st) (hv : lv (nxt g) (I0 11) (I0 12) (I0 13) st)
    (K : ∀ I', Lg I0 I' → RInv g I' → lv (nxt g) (I' 11) (I' 12) (I' 13) (st + 1) → RV (d + 5) kX5_learn 58 [some (ax_r 10), some (ax_r 1), some (ax_i (st + 1)), none, none] I' Q) : ∀ (m j : Nat) (I : ax_H), j + m = 1024 → Lg I0 I → RInv g I → I 11 = I0 11 → I 12 = I0 12 → wk (nxt g) (I0 13) (I 13) st j →
    RV (d + 5) kX5_learn 70 [some (ax_r 10), some (ax_r 1), some (ax_i st), some (ax_i (itn (nxt g) j st)), some (ax_i (j : Int))] I Q := by
  have hs1 := hst.1
  have hs2 := hst.2
  have fin : ∀ (j : Nat) (I : ax_H), Lg I0 I → RInv g I → I 11 = I0 11 → I 12 = I0 12 → wk (nxt g) (I0 13) (I 13) st j → (itn (nxt g) j st = -7 ∨ I 13 (itn (nxt g) j st) ≠ -1) →
      ((itn (nxt g) j st) < 0 → RV (d + 5) kX5_learn 58 [some (ax_r 10), some (ax_r 1), some (ax_i (st + 1)), none, none] I Q) ∧
      (¬ (itn (nxt g) j st) < 0 →
        (1024 ≤ (itn (nxt g) j st) → RV (d + 5) kX5_learn 58 [some (ax_r 10), some (ax_r 1), some (ax_i (st + 1)), none, none] I Q) ∧
        (¬ 1024 ≤ (itn (nxt g) j st) →
          (0 ≤ (itn (nxt g) j st) ∧ (itn (nxt g) j st) < 1024) ∧
          (((I 13 (itn (nxt g) j st)) ≠ st → RV (d + 5) kX5_learn 58 [some (ax_r 10), some (ax_r 1), some (ax_i (st + 1)), none, none] I Q) ∧
          ((I 13 (itn (nxt g) j st)) = st →
            ((I 11 (itn (nxt g) j st)) ≠ (-1) → RV (d + 5) kX5_learn 58 [some (ax_r 10), some (ax_r 1), some (ax_i (st + 1)), none, none] I Q) ∧
            ((I 11 (itn (nxt g) j st)) = (-1) →
              cV (d + 4) kX5_goRound [ax_r 10, ax_r 1, ax_i (itn (nxt g) j st)] I (fun I8 =>
              RV (d + 5) kX5_learn 58 [some (ax_r 10), some (ax_r 1), some (ax_i (st + 1)), none, none] I8 Q)))))) := by
    intro j I hf hR h11 h12 hw hc
    have hcs := itn_spt (nxt_mp g) (Or.inr hst) j
    have A : (itn (nxt g) j st = -7 ∨ (I 13 (itn (nxt g) j st) ≠ -1 ∧ I 13 (itn (nxt g) j st) ≠ st)) → RV (d + 5) kX5_learn 58 [some (ax_r 10), some (ax_r 1), some (ax_i (st + 1)), none, none] I Q := fun q =>
      K I hf hR (by rw [h11, h12]; exact lv_A (nxt_mp g) hst hv hw q)
    refine ⟨fun c => A (Or.inl (hcs.resolve_right (fun q => by have := q.1; omega))), fun c => ?_⟩
    have hsp : spt (itn (nxt g) j st) := hcs.resolve_left (fun q => by omega)
    have c7 : itn (nxt g) j st ≠ -7 := by omega
    have c2 := hc.resolve_left c7
    refine ⟨fun q => absurd q (by have := hsp.2; omega), fun _ => ⟨hsp, fun q => A (Or.inr ⟨c2, q⟩), fun q => ?_⟩⟩
    obtain ⟨n, hn, hN, hZ, hB⟩ := lv_B (nxt_mp g) hst hv hw hsp q
    refine ⟨fun r => absurd (by rw [h11]; exact hN 0) r, fun _ => ?_⟩
    refine c_goRound hsp hn (by rw [h11]; exact hN) (by rw [h12]; exact hZ) hR (fun I' f' r' e13 a b c' d' => K I' (hf.trans f') r' ?_)
    rw [e13]
    exact hB _ _ a (by rw [← h11]; exact b) c' (by rw [← h12]; exact d')
  intro m
  induction m with
  | zero =>
    intro j I hj hf hR h11 h12 hw
    obtain rfl : j = 1024 := by omega
    have hcs := itn_spt (nxt_mp g) (Or.inr hst) 1024
    refine vX5_learn_70 ⟨by omega, by omega⟩ (spt_R hcs) (by decide) ⟨fun _ => fin 1024 I hf hR h11 h12 hw ?_, fun c => absurd (by decide) c⟩
    exact hcs.elim Or.inl (fun q => Or.inr (wk_full hw q))
  | succ m ih =>
    intro j I hj hf hR h11 h12 hw
    have hcs := itn_spt (nxt_mp g) (Or.inr hst) j
    refine vX5_learn_70 ⟨by omega, by omega⟩ (spt_R hcs) ⟨by omega, by omega⟩ ⟨fun c => absurd c (by omega), fun _ => ?_⟩
    refine c_isUnm hcs (fun hsp hm => b1 ⟨hsp, ?_⟩) (fun hc => b0 (fin j I hf hR h11 h12 hw hc))
    have q1 : Mf [11, 12, 13] I (ax_st I 13 (itn (nxt g) j st) st) := Mf.st (by decide)
    refine c_stepFrom (hR.mf q1 (by decide) (by decide) (by decide) (by decide)) (spt_R (Or.inr hsp)) (fun I1 f1 r1 => ?_)
    have w : ∀ b, 8 < b → I1 b = (ax_st I 13 (itn (nxt g) j st) st) b := fun b hb => f1.1 b (by omega) (by omega) (by omega)
    rw [← itn_suc (nxt g) j st, show (j : Int) + 1 = ((j + 1 : Nat) : Int) by omega]
    refine ih (j + 1) I1 (by omega) ((hf.trans (Lg.q q1)).trans (Lg.rows f1)) r1 (by rw [w 11 (by decide), st_cell (by decide), h11]) (by rw [w 12 (by decide), st_cell (by decide), h12]) ?_
    have := wk_step hs1 hw hsp hm
    rw [show I1 13 = fun t => if t = itn (nxt g) j st then st else I 13 t by
      funext t; rw [w 13 (by decide), st_at]]
    exact this
theorem c_learn58 {d : Nat} {g : Int → Int} {Q : ax_H → Prop} {I0 : ax_H} (hQ : ∀ I', Lg I0 I' → RInv g I' → lok (nxt g) (I' 11) (I' 12) → Q I') : ∀ (m : Nat) (st : Int) (I : ax_H), st = 1024 - m → m ≤ 1024 → Lg I0 I → RInv g I → lv (nxt g) (I 11) (I 12) (I 13) st →
    RV (d + 5) kX5_learn 58 [some (ax_r 10), some (ax_r 1), some (ax_i st), none, none] I Q := by
  intro m
  induction m with
  | zero =>
    intro st I hs _ hf hR hv
    obtain rfl : st = 1024 := by omega
    exact vX5_learn_58 (by decide) ⟨fun _ => hQ I hf hR (lv_lok hv), fun c => absurd (by decide) c⟩
  | succ m ih =>
    intro st I hs hm hf hR hv
    refine vX5_learn_58 ⟨by omega, by omega⟩ ⟨fun c => absurd c (by omega), fun _ => ?_⟩
    exact c_learn70 (I0 := I) ⟨by omega, by omega⟩ hv (fun I' f' r' v' => ih (st + 1) I' (by omega) (by omega) (hf.trans f') r' v') 1024 0 I (by omega) (Lg.rf I) hR rfl rfl (wk_0 _ _ _)
theorem c_learnL22 {d : Nat} {Q : ax_H → Prop} : ∀ (n : Nat) (k : Int) (I : ax_H), k = 1024 - n → n ≤ 1024 → (∀ s, 0 ≤ s → s < k → I 11 s = -1 ∧ I 12 s = 0 ∧ I 13 s = -1) →
    (∀ I', Mf [11, 12, 13] I I' → (∀ s, spt s → I' 11 s = -1 ∧ I' 12 s = 0 ∧ I' 13 s = -1) → RV (d + 5) kX5_learn 58 [some (ax_r 10), some (ax_r 1), some (ax_i 0), none, none] I' Q) →
    RV (d + 5) kX5_learn 22 [some (ax_r 10), some (ax_r 1), some (ax_i k), none, none] I Q := by
  intro n
  induction n with
  | zero =>
    intro k I hk _ hA hQ
    exact vX5_learn_22 ⟨by omega, by omega⟩ ⟨fun _ => hQ I (Mf.rf _ I) (fun s hs => hA s hs.1 (by have := hs.2; omega)), fun c => absurd (by omega) c⟩
  | succ n ih =>
    intro k I hk hn hA hQ
    refine vX5_learn_22 ⟨by omega, by omega⟩ ⟨fun c => absurd c (by omega), fun _ => ⟨by omega, ?_⟩⟩
    refine ih (k + 1) _ (by omega) (by omega) (fun s h1 h2 => ?_) (fun I' hf hs => hQ I' ((((Mf.st (by decide)).trans (Mf.st (by decide))).trans (Mf.st (by decide))).trans hf) hs)
    refine ⟨?_, ?_, ?_⟩
    · rw [st_cell (by decide), st_cell (by decide), st_at]
      split
      · rfl
      · exact (hA s h1 (by omega)).1
    · rw [st_cell (by decide), st_at, st_cell (by decide)]
      split
      · rfl
      · exact (hA s h1 (by omega)).2.1
    · rw [st_at, st_cell (by decide), st_cell (by decide)]
      split
      · rfl
      · exact (hA s h1 (by omega)).2.2
def LInv (g : Int → Int) (I : ax_H) : Prop := (I 10 4 = I 1 1 → lok (nxt g) (I 11) (I 12)) ∧ I 10 4 ≤ I 1 1
def Lh (I I' : ax_H) : Prop := Mf [1, 4, 7, 10, 11, 12, 13] I I' ∧ (∀ k, k ≠ 2 → I' 1 k = I 1 k) ∧ ∀ k, k ≠ 4 → I' 10 k = I 10 k
theorem c_learnL {d : Nat} {g : Int → Int} {I : ax_H} {Q : ax_H → Prop} (hR : RInv g I) (hL : LInv g I) (hQ : ∀ I', Lh I I' → RInv g I' → I' 10 4 = I' 1 1 → lok (nxt g) (I' 11) (I' 12) → Q I') : cV (d + 5) kX5_learn [ax_r 10, ax_r 1] I Q := by
  refine vX5_learn_0 ⟨fun c => ?_, fun c => hQ I ⟨Mf.rf _ _, fun _ _ => rfl, fun _ _ => rfl⟩ hR c (hL.1 c)⟩
  have q0 : Mf [10] I (ax_st I 10 4 (I 1 1)) := Mf.st (by decide)
  refine c_learnL22 1024 0 _ (by omega) (by omega) (fun s h1 h2 => absurd h2 (by omega)) (fun I1 f1 k1 => ?_)
  have r1 : RInv g I1 := (hR.mf q0 (by decide) (by decide) (by decide) (by decide)).mf f1 (by decide) (by decide) (by decide) (by decide)
  refine c_learn58 (I0 := I1) (fun I2 f2 r2 l2 => hQ I2 ⟨fun b hb => ?_, fun k hk => ?_, fun k hk => ?_⟩ r2 ?_ l2) 1024 0 I1 (by omega) (by omega) (Lg.rf I1) r1 ⟨fun t ht => Or.inl (k1 t ht).2.2, fun t ht q => absurd (k1 t ht).2.2 q, fun t ht q => absurd q (by have := ht.1; omega), fun t ht => Or.inl ⟨(k1 t ht).1, fun q => absurd (k1 t ht).2.2 q⟩, fun t ht q => absurd (k1 t ht).1 q, fun t ht _ => (k1 t ht).2.1⟩
  · simp only [List.mem_cons, List.not_mem_nil, or_false, not_or] at hb
    rw [f2.1 b (by simp [hb]), f1 b (by simp [hb]), st_cell hb.2.2.2.1]
  · rw [f2.2 k hk, f1 1 (by decide), st_cell (by decide)]
  · rw [f2.1 10 (by decide), f1 10 (by decide), st_ne (Or.inr hk)]
  · rw [f2.1 10 (by decide), f1 10 (by decide), st_same, f2.2 1 (by decide), f1 1 (by decide), st_cell (by decide)]
