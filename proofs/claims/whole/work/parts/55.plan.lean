/-! plans and where they end -/
def tks (w v : Int) : Prop := w = 3 ∨ (w = 2 ∧ 0 ≤ v ∧ v ≤ 1) ∨ ((0 ≤ w ∧ w ≤ 1) ∧ 1 ≤ v ∧ v ≤ 9)
theorem c_takes {d : Nat} {I : ax_H} {Q : Int → ax_H → Prop} {w v : Int} (hw : 0 ≤ w ∧ w ≤ 3) (hv : ax_R v) (h1 : tks w v → Q 1 I) (h0 : ¬ tks w v → Q 0 I) : cI d kX6_takes [ax_r 67, ax_i w, ax_i v] I Q := by
  unfold tks at h1 h0
  refine vX6_takes_0 isPn67 ⟨by omega, by omega⟩ hv ⟨fun c => h1 (by omega), fun c => ⟨fun c2 => ⟨fun c3 => h0 (by omega), fun c3 => ⟨fun c4 => h0 (by omega), fun c4 => h1 (by omega)⟩⟩, fun c2 => ⟨fun c3 => h1 (by omega), fun c3 => ⟨fun c4 => h0 (by omega), fun c4 => h1 (by omega)⟩⟩⟩⟩
theorem a_plan {d : Nat} {I : ax_H} {Q : Int → ax_H → Prop} {w v : Int} (hn : 0 ≤ I 67 2 ∧ I 67 2 ≤ 8) (hw : ax_R w) (hv : ax_R v) (h1 : w = -1 → Q 0 (ax_st I 67 2 0)) (h2 : w ≠ -1 → ¬ (0 ≤ w ∧ w ≤ 3) → Q (-1) I) (h3 : 0 ≤ w ∧ w ≤ 3 → ¬ tks w v → Q (-2) I) (h4 : tks w v → I 67 2 = 8 → Q (-4) I)
    (hQ : ∀ I', tks w v → I 67 2 < 8 → Pf 67 I I' → I' 67 2 = I 67 2 + 1 → (∀ k, I' 68 k = if k = I 67 2 then w else I 68 k) → (∀ k, I' 69 k = if k = I 67 2 then v else I 69 k) → Q (I 67 2 + 1) I') : cI (d + 1) kX10_plan [ax_r 0, ax_i w, ax_i v] I Q := by
  refine vX10_plan_0 hw ⟨fun c => ⟨fun c2 => h2 c (by omega), fun c2 => ⟨fun c3 => ?_, fun c3 => h2 c (by omega)⟩⟩, h1⟩
  refine c_takes ⟨by omega, c3⟩ hv (fun ht => n1 ?_) (fun ht => n0 (h3 ⟨by omega, c3⟩ ht))
  refine vX6_isFull_0 isPn67 ⟨fun c4 => b0 ?_, fun c4 => b1 (h4 ht (by omega))⟩
  refine vX6_add_0 isPn67 hw hv ⟨fun q => absurd q (by omega), fun _ => ⟨fun q => absurd q (by omega), fun _ => ⟨fun q => absurd q (by omega), fun _ => ⟨by omega, ?_⟩⟩⟩⟩
  have e1 : (ax_st I 68 (I 67 2) w) 67 2 = I 67 2 := by rw [st_cell (by decide)]
  have e2 : (ax_st (ax_st I 68 (I 67 2) w) 69 (I 67 2) v) 67 2 = I 67 2 := by rw [st_cell (by decide), st_cell (by decide)]
  show (0 ≤ (ax_st I 68 (I 67 2) w) 67 2 ∧ (ax_st I 68 (I 67 2) w) 67 2 < 8) ∧ _
  rw [e1]
  refine ⟨by omega, ?_⟩
  show ax_R ((ax_st (ax_st I 68 (I 67 2) w) 69 ((ax_st I 68 (I 67 2) w) 67 2) v) 67 2 + 1) ∧ Q ((ax_st (ax_st (ax_st I 68 (I 67 2) w) 69 ((ax_st I 68 (I 67 2) w) 67 2) v) 67 2 ((ax_st (ax_st I 68 (I 67 2) w) 69 ((ax_st I 68 (I 67 2) w) 67 2) v) 67 2 + 1)) 67 2) _
  rw [e1, e2, st_same]
  refine ⟨⟨by omega, by omega⟩, ?_⟩
  refine hQ _ ht c4 ⟨fun b q1 q2 q3 => by rw [st_cell q1, st_cell q3, st_cell q2], fun k hk => by rw [st_ne (Or.inr hk), st_cell (by decide), st_cell (by decide)]⟩ (st_same _ _ _ _) (fun k => ?_) (fun k => ?_)
  · rw [st_cell (by decide), st_cell (by decide), st_at]
  · rw [st_cell (by decide), st_at, st_cell (by decide)]
theorem m_plan8 {d : Nat} {I0 : ax_H} {Q : Int → ax_H → Prop} (hQ : ∀ I', (∀ b, b ≠ 86 → I' b = I0 b) → (∀ k, k < 31 → I' 86 k = I0 86 k) → I' 86 31 = 0 → Q 0 I') : ∀ (m : Nat) (k : Int) (I : ax_H), k = 48 - m → m ≤ 17 → (∀ b, b ≠ 86 → I b = I0 b) → (∀ j, j < 31 → I 86 j = I0 86 j) → (31 < k → I 86 31 = 0) →
    RI (d + 1) kX11_plan 8 [some (ax_r 85), none, none, some (ax_i k)] I Q := by
  intro m
  induction m with
  | zero =>
    intro k I hk _ h1 h2 h3
    exact vX11_plan_8 ⟨by omega, by omega⟩ ⟨fun _ => hQ I h1 h2 (h3 (by omega)), fun c => absurd (by omega) c⟩
  | succ m ih =>
    intro k I hk hm h1 h2 h3
    refine vX11_plan_8 ⟨by omega, by omega⟩ ⟨fun c => absurd c (by omega), fun _ => ⟨by omega, ?_⟩⟩
    refine ih (k + 1) _ (by omega) (by omega) (fun b q => by rw [st_cell q, h1 b q]) (fun j hj => by rw [st_ne (Or.inr (by omega)), h2 j hj]) (fun q => ?_)
    rw [st_at]
    split
    · rfl
    · exact h3 (by omega)
theorem z_plan {d : Nat} {I : ax_H} {Q : Int → ax_H → Prop} {w v : Int} (hn : 0 ≤ I 86 31 ∧ I 86 31 ≤ 8) (hw : ax_R w) (hv : ax_R v)
    (h1 : ∀ I', w = -1 → (∀ b, b ≠ 86 → I' b = I b) → (∀ k, k < 31 → I' 86 k = I 86 k) → I' 86 31 = 0 → Q 0 I') (h2 : w ≠ -1 → ¬ (0 ≤ w ∧ w ≤ 3) → Q (-1) I) (h3 : 0 ≤ w ∧ w ≤ 3 → ¬ tks w v → Q (-2) I) (h4 : tks w v → I 86 31 = 8 → Q (-4) I)
    (hQ : ∀ I', tks w v → I 86 31 < 8 → (∀ b, b ≠ 86 → I' b = I b) → (∀ k, k < 31 → I' 86 k = I 86 k) → I' 86 31 = I 86 31 + 1 → (∀ k, 0 ≤ k → k < 8 → I' 86 (32 + k) = if k = I 86 31 then w else I 86 (32 + k)) → (∀ k, 0 ≤ k → k < 8 → I' 86 (40 + k) = if k = I 86 31 then v else I 86 (40 + k)) → Q (I 86 31 + 1) I') : cI (d + 1) kX11_plan [ax_r 85, ax_i w, ax_i v] I Q := by
  have fin : tks w v → ((I 86 31) ≠ 8 →
            (0 ≤ (32 + (I 86 31)) ∧ (32 + (I 86 31)) < 48) ∧
            ((0 ≤ (40 + ((ax_st I 86 (32 + (I 86 31)) w) 86 31)) ∧ (40 + ((ax_st I 86 (32 + (I 86 31)) w) 86 31)) < 48) ∧
            (ax_R (((ax_st (ax_st I 86 (32 + (I 86 31)) w) 86 (40 + ((ax_st I 86 (32 + (I 86 31)) w) 86 31)) v) 86 31) + 1) ∧
            (Q ((ax_st (ax_st (ax_st I 86 (32 + (I 86 31)) w) 86 (40 + ((ax_st I 86 (32 + (I 86 31)) w) 86 31)) v) 86 31 (((ax_st (ax_st I 86 (32 + (I 86 31)) w) 86 (40 + ((ax_st I 86 (32 + (I 86 31)) w) 86 31)) v) 86 31) + 1)) 86 31) (ax_st (ax_st (ax_st I 86 (32 + (I 86 31)) w) 86 (40 + ((ax_st I 86 (32 + (I 86 31)) w) 86 31)) v) 86 31 (((ax_st (ax_st I 86 (32 + (I 86 31)) w) 86 (40 + ((ax_st I 86 (32 + (I 86 31)) w) 86 31)) v) 86 31) + 1)))))) ∧
          ((I 86 31) = 8 → Q (-4) I) := by
    intro ht
    refine ⟨fun c => ?_, fun c => h4 ht c⟩
    have e1 : (ax_st I 86 (32 + (I 86 31)) w) 86 31 = I 86 31 := by rw [st_ne (Or.inr (by omega))]
    rw [e1]
    have e2 : (ax_st (ax_st I 86 (32 + (I 86 31)) w) 86 (40 + (I 86 31)) v) 86 31 = I 86 31 := by rw [st_ne (Or.inr (by omega)), e1]
    rw [e2, st_same]
    refine ⟨by omega, by omega, ⟨by omega, by omega⟩, ?_⟩
    refine hQ _ ht (by omega) (fun b q => by rw [st_cell q, st_cell q, st_cell q]) (fun k hk => by rw [st_ne (Or.inr (by omega)), st_ne (Or.inr (by omega)), st_ne (Or.inr (by omega))]) (st_same _ _ _ _) (fun k k0 k1 => ?_) (fun k k0 k1 => ?_)
    · rw [st_ne (Or.inr (by omega)), st_ne (Or.inr (by omega)), st_at]
      by_cases q : k = I 86 31
      · rw [if_pos (by omega), if_pos q]
      · rw [if_neg (by omega), if_neg q]
    · rw [st_ne (Or.inr (by omega)), st_at]
      by_cases q : k = I 86 31
      · rw [if_pos (by omega), if_pos q]
      · rw [if_neg (by omega), if_neg q, st_ne (Or.inr (by omega))]
  unfold tks at fin h3
  refine vX11_plan_0 hw hv ⟨fun c => ?_, fun c => m_plan8 (fun I' => h1 I' c) 17 31 I (by omega) (by omega) (fun _ _ => rfl) (fun _ _ => rfl) (fun q => absurd q (by omega))⟩
  refine m_in (R8_of hw) (by decide) (by decide) (fun hc => n1 ⟨fun c2 => ⟨fun c3 => fin (by omega), fun c3 => ?_⟩, fun c2 => ?_⟩) (fun hc => n0 (h2 c hc))
  · exact m_in (R8_of hv) (by decide) (by decide) (fun hd => n1 (fin (by omega))) (fun hd => n0 (h3 hc (by omega)))
  · refine m_in (R8_of hv) (by decide) (by decide) (fun hd => b1 ⟨fun c3 => fin (by omega), fun c3 => absurd c3 (by omega)⟩) (fun hd => b0 (h3 hc (by omega)))
/-! where a plan ends -/
def gof (f : Int → Int) : Nat → Int → Int
  | 0, s => s
  | n + 1, s => if f s = -7 then s else gof f n (f s)
def don (g : Int → Int) (w v s : Int) : Int := if w = 3 then 32 * (s % 32) + s / 32 else if w = 2 then (if swd g s v = -7 then s else swd g s v) else gof (if w = 1 then prv g else nxt g) v.toNat s
def pln (g w v : Int → Int) : Nat → Int → Int → Int
  | 0, _, s => s
  | n + 1, k, s => pln g w v n (k + 1) (don g (w k) (v k) s)
theorem gof_spt {f : Int → Int} (hf : ∀ s, f s = -7 ∨ spt (f s)) : ∀ (n : Nat) (s : Int), spt s → spt (gof f n s)
  | 0, _, h => h
  | n + 1, s, h => by
    unfold gof
    split
    · exact h
    · rename_i c; exact gof_spt hf n _ ((hf s).resolve_left c)
theorem don_spt {g : Int → Int} {w v s : Int} (h : spt s) : spt (don g w v s) := by
  unfold don
  split
  · have := h.1; have := h.2; exact ⟨by omega, by omega⟩
  · split
    · split
      · exact h
      · rename_i c; exact (swd_spt h).resolve_left c
    · split
      · exact gof_spt (fun _ => prv_spt) _ _ h
      · exact gof_spt (fun _ => nxt_spt) _ _ h
theorem c_far {d : Nat} {g : Int → Int} {Q : Int → ax_H → Prop} {b N : Int} (hb : 0 ≤ b ∧ b ≤ 1) (hN : 0 ≤ N ∧ N ≤ 9) : ∀ (n : Nat) (k s : Int) (I : ax_H), k = N - n → (n : Int) ≤ N → spt s → RInv g I →
    (∀ I', Rf I I' → RInv g I' → Q (gof (if b = 1 then prv g else nxt g) n s) I') →
    RI (d + 4) kX6_steppedAsFarAsItGoes 7 [none, some (ax_r 1), some (ax_i b), some (ax_i N), none, some (ax_i s), some (ax_i k), none] I Q := by
  intro n
  induction n with
  | zero =>
    intro k s I hk _ hs hR hQ
    exact vX6_steppedAsFarAsItGoes_7 ⟨by omega, by omega⟩ ⟨by omega, by omega⟩ ⟨by omega, by omega⟩ ⟨fun _ => hQ I (Rf.rf I) hR, fun c => absurd (by omega) c⟩
  | succ n ih =>
    intro k s I hk hn hs hR hQ
    unfold gof at hQ
    refine vX6_steppedAsFarAsItGoes_7 ⟨by omega, by omega⟩ ⟨by omega, by omega⟩ ⟨by omega, by omega⟩ ⟨fun c => absurd c (by omega), fun _ => ⟨fun c => ?_, fun c => ?_⟩⟩
    · have eb : ¬ b = 1 := by omega
      simp only [if_neg eb] at hQ ih
      refine c_stepFrom hR (spt_R (Or.inr hs)) (fun I1 f1 r1 => ⟨nxt_R _ _, fun c2 => ?_, fun c2 => ?_⟩)
      · simp only [if_neg c2] at hQ
        exact ih (k + 1) _ I1 (by omega) (by omega) (nxt_spt.resolve_left c2) r1 (fun I' f' r' => hQ I' (f1.trans f') r')
      · simp only [if_pos c2] at hQ
        exact hQ I1 f1 r1
    · have eb : b = 1 := by omega
      simp only [if_pos eb] at hQ ih
      refine c_stepBackFrom hR (spt_R (Or.inr hs)) (fun I1 f1 r1 => ⟨prv_R _ _, fun c2 => ?_, fun c2 => ?_⟩)
      · simp only [if_neg c2] at hQ
        exact ih (k + 1) _ I1 (by omega) (by omega) (prv_spt.resolve_left c2) r1 (fun I' f' r' => hQ I' (f1.trans f') r')
      · simp only [if_pos c2] at hQ
        exact hQ I1 f1 r1
theorem c_swi {d : Nat} {g : Int → Int} {I : ax_H} {Q : Int → ax_H → Prop} {v s : Int} (hv : 0 ≤ v ∧ v ≤ 1) (hs : spt s) (hR : RInv g I) (hQ : ∀ I', Rf I I' → RInv g I' → Q (if swd g s v = -7 then s else swd g s v) I') : cI (d + 4) kX6_swappedIfItGoes [ax_r 67, ax_r 1, ax_i v, ax_i s] I Q := by
  have hs1 := hs.1
  have hs2 := hs.2
  refine vX6_swappedIfItGoes_0 isPn67 ⟨by omega, by omega⟩ ⟨by omega, ?_⟩
  intro y4 e4 y5 e5
  subst e4
  subst e5
  unfold swd at hQ
  refine ⟨fun c => ?_, fun c => ?_⟩
  · simp only [if_neg c] at hQ
    have hx := ot_co g 1 (s % 32) (s / 32)
    refine c_swapOf hR (by decide) ⟨by omega, by omega⟩ ⟨by omega, by omega⟩ (fun I1 f1 r1 => ⟨?_, fun c2 => ?_, fun c2 => ?_⟩)
    · rcases hx with e | e
      · rw [e]; decide
      · exact co_R e
    · have hc := hx.resolve_left c2
      have := hQ I1 f1 r1.inv
      rw [if_neg c2, if_neg (by have := hc.1; omega), Int.mul_comm] at this
      exact this
    · have := hQ I1 f1 r1.inv
      rw [if_pos c2, if_pos rfl] at this
      exact this
  · simp only [if_pos c] at hQ
    have hx := ot_co g 0 (s / 32) (s % 32)
    refine c_swapOf hR (by decide) ⟨by omega, by omega⟩ ⟨by omega, by omega⟩ (fun I1 f1 r1 => ⟨?_, fun c2 => ?_, fun c2 => ?_⟩)
    · rcases hx with e | e
      · rw [e]; decide
      · exact co_R e
    · have hc := hx.resolve_left c2
      have := hQ I1 f1 r1.inv
      rw [if_neg c2, if_neg (by have := hc.1; omega), Int.mul_comm] at this
      exact this
    · have := hQ I1 f1 r1.inv
      rw [if_pos c2, if_pos rfl] at this
      exact this
def okP (w v : Int → Int) (n : Int) : Prop := (0 ≤ n ∧ n ≤ 8) ∧ ∀ k, 0 ≤ k → k < n → tks (w k) (v k)
theorem c_end5 {d : Nat} {g w v : Int → Int} {n : Int} {Q : Int → ax_H → Prop} (hok : okP w v n) : ∀ (m : Nat) (k s : Int) (I : ax_H), k = n - m → (m : Int) ≤ n → spt s → RInv g I → I 67 2 = n → (∀ i, 0 ≤ i → i < n → I 68 i = w i ∧ I 69 i = v i) →
    (∀ I', Rf I I' → RInv g I' → Q (pln g w v m k s) I') →
    RI (d + 5) kX6_endOf 5 [some (ax_r 67), some (ax_r 1), none, some (ax_i s), some (ax_i k)] I Q := by
  have hb := hok.1
  intro m
  induction m with
  | zero =>
    intro k s I hk _ hs hR hn hp hQ
    exact vX6_endOf_5 isPn67 ⟨by omega, by omega⟩ ⟨fun _ => hQ I (Rf.rf I) hR, fun c => absurd (by omega) c⟩
  | succ m ih =>
    intro k s I hk hm hs hR hn hp hQ
    have ek := hp k (by omega) (by omega)
    have ht := hok.2 k (by omega) (by omega)
    unfold tks at ht
    unfold pln at hQ
    have hd := don_spt (g := g) (w := w k) (v := v k) hs
    have go : ∀ I1, Rf I I1 → RInv g I1 → RI (d + 5) kX6_endOf 5 [some (ax_r 67), some (ax_r 1), none, some (ax_i (don g (w k) (v k) s)), some (ax_i (k + 1))] I1 Q := fun I1 f1 r1 =>
      ih (k + 1) _ I1 (by omega) (by omega) hd r1 (by rw [f1.1 67 (by decide) (by decide) (by decide)]; exact hn) (fun i i0 i1 => by rw [f1.1 68 (by decide) (by decide) (by decide), f1.1 69 (by decide) (by decide) (by decide)]; exact hp i i0 i1) (fun I' f' r' => hQ I' (f1.trans f') r')
    unfold don at go
    refine vX6_endOf_5 isPn67 ⟨by omega, by omega⟩ ⟨fun c => absurd c (by omega), fun _ => ⟨fun c => absurd c (by omega), fun _ => ⟨fun c => absurd c (by omega), fun _ => ⟨by omega, ?_⟩⟩⟩⟩
    show (I 68 k ≠ 3 → _) ∧ (I 68 k = 3 → _)
    refine ⟨fun c => ⟨fun c2 => ⟨fun c3 => ?_, fun c3 => ?_⟩, fun c2 => ?_⟩, fun c => ?_⟩
    · change I 68 k ≠ 1 at c3
      change I 68 k ≠ 2 at c2
      rw [ek.1] at c c2 c3
      show cI (d + 4) kX6_steppedAsFarAsItGoes [ax_r 67, ax_r 1, ax_i 0, ax_i (I 69 k), ax_i s] I _
      rw [ek.2]
      simp only [if_neg c, if_neg c2, if_neg c3] at go
      have := c_far (d := d) (g := g) (b := 0) (N := v k) (Q := fun w10 I9 => RI (d + 5) kX6_endOf 5 [some (ax_r 67), some (ax_r 1), none, some (ax_i w10), some (ax_i (k + 1))] I9 Q) (by decide) (by omega) (v k).toNat 0 s I (by omega) (by omega) hs hR (fun I' f' r' => go I' f' r')
      exact vX6_steppedAsFarAsItGoes_0 isPn67 this
    · change I 68 k = 1 at c3
      change I 68 k ≠ 2 at c2
      rw [ek.1] at c c2 c3
      show cI (d + 4) kX6_steppedAsFarAsItGoes [ax_r 67, ax_r 1, ax_i 1, ax_i (I 69 k), ax_i s] I _
      rw [ek.2]
      simp only [if_neg c, if_neg c2, if_pos c3] at go
      have := c_far (d := d) (g := g) (b := 1) (N := v k) (Q := fun w10 I9 => RI (d + 5) kX6_endOf 5 [some (ax_r 67), some (ax_r 1), none, some (ax_i w10), some (ax_i (k + 1))] I9 Q) (by decide) (by omega) (v k).toNat 0 s I (by omega) (by omega) hs hR (fun I' f' r' => go I' f' r')
      exact vX6_steppedAsFarAsItGoes_0 isPn67 this
    · change I 68 k = 2 at c2
      rw [ek.1] at c c2
      show cI (d + 4) kX6_swappedIfItGoes [ax_r 67, ax_r 1, ax_i (I 69 k), ax_i s] I _
      rw [ek.2]
      simp only [if_neg c, if_pos c2] at go
      exact c_swi (by omega) hs hR go
    · rw [ek.1] at c
      simp only [if_pos c] at go
      have := hs.1
      have := hs.2
      refine ⟨by omega, fun y hy => ?_⟩
      rw [hy, show s % 32 * 32 + s / 32 = 32 * (s % 32) + s / 32 by omega]
      exact go I (Rf.rf I) hR
def r_ends (g w v : Int → Int) (n : Nat) (x y : Int) : Int := if co x ∧ co y then pln g w v n 0 (x * 32 + y) else -1
theorem a_ends {d : Nat} {g : Int → Int} {I : ax_H} {Q : Int → ax_H → Prop} {x y : Int} (hx : ax_R x) (hy : ax_R y) (hR : RInv g I) (hok : okP (I 68) (I 69) (I 67 2)) (hQ : ∀ I', Rf I I' → RInv g I' → Q (r_ends g (I 68) (I 69) (I 67 2).toNat x y) I') : cI (d + 6) kX10_ends [ax_r 0, ax_i x, ax_i y] I Q := by
  have h0 := hQ I (Rf.rf I) hR
  unfold r_ends at hQ h0
  refine vX10_ends_0 ?_
  refine c_isSpot hx hy (fun hc => b1 ?_) (fun hc => b0 ?_)
  · simp only [if_pos hc] at hQ
    have hb := hok.1
    exact vX6_endOf_0 isPn67 (c_end5 (w := I 68) (v := I 69) hok (I 67 2).toNat 0 _ I (by omega) (by omega) ⟨by omega, by omega⟩ hR rfl (fun _ _ _ => ⟨rfl, rfl⟩) hQ)
  · rw [if_neg hc] at h0; exact h0
/-! the reference's -/
theorem m_far {d : Nat} {I : ax_H} {Q : Int → ax_H → Prop} {w k : Int} (hg : gd (I 86)) (hw : 0 ≤ w ∧ w ≤ 1) : ∀ (n : Nat) (s : Int), n ≤ 9 → spt s →
    RI (d + 6) kX11_ends 20 [some (ax_r 85), none, none, some (ax_i (gof (if w = 1 then prv (I 86) else nxt (I 86)) n s)), some (ax_i (k + 1)), none, none, none, none] I Q →
    RI (d + 6) kX11_ends 69 [some (ax_r 85), none, none, some (ax_i s), some (ax_i k), some (ax_i w), some (ax_i 1), some (ax_i (n : Int)), none] I Q := by
  intro n
  induction n with
  | zero =>
    intro s _ hs K
    exact vX11_ends_69 ⟨by omega, by omega⟩ (by decide) (by decide) ⟨fun _ => K, fun c => absurd (by decide) c⟩
  | succ n ih =>
    intro s hn hs K
    unfold gof at K
    have e1 : ((n + 1 : Nat) : Int) + (-1) = (n : Int) := by omega
    refine vX11_ends_69 ⟨by omega, by omega⟩ (by decide) ⟨by omega, by omega⟩ ⟨fun c => absurd c (by omega), fun _ => ⟨fun c => absurd c (by decide), fun _ => ⟨fun c => absurd c (by omega), fun _ => ⟨fun c => ?_, fun c => ?_⟩⟩⟩⟩
    · rw [if_neg c] at K ih
      refine m_step0 hg hs ⟨nxt_R _ _, fun c2 => ?_, fun c2 => ?_⟩
      · rw [if_pos c2] at K
        exact vX11_ends_69 ⟨by omega, by omega⟩ (by decide) ⟨by omega, by omega⟩ ⟨fun _ => K, fun _ => ⟨fun _ => K, fun q => absurd rfl q⟩⟩
      · rw [if_neg c2] at K
        rw [e1]
        exact ih _ (by omega) (nxt_spt.resolve_left c2) K
    · rw [if_pos c] at K ih
      refine m_step1 hg hs ⟨prv_R _ _, fun c2 => ?_, fun c2 => ?_⟩
      · rw [if_pos c2] at K
        exact vX11_ends_69 ⟨by omega, by omega⟩ (by decide) ⟨by omega, by omega⟩ ⟨fun _ => K, fun _ => ⟨fun _ => K, fun q => absurd rfl q⟩⟩
      · rw [if_neg c2] at K
        rw [e1]
        exact ih _ (by omega) (prv_spt.resolve_left c2) K
theorem m_end20 {d : Nat} {I : ax_H} {Q : Int → ax_H → Prop} {w v : Int → Int} {n : Int} (hg : gd (I 86)) (hok : okP w v n) (hn : I 86 31 = n) (hp : ∀ i, 0 ≤ i → i < n → I 86 (32 + i) = w i ∧ I 86 (40 + i) = v i) : ∀ (m : Nat) (k s : Int), k = n - m → (m : Int) ≤ n → spt s → Q (pln (I 86) w v m k s) I →
    RI (d + 6) kX11_ends 20 [some (ax_r 85), none, none, some (ax_i s), some (ax_i k), none, none, none, none] I Q := by
  have hb := hok.1
  intro m
  induction m with
  | zero =>
    intro k s hk _ hs h
    exact vX11_ends_20 ⟨by omega, by omega⟩ ⟨fun _ => h, fun c => absurd (by omega) c⟩
  | succ m ih =>
    intro k s hk hm hs h
    have ek := hp k (by omega) (by omega)
    have ht := hok.2 k (by omega) (by omega)
    unfold tks at ht
    unfold pln at h
    have hd := don_spt (g := I 86) (w := w k) (v := v k) hs
    have go := ih (k + 1) _ (by omega) (by omega) hd h
    unfold don at go
    have hs1 := hs.1
    have hs2 := hs.2
    refine vX11_ends_20 ⟨by omega, by omega⟩ ⟨fun c => absurd c (by omega), fun _ => ⟨by omega, fun c => ?_, fun c => ⟨by omega, ?_⟩⟩⟩
    · rw [ek.1] at c ⊢
      refine vX11_ends_69 ⟨by omega, by omega⟩ (by decide) (by decide) ⟨fun c => absurd c (by decide), fun _ => ⟨fun c => absurd c (by decide), fun _ => ⟨fun _ => ⟨fun c2 => ?_, fun c2 => ?_⟩, fun q => absurd c q⟩⟩⟩
      · have e3 : w k = 3 := by omega
        rw [if_pos e3] at go
        refine ⟨by omega, fun y hy => ⟨⟨by omega, by omega⟩, fun q => absurd q (by omega), fun _ => ?_⟩⟩
        rw [hy]
        exact vX11_ends_69 ⟨by omega, by omega⟩ (by decide) (by decide) ⟨fun _ => go, fun q => absurd (by decide) q⟩
      · rw [if_neg (show ¬ w k = 3 by omega), if_pos c2] at go
        refine ⟨by omega, ?_⟩
        rw [ek.2]
        refine m_swapped hg hs (by omega) ⟨spt_R (swd_spt hs), fun q => ?_, fun q => ?_⟩
        · rw [if_pos q] at go
          exact vX11_ends_69 ⟨by omega, by omega⟩ (by decide) (by decide) ⟨fun _ => go, fun q => absurd (by decide) q⟩
        · rw [if_neg q] at go
          exact vX11_ends_69 ⟨by omega, by omega⟩ (by decide) (by decide) ⟨fun _ => go, fun q => absurd (by decide) q⟩
    · rw [ek.1] at c ⊢
      rw [ek.2]
      rw [if_neg (show ¬ w k = 3 by omega), if_neg (show ¬ w k = 2 by omega)] at go
      have := m_far (d := d) (Q := Q) (w := w k) (k := k) hg (by omega) (v k).toNat s (by omega) hs go
      rw [show (((v k).toNat : Nat) : Int) = v k by omega] at this
      exact this
theorem z_ends {d : Nat} {I : ax_H} {Q : Int → ax_H → Prop} {w v : Int → Int} {n : Nat} {x y : Int} (hx : ax_R x) (hy : ax_R y) (hg : gd (I 86)) (hok : okP w v n) (hn : I 86 31 = n) (hp : ∀ i : Int, 0 ≤ i → i < n → I 86 (32 + i) = w i ∧ I 86 (40 + i) = v i) (h : Q (r_ends (I 86) w v n x y) I) : cI (d + 6) kX11_ends [ax_r 85, ax_i x, ax_i y] I Q := by
  unfold r_ends at h
  refine vX11_ends_0 ?_
  refine m_isSpot hx hy (fun hc => n1 ?_) (fun hc => n0 ?_)
  · rw [if_pos hc] at h
    intro s hs
    rw [show x * 32 + y = s by omega] at h
    exact m_end20 hg hok hn hp n 0 s (by omega) (by omega) ⟨by omega, by omega⟩ h
  · rw [if_neg hc] at h; exact h
