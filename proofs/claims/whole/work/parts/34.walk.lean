/-! walks and periods, on both sides -/
def itn (f : Int → Int) : Nat → Int → Int
  | 0, s => s
  | n + 1, s => itn f n (f s)
theorem itn_lost {f : Int → Int} (h : f (-7) = -7) : ∀ n, itn f n (-7) = -7
  | 0 => rfl
  | n + 1 => by unfold itn; rw [h]; exact itn_lost h n
theorem nxt_lost (g : Int → Int) : nxt g (-7) = -7 := by unfold nxt; rw [if_neg (by decide)]
theorem prv_lost (g : Int → Int) : prv g (-7) = -7 := by unfold prv; rw [if_neg (by decide)]
theorem c_walk_loop {d : Nat} {g : Int → Int} {Q : Int → ax_H → Prop} {N : Int} (hN : ax_R N) : ∀ (n : Nat) (I : ax_H) (s k : Int), N - k = n → ax_R k → ax_R s → RInv g I →
    (∀ I', Rf I I' → RInv g I' → Q (itn (nxt g) n s) I') → RI (d + 4) kX1_walk 5 [some (ax_r 1), none, some (ax_i N), some (ax_i s), some (ax_i k)] I Q := by
  intro n
  induction n with
  | zero =>
    intro I s k hk hkR hs h hQ
    exact vX1_walk_5 hN hkR ⟨fun _ => hQ I (Rf.rf I) h, fun c => absurd (by omega) c⟩
  | succ n ih =>
    intro I s k hk hkR hs h hQ
    refine vX1_walk_5 hN hkR ⟨fun c => absurd c (by omega), fun _ => ?_⟩
    refine c_stepFrom h hs (fun I1 hf hr => ?_)
    exact ih I1 _ (k + 1) (by omega) ⟨by omega, by omega⟩ (nxt_R g s) hr (fun I' hf' hr' => hQ I' (hf.trans hf') hr')
theorem c_walk {d : Nat} {g : Int → Int} {I : ax_H} {Q : Int → ax_H → Prop} {s N : Int} (h : RInv g I) (hs : ax_R s) (hN : 0 ≤ N ∧ N ≤ 1000) (hQ : ∀ I', Rf I I' → RInv g I' → Q (itn (nxt g) N.toNat s) I') : cI (d + 4) kX1_walk [ax_r 1, ax_i s, ax_i N] I Q :=
  vX1_walk_0 (c_walk_loop ⟨by omega, by omega⟩ N.toNat I s 0 (by omega) (by decide) hs h hQ)
theorem c_walkBack_loop {d : Nat} {g : Int → Int} {Q : Int → ax_H → Prop} {N : Int} (hN : ax_R N) : ∀ (n : Nat) (I : ax_H) (s k : Int), N - k = n → ax_R k → ax_R s → RInv g I →
    (∀ I', Rf I I' → RInv g I' → Q (itn (prv g) n s) I') → RI (d + 4) kX1_walkBack 5 [some (ax_r 1), none, some (ax_i N), some (ax_i s), some (ax_i k)] I Q := by
  intro n
  induction n with
  | zero =>
    intro I s k hk hkR hs h hQ
    exact vX1_walkBack_5 hN hkR ⟨fun _ => hQ I (Rf.rf I) h, fun c => absurd (by omega) c⟩
  | succ n ih =>
    intro I s k hk hkR hs h hQ
    refine vX1_walkBack_5 hN hkR ⟨fun c => absurd c (by omega), fun _ => ?_⟩
    refine c_stepBackFrom h hs (fun I1 hf hr => ?_)
    exact ih I1 _ (k + 1) (by omega) ⟨by omega, by omega⟩ (prv_R g s) hr (fun I' hf' hr' => hQ I' (hf.trans hf') hr')
theorem c_walkBack {d : Nat} {g : Int → Int} {I : ax_H} {Q : Int → ax_H → Prop} {s N : Int} (h : RInv g I) (hs : ax_R s) (hN : 0 ≤ N ∧ N ≤ 1000) (hQ : ∀ I', Rf I I' → RInv g I' → Q (itn (prv g) N.toNat s) I') : cI (d + 4) kX1_walkBack [ax_r 1, ax_i s, ax_i N] I Q :=
  vX1_walkBack_0 (c_walkBack_loop ⟨by omega, by omega⟩ N.toNat I s 0 (by omega) (by decide) hs h hQ)
def pr (g : Int → Int) (s : Int) : Nat → Int → Int → Int
  | 0, _, _ => -5
  | f + 1, cur, n => if nxt g cur = -7 then -7 else if nxt g cur = s then n else pr g s f (nxt g cur) (n + 1)
theorem c_period_loop {d : Nat} {g : Int → Int} {Q : Int → ax_H → Prop} {s : Int} (hs : ax_R s) : ∀ (n : Nat) (I : ax_H) (cur k : Int), k = 1025 - n → n ≤ 1024 → ax_R cur → RInv g I →
    (∀ I', Rf I I' → RInv g I' → Q (pr g s n cur k) I') → RI (d + 4) kX1_periodOf 4 [some (ax_r 1), some (ax_i s), some (ax_i cur), some (ax_i k)] I Q := by
  intro n
  induction n with
  | zero =>
    intro I cur k hk hkR hc h hQ
    exact vX1_periodOf_4 hs ⟨by omega, by omega⟩ ⟨fun _ => hQ I (Rf.rf I) h, fun c => absurd (by omega) c⟩
  | succ n ih =>
    intro I cur k hk hkR hc h hQ
    refine vX1_periodOf_4 hs ⟨by omega, by omega⟩ ⟨fun c => absurd c (by omega), fun _ => ?_⟩
    refine c_stepFrom h hc (fun I1 hf hr => ⟨nxt_R g cur, fun c1 => ⟨fun c2 => ?_, fun c2 => ?_⟩, fun c1 => ?_⟩)
    · refine ih I1 _ (k + 1) (by omega) (by omega) (nxt_R g cur) hr (fun I' hf' hr' => ?_)
      have := hQ I' (hf.trans hf') hr'
      unfold pr at this
      rw [if_neg c1, if_neg c2] at this
      exact this
    · have := hQ I1 hf hr
      unfold pr at this
      rw [if_neg c1, if_pos c2] at this
      exact this
    · have := hQ I1 hf hr
      unfold pr at this
      rw [if_pos c1] at this
      exact this
theorem c_periodOf {d : Nat} {g : Int → Int} {I : ax_H} {Q : Int → ax_H → Prop} {s : Int} (h : RInv g I) (hs : ax_R s) (hQ : ∀ I', Rf I I' → RInv g I' → Q (pr g s 1024 s 1) I') : cI (d + 4) kX1_periodOf [ax_r 1, ax_i s] I Q :=
  vX1_periodOf_0 (c_period_loop hs 1024 I s 1 (by omega) (by omega) hs h hQ)
/-! the reference's -/
theorem m_step0 {d : Nat} {I : ax_H} {Q : Int → ax_H → Prop} {s : Int} (hg : gd (I 86)) (hs : spt s) (h : Q (nxt (I 86) s) I) : cI (d + 5) kX11_step [ax_r 85, ax_i s, ax_i 0] I Q := by
  refine m_step hg hs (by decide) ?_
  unfold nxt at h
  rw [if_pos (show 0 ≤ s ∧ s < 1024 from hs)] at h
  exact h
theorem m_step1 {d : Nat} {I : ax_H} {Q : Int → ax_H → Prop} {s : Int} (hg : gd (I 86)) (hs : spt s) (h : Q (prv (I 86) s) I) : cI (d + 5) kX11_step [ax_r 85, ax_i s, ax_i 1] I Q := by
  refine m_step hg hs (by decide) ?_
  unfold prv at h
  rw [if_pos (show 0 ≤ s ∧ s < 1024 from hs)] at h
  exact h
theorem spt_R {s : Int} (h : s = -7 ∨ spt s) : ax_R s := by
  rcases h with rfl | h
  · decide
  · exact ⟨by have := h.1; omega, by have := h.2; omega⟩
/-- the spot behind n steps: -1, -2, -7 as told -/
def bhd (g : Int → Int) (x y n : Int) : Int := if ¬ (co x ∧ co y) then -1 else if n < -99 ∨ 99 < n then -2 else if n < 0 then itn (prv g) (-n).toNat (32 * x + y) else itn (nxt g) n.toNat (32 * x + y)
def perd (g : Int → Int) (x y : Int) : Int := if ¬ (co x ∧ co y) then -1 else pr g (32 * x + y) 1024 (32 * x + y) 1
