/-! the reference's fibres, bases, ranks (cells 88, 89 are its scratch) -/
def Mf (l : List Nat) (I I' : ax_H) : Prop := ∀ a, a ∉ l → I' a = I a
theorem Mf.rf (l : List Nat) (I : ax_H) : Mf l I I := fun _ _ => rfl
theorem Mf.trans {l : List Nat} {I I' I'' : ax_H} (h : Mf l I I') (h' : Mf l I' I'') : Mf l I I'' := fun a q => (h' a q).trans (h a q)
theorem Mf.st {l : List Nat} {I : ax_H} {a : Nat} {p v : Int} (h : a ∈ l) : Mf l I (ax_st I a p v) := fun q hq => st_cell (fun e => hq (e ▸ h))
theorem Mf.mono {l l' : List Nat} {I I' : ax_H} (h : Mf l I I') (hl : ∀ a, a ∈ l → a ∈ l') : Mf l' I I' := fun a q => h a (fun c => q (hl a c))
theorem m_keep_loop {d : Nat} {g : Int → Int} {Q : ax_H → Prop} (hg : gd g) : ∀ (n : Nat) (s : Int) (I : ax_H), s = 1024 - n → n ≤ 1024 → I 86 = g → (∀ k, 0 ≤ k → k < s → I 88 k = kq g k) →
    (∀ I', Mf [88] I I' → (∀ k, spt k → I' 88 k = kq g k) → Q I') →
    RV (d + 3) kX11_findsKept 2 [some (ax_r 85), some (ax_i s)] I Q := by
  intro n
  induction n with
  | zero =>
    intro s I hs _ h6 hA hQ
    exact vX11_findsKept_2 ⟨by omega, by omega⟩ ⟨fun _ => hQ I (Mf.rf _ I) (fun k hk => hA k hk.1 (by omega)), fun c => absurd (by omega) c⟩
  | succ n ih =>
    intro s I hs hn h6 hA hQ
    refine vX11_findsKept_2 ⟨by omega, by omega⟩ ⟨fun c => absurd c (by omega), fun _ => ⟨by omega, ?_⟩⟩
    refine m_keptAt (by rw [h6]; exact hg) ⟨by omega, by omega⟩ ⟨by omega, by omega⟩ ?_
    rw [h6]
    have e : kp g (s / 32) (s % 32) = kq g s := rfl
    rw [e]
    refine ⟨by omega, kq_R _ _, ?_⟩
    refine ih (s + 1) _ (by omega) (by omega) (by rw [st_cell (by decide)]; exact h6) (fun k h1 h2 => ?_) (fun I' hf hk => hQ I' ((Mf.st (by decide)).trans hf) hk)
    rw [st_at]
    split
    · rename_i e2; rw [e2]
    · exact hA k h1 (by omega)
theorem m_findsKept {d : Nat} {I : ax_H} {Q : ax_H → Prop} (hg : gd (I 86)) (hQ : ∀ I', Mf [88] I I' → (∀ k, spt k → I' 88 k = kq (I 86) k) → Q I') : cV (d + 3) kX11_findsKept [ax_r 85] I Q :=
  vX11_findsKept_0 (m_keep_loop hg 1024 0 I (by omega) (by omega) rfl (fun k h1 h2 => absurd h2 (by omega)) hQ)
theorem m_nth_loop {d : Nat} {g : Int → Int} {I : ax_H} {Q : Int → ax_H → Prop} {k i : Int} (hR : ∀ s, spt s → I 88 s = kq g s) (hk : ax_R k) (hi : ax_R i) : ∀ (n : Nat) (m s : Int), s = 1024 - n → n ≤ 1024 → 0 ≤ m → m ≤ s → Q (nl (kq g) k i n m s) I →
    RI (d + 4) kX11_nth 9 [some (ax_r 85), some (ax_i k), some (ax_i i), some (ax_i m), some (ax_i s)] I Q := by
  intro n
  induction n with
  | zero =>
    intro m s hs _ h0 h1 h
    unfold nl at h
    refine vX11_nth_9 hk hi ⟨by omega, by omega⟩ ⟨by omega, by omega⟩ ⟨fun _ => ⟨fun c => ?_, fun c => ?_⟩, fun c => absurd (by omega) c⟩
    · rw [if_neg c] at h; exact h
    · rw [if_pos c] at h; exact h
  | succ n ih =>
    intro m s hs hn h0 h1 h
    unfold nl at h
    have e := hR s ⟨by omega, by omega⟩
    refine vX11_nth_9 hk hi ⟨by omega, by omega⟩ ⟨by omega, by omega⟩ ⟨fun c => absurd c (by omega), fun _ => ⟨by omega, fun c => ?_, fun c => ⟨fun c2 => ?_, fun c2 => ?_⟩⟩⟩
    · rw [e] at c
      rw [if_neg c] at h
      exact ih m (s + 1) (by omega) (by omega) h0 (by omega) h
    · rw [e] at c
      rw [if_pos c, if_neg c2] at h
      exact ih (m + 1) (s + 1) (by omega) (by omega) (by omega) (by omega) h
    · rw [e] at c
      rw [if_pos c, if_pos c2] at h
      exact h
theorem m_nth {d : Nat} {I : ax_H} {Q : Int → ax_H → Prop} {k i : Int} (hg : gd (I 86)) (hk : ax_R k) (hi : ax_R i) (hQ : ∀ I', Mf [88] I I' → Q (r_nth (I 86) k i) I') : cI (d + 4) kX11_nth [ax_r 85, ax_i k, ax_i i] I Q := by
  refine vX11_nth_0 ?_
  refine m_findsKept hg (fun I' hf hr => ?_)
  exact m_nth_loop hr hk hi 1024 0 0 (by omega) (by omega) (by omega) (by omega) (hQ I' hf)
theorem z_fibre {d : Nat} {I : ax_H} {Q : Int → ax_H → Prop} {k i : Int} (hg : gd (I 86)) (hk : ax_R k) (hi : ax_R i) (h : ∀ I', Mf [88] I I' → Q (r_fibre (I 86) k i) I') : cI (d + 5) kX11_fibre [ax_r 85, ax_i k, ax_i i] I Q := by
  have h0 := h I (Mf.rf _ I)
  unfold r_fibre at h h0
  refine vX11_fibre_0 ?_
  refine m_isCoordinate hk (fun h2 => b1 ?_) (fun h2 => b0 ?_)
  · simp only [if_pos h2] at h
    exact m_nth hg hk hi h
  · rw [if_neg h2] at h0; exact h0
theorem z_base {d : Nat} {I : ax_H} {Q : Int → ax_H → Prop} {i : Int} (hg : gd (I 86)) (hi : ax_R i) (h : ∀ I', Mf [88] I I' → Q (r_nth (I 86) (-6) i) I') : cI (d + 5) kX11_base [ax_r 85, ax_i i] I Q :=
  vX11_base_0 (m_nth hg (by decide) hi h)
theorem m_rank15 {d : Nat} {Q : Int → ax_H → Prop} {i : Int} : ∀ (n : Nat) (k : Int) (I : ax_H), k = 32 - n → n ≤ 32 → (∀ s, 0 ≤ s → s < k → I 89 s = 0) →
    (∀ I', Mf [89] I I' → (∀ s, co s → I' 89 s = 0) → RI (d + 4) kX11_rank 36 [some (ax_r 85), some (ax_i i), some (ax_i 0), none, none] I' Q) →
    RI (d + 4) kX11_rank 15 [some (ax_r 85), some (ax_i i), some (ax_i k), none, none] I Q := by
  intro n
  induction n with
  | zero =>
    intro k I hk _ hA hQ
    exact vX11_rank_15 ⟨by omega, by omega⟩ ⟨fun _ => hQ I (Mf.rf _ I) (fun s hs => hA s hs.1 (by omega)), fun c => absurd (by omega) c⟩
  | succ n ih =>
    intro k I hk hn hA hQ
    refine vX11_rank_15 ⟨by omega, by omega⟩ ⟨fun c => absurd c (by omega), fun _ => ⟨by omega, ?_⟩⟩
    refine ih (k + 1) _ (by omega) (by omega) (fun s h1 h2 => ?_) (fun I' hf hs => hQ I' ((Mf.st (by decide)).trans hf) hs)
    rw [st_at]
    split
    · rfl
    · exact hA s h1 (by omega)
theorem m_rank36 {d : Nat} {g : Int → Int} {Q : Int → ax_H → Prop} {i : Int} : ∀ (m n : Nat) (I : ax_H), n + m = 1024 → (∀ s, spt s → I 88 s = kq g s) → (∀ k, co k → I 89 k = sm (ik g k) n) →
    (∀ I', Mf [89] I I' → (∀ k, co k → I' 89 k = fz g k) → RI (d + 4) kX11_rank 77 [some (ax_r 85), some (ax_i i), some (ax_i 0), none, none] I' Q) →
    RI (d + 4) kX11_rank 36 [some (ax_r 85), some (ax_i i), some (ax_i (n : Int)), none, none] I Q := by
  intro m
  induction m with
  | zero =>
    intro n I hm h8 h9 hQ
    obtain rfl : n = 1024 := by omega
    exact vX11_rank_36 (by decide) ⟨fun _ => hQ I (Mf.rf _ I) h9, fun c => absurd (by decide) c⟩
  | succ m ih =>
    intro n I hm h8 h9 hQ
    have e := h8 n ⟨by omega, by omega⟩
    have hc := kq_co g (n : Int)
    have nx : (n : Int) + 1 = ((n + 1 : Nat) : Int) := by omega
    have sp : ∀ k, sm (ik g k) (n + 1) = sm (ik g k) n + (if kq g (n : Int) = k then 1 else 0) := fun k => rfl
    refine vX11_rank_36 ⟨by omega, by omega⟩ ⟨fun c => absurd c (by omega), fun _ => ⟨by omega, ?_⟩⟩
    rw [e, nx]
    refine ⟨fun c => ?_, fun c => ⟨by omega, ?_, ?_⟩⟩
    · refine ih (n + 1) I (by omega) h8 (fun k hk => ?_) hQ
      rw [h9 k hk, sp, if_neg (by omega)]; omega
    · rw [h9 _ (by omega)]
      have := sm_bd (f := ik g (kq g (n : Int))) (fun _ => ik_bd _ _ _) n
      exact ⟨by omega, by omega⟩
    · refine ih (n + 1) _ (by omega) (fun s hs => by rw [st_cell (by decide)]; exact h8 s hs) (fun k hk => ?_) (fun I' hf hs => hQ I' ((Mf.st (by decide)).trans hf) hs)
      rw [st_at, sp]
      by_cases e2 : k = kq g (n : Int)
      · rw [if_pos e2, if_pos e2.symm, ← e2, h9 k hk]
      · rw [if_neg e2, if_neg (fun q => e2 q.symm), h9 k hk]; omega
theorem m_rank88 {d : Nat} {z : Int → Int} {I : ax_H} {Q : Int → ax_H → Prop} {i k : Int} (hz : ∀ k, co k → I 89 k = z k) (hi : ax_R i) (hk : 0 ≤ k ∧ k < 32) (he : ah z k 32 = i → Q k I) (hn : ah z k 32 ≠ i → RI (d + 4) kX11_rank 77 [some (ax_r 85), some (ax_i i), some (ax_i (k + 1)), none, none] I Q) : ∀ (m n : Nat), n + m = 32 →
    RI (d + 4) kX11_rank 88 [some (ax_r 85), some (ax_i i), some (ax_i k), some (ax_i (ah z k n)), some (ax_i (n : Int))] I Q := by
  intro m
  induction m with
  | zero =>
    intro n hm
    obtain rfl : n = 32 := by omega
    have b := ah_bd z k 32
    exact vX11_rank_88 hi ⟨by omega, by omega⟩ ⟨by omega, by omega⟩ (by decide) ⟨fun _ => ⟨fun c => hn c, fun c => he c⟩, fun c => absurd (by decide) c⟩
  | succ m ih =>
    intro n hm
    have b := ah_bd z k n
    have e1 := hz n ⟨by omega, by omega⟩
    have e2 := hz k ⟨by omega, by omega⟩
    have hnx := ih (n + 1) (by omega)
    have up : (z k < z n ∨ (z n = z k ∧ (n : Int) < k)) → ∀ y, y = ah z k n + 1 → RI (d + 4) kX11_rank 88 [some (ax_r 85), some (ax_i i), some (ax_i k), some (ax_i y), some (ax_i ((n : Int) + 1))] I Q := by
      intro h y hy
      have e : ah z k (n + 1) = y := by show ah z k n + _ = y; rw [if_pos h, hy]
      rw [e] at hnx; exact hnx
    have no : ¬ (z k < z n ∨ (z n = z k ∧ (n : Int) < k)) → ∀ y, y = ah z k n + 0 → RI (d + 4) kX11_rank 88 [some (ax_r 85), some (ax_i i), some (ax_i k), some (ax_i y), some (ax_i ((n : Int) + 1))] I Q := by
      intro h y hy
      have e : ah z k (n + 1) = y := by show ah z k n + _ = y; rw [if_neg h, hy]
      rw [e] at hnx; exact hnx
    refine vX11_rank_88 hi ⟨by omega, by omega⟩ ⟨by omega, by omega⟩ ⟨by omega, by omega⟩ ⟨fun c => absurd c (by omega), fun _ => ⟨by omega, by omega, ?_, ?_⟩⟩
    · rw [e1, e2]
      exact fun c => up (by omega)
    · rw [e1, e2]
      exact fun c => ⟨fun c2 => no (by omega), fun c2 => ⟨fun c3 => no (by omega), fun c3 => up (by omega)⟩⟩
theorem m_rank77 {d : Nat} {z : Int → Int} {I : ax_H} {Q : Int → ax_H → Prop} {i : Int} (hz : ∀ k, co k → I 89 k = z k) (hi : ax_R i) : ∀ (n : Nat) (k : Int), k = 32 - n → n ≤ 32 → Q (rkl z i n k) I →
    RI (d + 4) kX11_rank 77 [some (ax_r 85), some (ax_i i), some (ax_i k), none, none] I Q := by
  intro n
  induction n with
  | zero =>
    intro k hk _ h
    exact vX11_rank_77 ⟨by omega, by omega⟩ ⟨fun _ => h, fun c => absurd (by omega) c⟩
  | succ n ih =>
    intro k hk hn h
    unfold rkl at h
    refine vX11_rank_77 ⟨by omega, by omega⟩ ⟨fun c => absurd c (by omega), fun _ => ?_⟩
    refine m_rank88 hz hi ⟨by omega, by omega⟩ (fun c => ?_) (fun c => ?_) 32 0 (by omega)
    · rw [if_pos c] at h; exact h
    · rw [if_neg c] at h; exact ih (k + 1) (by omega) (by omega) h
theorem z_rank {d : Nat} {I : ax_H} {Q : Int → ax_H → Prop} {i : Int} (hg : gd (I 86)) (hi : ax_R i) (h : ∀ I', Mf [88, 89] I I' → Q (r_rank (I 86) i) I') : cI (d + 4) kX11_rank [ax_r 85, ax_i i] I Q := by
  have h0 := h I (Mf.rf _ I)
  unfold r_rank at h h0
  refine vX11_rank_0 ?_
  refine m_isCoordinate hi (fun h2 => n1 ?_) (fun h2 => n0 ?_)
  · simp only [if_pos h2] at h
    refine m_findsKept hg (fun I1 f1 k1 => ?_)
    refine m_rank15 32 0 I1 (by omega) (by omega) (fun s h1 h2 => absurd h2 (by omega)) (fun I2 f2 k2 => ?_)
    refine m_rank36 (g := I 86) 1024 0 I2 (by omega) (fun s hs => by rw [f2 88 (by decide)]; exact k1 s hs) (fun k hk => k2 k hk) (fun I3 f3 k3 => ?_)
    exact m_rank77 k3 hi 32 0 (by omega) (by omega) (h I3 (((f1.mono (by decide)).trans (f2.mono (by decide))).trans (f3.mono (by decide))))
  · rw [if_neg h2] at h0; exact h0
