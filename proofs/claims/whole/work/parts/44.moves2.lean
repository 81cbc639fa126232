theorem m_moves2 {d : Nat} {Q : ax_H → Prop} : ∀ (n : Nat) (k : Int) (I : ax_H), k = 1024 - n → n ≤ 1024 → (∀ s, 0 ≤ s → s < k → I 112 s = 0) →
    (∀ I', Mf [112] I I' → (∀ s, spt s → I' 112 s = 0) → RV (d + 6) kX11_moves 24 [some (ax_r 85), some (ax_i 0), none] I' Q) →
    RV (d + 6) kX11_moves 2 [some (ax_r 85), some (ax_i k), none] I Q := by
  intro n
  induction n with
  | zero =>
    intro k I hk _ hA hQ
    exact vX11_moves_2 ⟨by omega, by omega⟩ ⟨fun _ => hQ I (Mf.rf _ I) (fun s hs => hA s hs.1 (by omega)), fun c => absurd (by omega) c⟩
  | succ n ih =>
    intro k I hk hn hA hQ
    refine vX11_moves_2 ⟨by omega, by omega⟩ ⟨fun c => absurd c (by omega), fun _ => ⟨by omega, ?_⟩⟩
    refine ih (k + 1) _ (by omega) (by omega) (fun s h1 h2 => ?_) (fun I' hf hs => hQ I' ((Mf.st (by decide)).trans hf) hs)
    rw [st_at]
    split
    · rfl
    · exact hA s h1 (by omega)
theorem m_moves {d : Nat} {I : ax_H} {Q : ax_H → Prop} (hg : gd (I 86)) (hok : okS (rp I) (I 86 18)) (hQ : ∀ I', Mf [112] I I' → (∀ t, spt t → (I' 112 t ≠ 0 ↔ mvd (I 86) (rp I) (I 86 18) t)) → Q I') : cV (d + 6) kX11_moves [ax_r 85] I Q := by
  refine vX11_moves_0 ?_
  refine m_moves2 1024 0 I (by omega) (by omega) (fun s h1 h2 => absurd h2 (by omega)) (fun I1 f1 k1 => ?_)
  have e6 := f1 86 (by decide)
  have hb := hok.1
  refine m_moves24 (g := I 86) (p := rp I) (n := I 86 18) hg hb hok.2.2 (I 86 18).toNat 0 I1 (by omega) (by omega) e6 (by rw [e6]) (fun i i0 i1 => by unfold rp; rw [e6]) (fun t ht => ?_) (fun I2 f2 k2 => hQ I2 (f1.trans f2) k2)
  rw [k1 t ht]
  exact ⟨fun c => absurd rfl c, fun ⟨_, k, k0, k1, _⟩ => absurd k1 (by omega)⟩
def fl (I : ax_H) (a : Nat) (s : Int) : Int := if I a s = 0 then 0 else 1
theorem m_moved8 {d : Nat} {I : ax_H} {Q : Int → ax_H → Prop} {i : Int} (hi : ax_R i) : ∀ (n : Nat) (m s : Int), s = 1024 - n → n ≤ 1024 → 0 ≤ m → m ≤ s → Q (nl (fl I 112) 1 i n m s) I →
    RI (d + 7) kX11_moved 8 [some (ax_r 85), some (ax_i i), some (ax_i m), some (ax_i s)] I Q := by
  intro n
  induction n with
  | zero =>
    intro m s hs _ h0 h1 h
    unfold nl at h
    refine vX11_moved_8 hi ⟨by omega, by omega⟩ ⟨by omega, by omega⟩ ⟨fun _ => ⟨fun c => ?_, fun c => ?_⟩, fun c => absurd (by omega) c⟩
    · rw [if_neg c] at h; exact h
    · rw [if_pos c] at h; exact h
  | succ n ih =>
    intro m s hs hn h0 h1 h
    unfold nl at h
    have f0 : I 112 s = 0 → ¬ fl I 112 s = 1 := fun c => by unfold fl; rw [if_pos c]; decide
    have f1 : ¬ I 112 s = 0 → fl I 112 s = 1 := fun c => by unfold fl; rw [if_neg c]
    refine vX11_moved_8 hi ⟨by omega, by omega⟩ ⟨by omega, by omega⟩ ⟨fun c => absurd c (by omega), fun _ => ⟨by omega, fun c => ?_, fun c => ⟨fun c2 => ?_, fun c2 => ?_⟩⟩⟩
    · rw [if_neg (f0 c)] at h
      exact ih m (s + 1) (by omega) (by omega) h0 (by omega) h
    · rw [if_pos (f1 c), if_neg c2] at h
      exact ih (m + 1) (s + 1) (by omega) (by omega) (by omega) (by omega) h
    · rw [if_pos (f1 c), if_pos c2] at h
      exact h
theorem z_moved {d : Nat} {I : ax_H} {Q : Int → ax_H → Prop} {i : Int} (hi : ax_R i) (hg : gd (I 86)) (hok : okS (rp I) (I 86 18))
    (h : ∀ I', Mf [112] I I' → (∀ t, spt t → (fl I' 112 t = 1 ↔ mvd (I 86) (rp I) (I 86 18) t)) → Q (nl (fl I' 112) 1 i 1024 0 0) I') : cI (d + 7) kX11_moved [ax_r 85, ax_i i] I Q := by
  refine vX11_moved_0 ?_
  refine m_moves hg hok (fun I' f k => ?_)
  refine m_moved8 hi 1024 0 0 (by omega) (by omega) (by omega) (by omega) (h I' f (fun t ht => ?_))
  rw [← k t ht]
  unfold fl
  split
  · rename_i q; rw [q]; exact ⟨fun c => absurd c (by decide), fun c => absurd rfl c⟩
  · rename_i q; exact ⟨fun _ => q, fun _ => rfl⟩
