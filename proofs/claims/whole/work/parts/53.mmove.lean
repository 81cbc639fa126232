/-! the reference's move -/
theorem m_move38 {d : Nat} {I0 : ax_H} {p : Int → Int} {n : Int} {Q : Int → ax_H → Prop} (hok : okS p n)
    (hQ : ∀ I', (∀ b, b ≠ 86 → I' b = I0 b) → (∀ k, (k < 18 ∨ 31 ≤ k) → I' 86 k = I0 86 k) → I' 86 18 = n → (∀ k, 0 ≤ k → k < n → rp I' k = p k) → Q n I') (hfl : ∀ t, spt t → (I0 112 t ≠ 0 ↔ mem p n t)) : ∀ (m : Nat) (c s : Int) (I : ax_H), s = 1024 - m → m ≤ 1024 → 0 ≤ c → c ≤ n → (∀ b, b ≠ 86 → I b = I0 b) → (∀ k, (k < 18 ∨ 31 ≤ k) → I 86 k = I0 86 k) → I 86 18 = c → (∀ k, 0 ≤ k → k < c → rp I k = p k) → (∀ k, 0 ≤ k → k < c → p k < s) → (∀ k, c ≤ k → k < n → s ≤ p k) →
    RI (d + 7) kX11_move 38 [some (ax_r 85), some (ax_i s)] I Q := by
  have hb := hok.1
  intro m
  induction m with
  | zero =>
    intro c s I hs _ c0 c1 hf h86 h18 hr hlo hhi
    have e : c = n := by
      rcases Int.lt_or_le c n with q | q
      · have a1 := hhi c (Int.le_refl _) q
        have a2 := hok.2.2 c c0 q
        omega
      · omega
    subst e
    refine vX11_move_38 ⟨by omega, by omega⟩ ⟨fun _ => ?_, fun q => absurd (by omega) q⟩
    rw [h18]
    exact hQ I hf h86 h18 hr
  | succ m ih =>
    intro c s I hs hm c0 c1 hf h86 h18 hr hlo hhi
    have e112 := hf 112 (by decide)
    have fl := hfl s ⟨by omega, by omega⟩
    refine vX11_move_38 ⟨by omega, by omega⟩ ⟨fun q => absurd q (by omega), fun _ => ⟨by omega, fun q => ?_, fun q => ?_⟩⟩
    · rw [e112] at q
      refine ih c (s + 1) I (by omega) (by omega) c0 c1 hf h86 h18 hr (fun k k0 k1 => by have := hlo k k0 k1; omega) (fun k k0 k1 => ?_)
      have a1 := hhi k k0 k1
      have a2 : p k ≠ s := fun r => absurd q (fl.2 ⟨k, by omega, k1, r⟩)
      omega
    · rw [e112] at q
      obtain ⟨j, j0, j1, j2⟩ := fl.1 q
      have ej : j = c := by
        rcases Int.lt_trichotomy j c with r | r | r
        · have := hlo j j0 r; omega
        · exact r
        · have a1 := hok.2.1 c j c0 r j1
          have a2 := hhi c (Int.le_refl _) (by omega)
          omega
      subst ej
      have e1 : (ax_st I 86 (19 + j) s) 86 18 = j := by rw [st_ne (Or.inr (by omega)), h18]
      rw [h18, e1]
      refine ⟨by omega, ⟨by omega, by omega⟩, ?_⟩
      refine ih (j + 1) (s + 1) _ (by omega) (by omega) (by omega) (by omega) (fun b q => by rw [st_cell q, st_cell q, hf b q]) (fun k hk => by rw [st_ne (Or.inr (by omega)), st_ne (Or.inr (by omega)), h86 k hk]) (st_same _ _ _ _) (fun k k0 k1 => ?_) (fun k k0 k1 => ?_) (fun k k0 k1 => ?_)
      · unfold rp
        rw [st_ne (Or.inr (by omega)), st_at]
        split
        · rw [show k = j by omega, j2]
        · exact hr k k0 (by omega)
      · rcases Int.lt_or_le k j with r | r
        · have := hlo k k0 r; omega
        · rw [show k = j by omega]; omega
      · have := hok.2.1 j k j0 (by omega) k1; omega
theorem m_move6 {d : Nat} {I0 : ax_H} {Q : Int → ax_H → Prop} (hQ : ∀ I', (∀ b, b ≠ 86 → I' b = I0 b) → (∀ k, (k < 18 ∨ 31 ≤ k) → I' 86 k = I0 86 k) → I' 86 18 = 0 → RI (d + 7) kX11_move 38 [some (ax_r 85), some (ax_i 0)] I' Q) : ∀ (m : Nat) (k : Int) (I : ax_H), k = 12 - m → m ≤ 12 → (∀ b, b ≠ 86 → I b = I0 b) → (∀ k, (k < 18 ∨ 31 ≤ k) → I 86 k = I0 86 k) →
    RI (d + 7) kX11_move 6 [some (ax_r 85), some (ax_i k)] I Q := by
  intro m
  induction m with
  | zero =>
    intro k I hk _ hf h86
    exact vX11_move_6 ⟨by omega, by omega⟩ ⟨fun _ => hQ _ (fun b q => by rw [st_cell q, hf b q]) (fun k hk => by rw [st_ne (Or.inr (by omega)), h86 k hk]) (st_same _ _ _ _), fun c => absurd (by omega) c⟩
  | succ m ih =>
    intro k I hk hm hf h86
    refine vX11_move_6 ⟨by omega, by omega⟩ ⟨fun c => absurd c (by omega), fun _ => ⟨by omega, ?_⟩⟩
    exact ih (k + 1) _ (by omega) (by omega) (fun b q => by rw [st_cell q, hf b q]) (fun k hk => by rw [st_ne (Or.inr (by omega)), h86 k hk])
theorem z_move {d : Nat} {I : ax_H} {p : Int → Int} {n : Int} {Q : Int → ax_H → Prop} (hg : gd (I 86)) (hok : okS (rp I) (I 86 18)) (hP : okS p n) (hp : ∀ t, mem p n t ↔ mvd (I 86) (rp I) (I 86 18) t)
    (hQ : ∀ I', Mf [86, 112] I I' → (∀ k, (k < 18 ∨ 31 ≤ k) → I' 86 k = I 86 k) → I' 86 18 = n → (∀ k, 0 ≤ k → k < n → rp I' k = p k) → Q n I') : cI (d + 7) kX11_move [ax_r 85] I Q := by
  refine vX11_move_0 ?_
  refine m_moves hg hok (fun I1 f1 k1 => ?_)
  have w : ∀ b, b ≠ 112 → I1 b = I b := fun b h => f1 b (fun q => h (List.mem_singleton.1 q))
  refine m_move6 (I0 := I1) (fun I2 f2 g2 s2 => ?_) 12 0 I1 (by omega) (by omega) (fun _ _ => rfl) (fun _ _ => rfl)
  refine m_move38 (I0 := I1) (p := p) (n := n) hP (fun I' f' g' s' r' => hQ I' (fun b hb => ?_) (fun k hk => by rw [g' k hk, w 86 (by decide)]) s' r') (fun t ht => ?_) 1024 0 0 I2 (by omega) (by omega) (by omega) hP.1.1 f2 g2 s2 (fun k k0 k1 => absurd k1 (by omega)) (fun k k0 k1 => absurd k1 (by omega)) (fun k k0 k1 => (hP.2.2 k k0 k1).1)
  · simp only [List.mem_cons, List.not_mem_nil, or_false, not_or] at hb
    rw [f' b hb.1, w b hb.2]
  · rw [k1 t ht, hp t]
