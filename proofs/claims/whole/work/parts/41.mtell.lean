/-! the reference's told spots -/
def rp (I : ax_H) (k : Int) : Int := I 86 (19 + k)
def Tf (I I' : ax_H) : Prop := (∀ b, b ≠ 86 → I' b = I b) ∧ ∀ k, (k < 18 ∨ 31 ≤ k) → I' 86 k = I 86 k
theorem m_placeIn_loop {d : Nat} {I : ax_H} {Q : Int → ax_H → Prop} {s : Int} (hs : ax_R s) (hn : 0 ≤ I 86 18 ∧ I 86 18 ≤ 12) (hsr : srt (rp I) (I 86 18)) (hQ : ∀ c, 0 ≤ c → c ≤ I 86 18 → (∀ k, 0 ≤ k → k < c → rp I k < s) → (∀ k, c ≤ k → k < I 86 18 → s ≤ rp I k) → Q c I) : ∀ (m : Nat) (k : Int), k = I 86 18 - m → (m : Int) ≤ I 86 18 → (∀ i, 0 ≤ i → i < k → rp I i < s) →
    RI d kX11_placeIn 2 [some (ax_r 85), some (ax_i s), some (ax_i k)] I Q := by
  intro m
  induction m with
  | zero =>
    intro k hk hm hA
    exact vX11_placeIn_2 hs ⟨by omega, by omega⟩ ⟨fun _ => hQ k (by omega) (by omega) hA (fun i i0 i1 => absurd i1 (by omega)), fun c => absurd (by omega) c⟩
  | succ m ih =>
    intro k hk hm hA
    refine vX11_placeIn_2 hs ⟨by omega, by omega⟩ ⟨fun c => absurd c (by omega), fun _ => ⟨by omega, fun c => ?_, fun c => ?_⟩⟩
    · refine hQ k (by omega) (by omega) hA (fun i i0 i1 => ?_)
      rcases Int.lt_or_le k i with q | q
      · have := hsr k i (by omega) q i1
        have e : rp I k = I 86 (19 + k) := rfl
        omega
      · rw [show i = k by omega]; exact c
    · refine ih (k + 1) (by omega) (by omega) (fun i i0 i1 => ?_)
      rcases Int.lt_or_le i k with q | q
      · exact hA i i0 q
      · rw [show i = k by omega]; show I 86 (19 + k) < s; omega
theorem m_placeIn {d : Nat} {I : ax_H} {Q : Int → ax_H → Prop} {s : Int} (hs : ax_R s) (hn : 0 ≤ I 86 18 ∧ I 86 18 ≤ 12) (hsr : srt (rp I) (I 86 18)) (hQ : ∀ c, 0 ≤ c → c ≤ I 86 18 → (∀ k, 0 ≤ k → k < c → rp I k < s) → (∀ k, c ≤ k → k < I 86 18 → s ≤ rp I k) → Q c I) : cI d kX11_placeIn [ax_r 85, ax_i s] I Q :=
  vX11_placeIn_0 (m_placeIn_loop hs hn hsr hQ (I 86 18).toNat 0 (by omega) (by omega) (fun i i0 i1 => absurd i1 (by omega)))
theorem m_isTold {d : Nat} {I : ax_H} {Q : Int → ax_H → Prop} {s : Int} (hs : ax_R s) (hok : okS (rp I) (I 86 18)) (h1 : mem (rp I) (I 86 18) s → Q 1 I) (h0 : ¬ mem (rp I) (I 86 18) s → Q 0 I) : cI (d + 1) kX11_isTold [ax_r 85, ax_i s] I Q := by
  have b := hok.1
  refine vX11_isTold_0 hs ?_
  refine m_placeIn hs b hok.2.1 (fun c c0 c1 hlo hhi => ⟨⟨by omega, by omega⟩, fun q => ?_, fun q => ⟨by omega, fun q2 => ?_, fun q2 => h1 ⟨c, c0, by omega, q2⟩⟩⟩)
  · refine h0 (fun ⟨k, k0, k1, k2⟩ => ?_)
    have := hlo k k0 (by omega)
    omega
  · refine h0 (fun ⟨k, k0, k1, k2⟩ => ?_)
    rcases Int.lt_trichotomy k c with q | q | q
    · have := hlo k k0 q; omega
    · exact q2 (q ▸ k2)
    · have h1 := hok.2.1 c k c0 q k1
      have h2 := hhi c (Int.le_refl _) (by omega)
      omega
theorem m_tell59 {d : Nat} {I0 : ax_H} {Q : Int → ax_H → Prop} {s c : Int} (hs : spt s) (hok : okS (rp I0) (I0 86 18)) (hn : I0 86 18 < 12) (hc : 0 ≤ c ∧ c ≤ I0 86 18) (hlo : ∀ k, 0 ≤ k → k < c → rp I0 k < s) (hhi : ∀ k, c ≤ k → k < I0 86 18 → s < rp I0 k)
    (hQ : ∀ I', Tf I0 I' → I' 86 18 = I0 86 18 + 1 → okS (rp I') (I' 86 18) → (∀ x, mem (rp I') (I' 86 18) x ↔ mem (rp I0) (I0 86 18) x ∨ x = s) → Q (I0 86 18 + 1) I') : ∀ (m : Nat) (k : Int) (I : ax_H), k = c + m → k ≤ I0 86 18 → (∀ b, b ≠ 86 → I b = I0 b) → (∀ i, i ≤ 19 + k → I 86 i = I0 86 i) → (∀ i, 31 ≤ i → I 86 i = I0 86 i) → (∀ i, k < i → i ≤ I0 86 18 → I 86 (19 + i) = rp I0 (i - 1)) →
    RI (d + 3) kX11_tell 59 [some (ax_r 85), none, none, some (ax_i s), some (ax_i c), some (ax_i k)] I Q := by
  intro m
  have b := hok.1
  induction m with
  | zero =>
    intro k I hk hkn h1 h2 h3 h4
    have e1 : (ax_st I 86 (19 + c) s) 86 18 = I0 86 18 := by rw [st_ne (Or.inr (by omega)), h2 18 (by omega)]
    refine vX11_tell_59 ⟨by omega, by omega⟩ ⟨by omega, by omega⟩ ⟨by omega, by omega⟩ ⟨fun _ => ⟨by omega, ⟨by omega, by omega⟩, ?_⟩, fun c => absurd (by omega) c⟩
    rw [e1, st_same]
    have pl : ∀ i, 0 ≤ i → i ≤ I0 86 18 → rp (ax_st (ax_st I 86 (19 + c) s) 86 18 (I0 86 18 + 1)) i = insAt (rp I0) c s i := by
      intro i i0 i1
      unfold rp
      rw [st_ne (Or.inr (by omega)), st_at]
      unfold insAt
      by_cases q : i = c
      · rw [if_pos (by omega), if_neg (by omega), if_pos q]
      · rw [if_neg (by omega), if_neg q]
        split
        · rw [h2 (19 + i) (by omega)]
        · rw [h4 i (by omega) i1]; rfl
    have r := okS_ins hok hn hs hc hlo hhi pl
    refine hQ _ ⟨fun b q => by rw [st_cell q, st_cell q, h1 b q], fun i hi => ?_⟩ (st_same _ _ _ _) ?_ ?_
    · rw [st_ne (Or.inr (by omega)), st_ne (Or.inr (by omega))]
      rcases hi with q | q
      · exact h2 i (by omega)
      · exact h3 i q
    · rw [st_same]; exact r.1
    · rw [st_same]; exact r.2
  | succ m ih =>
    intro k I hk hkn h1 h2 h3 h4
    refine vX11_tell_59 ⟨by omega, by omega⟩ ⟨by omega, by omega⟩ ⟨by omega, by omega⟩ ⟨fun c => absurd c (by omega), fun _ => ⟨by omega, by omega, ?_⟩⟩
    rw [show k + -1 = k - 1 by omega]
    have e := h2 (19 + k - 1) (by omega)
    refine ih (k - 1) _ (by omega) (by omega) (fun b q => by rw [st_cell q, h1 b q]) (fun i hi => ?_) (fun i hi => ?_) (fun i i0 i1 => ?_)
    · rw [st_ne (Or.inr (by omega))]; exact h2 i (by omega)
    · rw [st_ne (Or.inr (by omega))]; exact h3 i hi
    · rw [st_at]
      split
      · rw [e]; show _ = I0 86 (19 + (i - 1)); rw [show 19 + k - 1 = 19 + (i - 1) by omega]
      · exact h4 i (by omega) i1
theorem z_tell {d : Nat} {I : ax_H} {Q : Int → ax_H → Prop} {x y : Int} (hx : ax_R x) (hy : ax_R y) (hok : okS (rp I) (I 86 18))
    (h1 : ¬ (co x ∧ co y) → Q (-1) I) (h3 : co x ∧ co y → mem (rp I) (I 86 18) (x * 32 + y) → Q (-3) I) (h4 : co x ∧ co y → ¬ mem (rp I) (I 86 18) (x * 32 + y) → I 86 18 = 12 → Q (-4) I)
    (hQ : ∀ I', co x ∧ co y → ¬ mem (rp I) (I 86 18) (x * 32 + y) → I 86 18 < 12 → Tf I I' → I' 86 18 = I 86 18 + 1 → okS (rp I') (I' 86 18) → (∀ z, mem (rp I') (I' 86 18) z ↔ mem (rp I) (I 86 18) z ∨ z = x * 32 + y) → Q (I 86 18 + 1) I') : cI (d + 3) kX11_tell [ax_r 85, ax_i x, ax_i y] I Q := by
  have b := hok.1
  refine vX11_tell_0 ?_
  refine m_isSpot hx hy (fun hc => n1 ?_) (fun hc => n0 (h1 hc))
  intro s es
  have e : s = x * 32 + y := by omega
  subst e
  have hsp : spt (x * 32 + y) := by omega
  have hsR : ax_R (x * 32 + y) := ⟨by omega, by omega⟩
  refine m_isTold hsR hok (fun hm => b1 (h3 hc hm)) (fun hm => b0 ⟨fun q => ?_, fun q => h4 hc hm q⟩)
  refine m_placeIn hsR b hok.2.1 (fun c c0 c1 hlo hhi => ?_)
  refine m_tell59 (c := c) hsp hok (by omega) ⟨c0, c1⟩ hlo (fun k k0 k1 => ?_) (fun I' a1 a2 a3 a4 => hQ I' hc hm (by omega) a1 a2 a3 a4) (I 86 18 - c).toNat (I 86 18) I (by omega) (by omega) (fun _ _ => rfl) (fun _ _ => rfl) (fun _ _ => rfl) (fun i i0 i1 => absurd i1 (by omega))
  have q1 := hhi k k0 k1
  rcases Int.lt_or_le (x * 32 + y) (rp I k) with q2 | q2
  · exact q2
  · exact absurd ⟨k, by omega, k1, by omega⟩ hm
