/-! the reference's forget and told; the class's tell, forget, told -/
theorem m_forget46 {d : Nat} {I0 : ax_H} {Q : Int → ax_H → Prop} {s c n : Int} (hok : okS (rp I0) n) (hc : 0 ≤ c ∧ c < n) (he : rp I0 c = s)
    (hQ : ∀ I', Tf I0 I' → I' 86 18 = n - 1 → okS (rp I') (I' 86 18) → (∀ x, mem (rp I') (I' 86 18) x ↔ mem (rp I0) n x ∧ x ≠ s) → Q (n - 1) I') : ∀ (m : Nat) (k : Int) (I : ax_H), k = n - 1 - m → c ≤ k → (∀ b, b ≠ 86 → I b = I0 b) → I 86 18 = n - 1 → (∀ i, i < 18 ∨ 31 ≤ i → I 86 i = I0 86 i) → (∀ i, 0 ≤ i → i < k → I 86 (19 + i) = delAt (rp I0) c i) → (∀ i, k ≤ i → i < n → I 86 (19 + i) = rp I0 i) →
    RI (d + 3) kX11_forget 46 [some (ax_r 85), none, none, none, some (ax_i k)] I Q := by
  intro m
  have b := hok.1
  induction m with
  | zero =>
    intro k I hk hkn h1 h2 h3 h4 h5
    refine vX11_forget_46 ⟨by omega, by omega⟩ ⟨fun _ => ⟨by omega, ?_⟩, fun c => absurd (by omega) c⟩
    rw [h2]
    have e1 : (ax_st I 86 (19 + (n - 1)) 0) 86 18 = n - 1 := by rw [st_ne (Or.inr (by omega)), h2]
    have pl : ∀ i, 0 ≤ i → i < n - 1 → rp (ax_st I 86 (19 + (n - 1)) 0) i = delAt (rp I0) c i := by
      intro i i0 i1
      unfold rp
      rw [st_ne (Or.inr (by omega))]
      exact h4 i i0 (by omega)
    have r := okS_del hok hc he pl
    rw [e1]
    refine hQ _ ⟨fun b q => by rw [st_cell q, h1 b q], fun i hi => ?_⟩ e1 ?_ ?_
    · rw [st_ne (Or.inr (by omega))]; exact h3 i hi
    · rw [e1]; exact r.1
    · rw [e1]; exact r.2
  | succ m ih =>
    intro k I hk hkn h1 h2 h3 h4 h5
    have e := h5 (k + 1) (by omega) (by omega)
    rw [show 19 + (k + 1) = 19 + k + 1 by omega] at e
    refine vX11_forget_46 ⟨by omega, by omega⟩ ⟨fun c => absurd c (by omega), fun _ => ⟨by omega, by omega, ?_⟩⟩
    refine ih (k + 1) _ (by omega) (by omega) (fun b q => by rw [st_cell q, h1 b q]) (by rw [st_ne (Or.inr (by omega)), h2]) (fun i hi => ?_) (fun i i0 i1 => ?_) (fun i i0 i1 => ?_)
    · rw [st_ne (Or.inr (by omega))]; exact h3 i hi
    · rw [st_at]
      split
      · obtain rfl : i = k := by omega
        rw [e]
        unfold delAt
        rw [if_neg (by omega)]
      · exact h4 i i0 (by omega)
    · rw [st_ne (Or.inr (by omega))]; exact h5 i (by omega) i1
theorem z_forget {d : Nat} {I : ax_H} {Q : Int → ax_H → Prop} {x y : Int} (hx : ax_R x) (hy : ax_R y) (hok : okS (rp I) (I 86 18))
    (h1 : ¬ (co x ∧ co y) → Q (-1) I) (h3 : co x ∧ co y → ¬ mem (rp I) (I 86 18) (x * 32 + y) → Q (-3) I)
    (hQ : ∀ I', co x ∧ co y → mem (rp I) (I 86 18) (x * 32 + y) → Tf I I' → I' 86 18 = I 86 18 - 1 → okS (rp I') (I' 86 18) → (∀ z, mem (rp I') (I' 86 18) z ↔ mem (rp I) (I 86 18) z ∧ z ≠ x * 32 + y) → Q (I 86 18 - 1) I') : cI (d + 3) kX11_forget [ax_r 85, ax_i x, ax_i y] I Q := by
  have b := hok.1
  refine vX11_forget_0 ?_
  refine m_isSpot hx hy (fun hc => n1 ?_) (fun hc => n0 (h1 hc))
  intro s es
  have e : s = x * 32 + y := by omega
  subst e
  have hsR : ax_R (x * 32 + y) := ⟨by omega, by omega⟩
  refine m_isTold hsR hok (fun hm => n1 ⟨⟨by omega, by omega⟩, ?_⟩) (fun hm => n0 (h3 hc hm))
  obtain ⟨c, c0, c1, c2⟩ := hm
  have er : ∀ i, 0 ≤ i → rp (ax_st I 86 18 (I 86 18 - 1)) i = rp I i := fun i i0 => by unfold rp; rw [st_ne (Or.inr (by omega))]
  refine m_placeIn hsR (by rw [st_same]; omega) (fun i j i0 i1 i2 => ?_) (fun c' c0' c1' hlo hhi => ?_)
  · rw [st_same] at i2
    rw [er i i0, er j (by omega)]
    exact hok.2.1 i j i0 i1 (by omega)
  · rw [st_same] at c1' hhi
    have ec : c' = c := by
      rcases Int.lt_trichotomy c' c with q | q | q
      · have a1 := hhi c' (Int.le_refl _) (by omega)
        rw [er c' c0'] at a1
        have a2 := hok.2.1 c' c c0' q c1
        omega
      · exact q
      · have a1 := hlo c c0 q
        rw [er c c0] at a1
        omega
    subst ec
    refine m_forget46 (I0 := I) (s := x * 32 + y) (c := c') (n := I 86 18) hok ⟨c0, c1⟩ c2 (fun I' a1 a2 a3 a4 => hQ I' hc ⟨c', c0, c1, c2⟩ a1 a2 a3 a4) (I 86 18 - 1 - c').toNat c' _ (by omega) (by omega) (fun b q => by rw [st_cell q]) (by rw [st_same]) (fun i hi => by rw [st_ne (Or.inr (by omega))]) (fun i i0 i1 => ?_) (fun i i0 i1 => ?_)
    · rw [st_ne (Or.inr (by omega))]; unfold delAt; rw [if_pos i1]; rfl
    · rw [st_ne (Or.inr (by omega))]; rfl
theorem z_told {d : Nat} {I : ax_H} {Q : Int → ax_H → Prop} {i : Int} (hi : ax_R i) (hok : okS (rp I) (I 86 18)) (h : Q (if 0 ≤ i ∧ i < I 86 18 then rp I i else -5) I) : cI (d + 1) kX11_told [ax_r 85, ax_i i] I Q := by
  have b := hok.1
  refine vX11_told_0 hi ⟨⟨by omega, by omega⟩, ?_⟩
  refine m_in (R8_of hi) (by decide) (R8_of ⟨by omega, by omega⟩) (fun c => b1 ⟨by omega, ?_⟩) (fun c => b0 ?_)
  · rw [if_pos (by omega)] at h; exact h
  · rw [if_neg (by omega)] at h; exact h
theorem a_tell {d : Nat} {I : ax_H} {Q : Int → ax_H → Prop} {x y : Int} (hx : ax_R x) (hy : ax_R y) (hok : okS (I 64) (I 63 1))
    (h1 : ¬ (co x ∧ co y) → Q (-1) I) (h3 : co x ∧ co y → mem (I 64) (I 63 1) (x * 32 + y) → Q (-3) I) (h4 : co x ∧ co y → ¬ mem (I 64) (I 63 1) (x * 32 + y) → I 63 1 = 12 → Q (-4) I)
    (hQ : ∀ I', co x ∧ co y → ¬ mem (I 64) (I 63 1) (x * 32 + y) → I 63 1 < 12 → Sf 63 I I' → I' 63 1 = I 63 1 + 1 → okS (I' 64) (I' 63 1) → (∀ z, mem (I' 64) (I' 63 1) z ↔ mem (I 64) (I 63 1) z ∨ z = x * 32 + y) → Q (I 63 1 + 1) I') : cI (d + 2) kX10_tell [ax_r 0, ax_i x, ax_i y] I Q := by
  have b := hok.1
  have isp : isSp 63 := ⟨rfl, rfl⟩
  refine vX10_tell_0 ?_
  refine c_isSpot hx hy (fun hc => n1 ?_) (fun hc => n0 (h1 hc))
  have hsp : spt (x * 32 + y) := by omega
  have hsR : ax_R (x * 32 + y) := ⟨by omega, by omega⟩
  refine c_holds isp hsR b (fun hm => b1 (h3 hc hm)) (fun hm => b0 ?_)
  refine c_isFull isp b (fun q => b1 (h4 hc hm q)) (fun q => b0 ?_)
  refine c_add isp hsp hok q (fun hm2 => absurd hm2 hm) (fun I' a1 a2 a3 a4 a5 => ?_)
  rw [a3]
  exact hQ I' hc hm q a1 a3 a4 a5
theorem a_forget {d : Nat} {I : ax_H} {Q : Int → ax_H → Prop} {x y : Int} (hx : ax_R x) (hy : ax_R y) (hok : okS (I 64) (I 63 1))
    (h1 : ¬ (co x ∧ co y) → Q (-1) I) (h3 : co x ∧ co y → ¬ mem (I 64) (I 63 1) (x * 32 + y) → Q (-3) I)
    (hQ : ∀ I', co x ∧ co y → mem (I 64) (I 63 1) (x * 32 + y) → Sf 63 I I' → I' 63 1 = I 63 1 - 1 → okS (I' 64) (I' 63 1) → (∀ z, mem (I' 64) (I' 63 1) z ↔ mem (I 64) (I 63 1) z ∧ z ≠ x * 32 + y) → Q (I 63 1 - 1) I') : cI (d + 2) kX10_forget [ax_r 0, ax_i x, ax_i y] I Q := by
  have b := hok.1
  have isp : isSp 63 := ⟨rfl, rfl⟩
  refine vX10_forget_0 ?_
  refine c_isSpot hx hy (fun hc => n1 ?_) (fun hc => n0 (h1 hc))
  have hsp : spt (x * 32 + y) := by omega
  have hsR : ax_R (x * 32 + y) := ⟨by omega, by omega⟩
  refine c_holds isp hsR b (fun hm => n1 ?_) (fun hm => n0 (h3 hc hm))
  refine c_remove isp hsp hok hm (fun I' a1 a3 a4 a5 => ?_)
  rw [a3]
  exact hQ I' hc hm a1 a3 a4 a5
theorem a_told {d : Nat} {I : ax_H} {Q : Int → ax_H → Prop} {i : Int} (hi : ax_R i) (hok : okS (I 64) (I 63 1)) (h : Q (if 0 ≤ i ∧ i < I 63 1 then I 64 i else -5) I) : cI (d + 1) kX10_told [ax_r 0, ax_i i] I Q := by
  refine vX10_told_0 ?_
  exact c_spotAt (a := 63) ⟨rfl, rfl⟩ hi hok.1 h
