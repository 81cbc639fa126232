/-! taking a spot out -/
def delAt (p : Int → Int) (c k : Int) : Int := if k < c then p k else p (k + 1)
theorem okS_del {p q : Int → Int} {n c s : Int} (h : okS p n) (hc : 0 ≤ c ∧ c < n) (hs : p c = s) (hq : ∀ k, 0 ≤ k → k < n - 1 → q k = delAt p c k) : okS q (n - 1) ∧ ∀ x, mem q (n - 1) x ↔ mem p n x ∧ x ≠ s := by
  have hsr := h.2.1
  refine ⟨⟨by have := h.1; omega, fun i j h0 h1 h2 => ?_, fun k h0 h1 => ?_⟩, fun x => ⟨?_, ?_⟩⟩
  · rw [hq i h0 (by omega), hq j (by omega) h2]
    unfold delAt
    split <;> split <;> first | exact hsr _ _ (by omega) (by omega) (by omega) | omega
  · rw [hq k h0 h1]
    unfold delAt
    split <;> exact h.2.2 _ (by omega) (by omega)
  · rintro ⟨k, k0, k1, k2⟩
    rw [hq k k0 k1] at k2
    unfold delAt at k2
    split at k2
    · exact ⟨⟨k, k0, by omega, k2⟩, by have := hsr k c k0 (by omega) (by omega); omega⟩
    · exact ⟨⟨k + 1, by omega, by omega, k2⟩, by have := hsr c (k + 1) (by omega) (by omega) (by omega); omega⟩
  · rintro ⟨⟨k, k0, k1, k2⟩, ne⟩
    have kc : k ≠ c := fun e => ne (by rw [← k2, e, hs])
    rcases Int.lt_or_le k c with q | q
    · refine ⟨k, k0, by omega, ?_⟩
      rw [hq k k0 (by omega)]
      unfold delAt
      rw [if_pos q]; exact k2
    · refine ⟨k - 1, by omega, by omega, ?_⟩
      rw [hq (k - 1) (by omega) (by omega)]
      unfold delAt
      rw [if_neg (by omega), show k - 1 + 1 = k by omega]; exact k2
theorem c_remove_loop {d a : Nat} {I0 : ax_H} {Q : ax_H → Prop} {s c : Int} (ha : isSp a) (hs : spt s) (hok : okS (I0 (a + 1)) (I0 a 1)) (hc : 0 ≤ c ∧ c < I0 a 1) (he : I0 (a + 1) c = s)
    (hQ : ∀ I', Sf a I0 I' → I' a 1 = I0 a 1 - 1 → okS (I' (a + 1)) (I' a 1) → (∀ x, mem (I' (a + 1)) (I' a 1) x ↔ mem (I0 (a + 1)) (I0 a 1) x ∧ x ≠ s) → Q I') : ∀ (m : Nat) (k k2 : Int) (I : ax_H), k = I0 a 1 - m → (m : Int) ≤ I0 a 1 → k2 = (if k ≤ c then k else k - 1) → (∀ b, b ≠ a + 1 → I b = I0 b) →
      (∀ i : Int, 0 ≤ i → i < k2 → I (a + 1) i = delAt (I0 (a + 1)) c i) → (∀ i : Int, k ≤ i → I (a + 1) i = I0 (a + 1) i) →
    RV d kX8_remove 4 [some (ax_r a), some (ax_i s), some (ax_i k2), some (ax_i k)] I Q := by
  intro m
  have b := hok.1
  have hna : a ≠ a + 1 := by omega
  induction m with
  | zero =>
    intro k k2 I hk _ hk2 h1 h2 h3
    have e1 : I a 1 = I0 a 1 := by rw [h1 a hna]
    rw [if_neg (by omega)] at hk2
    refine vX8_remove_4 ha ⟨by omega, by omega⟩ ⟨by omega, by omega⟩ ⟨by omega, by omega⟩ ⟨fun _ => ?_, fun c => absurd (by omega) c⟩
    have pl : ∀ i, 0 ≤ i → i < I0 a 1 - 1 → (ax_st I a 1 k2) (a + 1) i = delAt (I0 (a + 1)) c i := fun i i0 i1 => by
      rw [st_cell (by omega)]; exact h2 i i0 (by omega)
    have r := okS_del hok hc he pl
    have e2 : k2 = I0 a 1 - 1 := by omega
    refine hQ _ ⟨fun b q1 q2 => by rw [st_cell q1, h1 b q2], fun k hk => by rw [st_ne (Or.inr hk), h1 a hna]⟩ (by rw [st_same]; exact e2) ?_ ?_
    · rw [st_same, e2]; rw [e2] at r; exact r.1
    · rw [st_same, e2]; rw [e2] at r; exact r.2
  | succ m ih =>
    intro k k2 I hk hm hk2 h1 h2 h3
    have e1 : I a 1 = I0 a 1 := by rw [h1 a hna]
    have e3 := h3 k (by omega)
    refine vX8_remove_4 ha ⟨by omega, by omega⟩ ⟨by split at hk2 <;> omega, by split at hk2 <;> omega⟩ ⟨by omega, by omega⟩ ⟨fun c => absurd c (by omega), fun _ => ⟨fun c => absurd c (by omega), fun _ => ⟨by omega, fun c2 => ?_, fun c2 => ⟨fun c3 => absurd c3 (by split at hk2 <;> omega), fun _ => ⟨by split at hk2 <;> omega, ?_⟩⟩⟩⟩⟩
    · rw [e3] at c2
      have kc : k = c := by
        rcases Int.lt_trichotomy k c with q | q | q
        · have := hok.2.1 k c (by omega) q hc.2; omega
        · exact q
        · have := hok.2.1 c k hc.1 q (by omega); omega
      refine ih (k + 1) k2 I (by omega) (by omega) ?_ h1 h2 (fun i hi => h3 i (by omega))
      rw [if_pos (by omega)] at hk2
      rw [if_neg (by omega)]; omega
    · rw [e3] at c2
      have kc : k ≠ c := fun q => c2 (q ▸ he)
      rw [e3]
      refine ih (k + 1) (k2 + 1) _ (by omega) (by omega) (by split at hk2 <;> split <;> omega) (fun b q => by rw [st_cell q, h1 b q]) (fun i i0 i1 => ?_) (fun i hi => ?_)
      · rw [st_at]
        split
        · rename_i q
          rw [q]
          unfold delAt
          split at hk2
          · rw [if_pos (by omega), hk2]
          · rw [if_neg (by omega), hk2, show k - 1 + 1 = k by omega]
        · exact h2 i i0 (by omega)
      · rw [st_ne (Or.inr (by split at hk2 <;> omega))]
        exact h3 i (by omega)
theorem c_remove {d a : Nat} {I : ax_H} {Q : ax_H → Prop} {s : Int} (ha : isSp a) (hs : spt s) (hok : okS (I (a + 1)) (I a 1)) (hm : mem (I (a + 1)) (I a 1) s)
    (hQ : ∀ I', Sf a I I' → I' a 1 = I a 1 - 1 → okS (I' (a + 1)) (I' a 1) → (∀ x, mem (I' (a + 1)) (I' a 1) x ↔ mem (I (a + 1)) (I a 1) x ∧ x ≠ s) → Q I') : cV d kX8_remove [ax_r a, ax_i s] I Q := by
  obtain ⟨c, c0, c1, c2⟩ := hm
  have b := hok.1
  exact vX8_remove_0 ha (c_remove_loop ha hs hok ⟨c0, c1⟩ c2 hQ (I a 1).toNat 0 0 I (by omega) (by omega) (by rw [if_pos c0]) (fun _ _ => rfl) (fun i i0 i1 => absurd i1 (by omega)) (fun _ _ => rfl))
