/-! tell, forget, told -/
def okS (p : Int → Int) (n : Int) : Prop := (0 ≤ n ∧ n ≤ 12) ∧ srt p n ∧ ∀ k, 0 ≤ k → k < n → spt (p k)
def Sf (a : Nat) (I I' : ax_H) : Prop := (∀ b, b ≠ a → b ≠ a + 1 → I' b = I b) ∧ ∀ k, k ≠ 1 → I' a k = I a k
theorem okS_ins {p q : Int → Int} {n c s : Int} (h : okS p n) (hn : n < 12) (hs : spt s) (hc : 0 ≤ c ∧ c ≤ n) (hlo : ∀ k, 0 ≤ k → k < c → p k < s) (hhi : ∀ k, c ≤ k → k < n → s < p k) (hq : ∀ k, 0 ≤ k → k ≤ n → q k = insAt p c s k) : okS q (n + 1) ∧ ∀ x, mem q (n + 1) x ↔ mem p n x ∨ x = s := by
  have e := ins_srt h.2.1 hc hlo hhi
  refine ⟨⟨by have := h.1; omega, fun i j h0 h1 h2 => ?_, fun k h0 h1 => ?_⟩, fun x => ?_⟩
  · rw [hq i h0 (by omega), hq j (by omega) (by omega)]; exact e i j h0 h1 h2
  · rw [hq k h0 (by omega)]
    unfold insAt
    split
    · exact h.2.2 k h0 (by omega)
    · split
      · exact hs
      · exact h.2.2 (k - 1) (by omega) (by omega)
  · rw [mem_congr (fun k h0 h1 => hq k h0 (by omega)), ins_mem hc]
theorem c_add_loop {d a : Nat} {I0 : ax_H} {Q : ax_H → Prop} {s : Int} (ha : isSp a) (hs : spt s) (hok : okS (I0 (a + 1)) (I0 a 1)) (hn : I0 a 1 < 12) (hnm : ¬ mem (I0 (a + 1)) (I0 a 1) s)
    (hQ : ∀ I', Sf a I0 I' → I' a 1 = I0 a 1 + 1 → okS (I' (a + 1)) (I' a 1) → (∀ x, mem (I' (a + 1)) (I' a 1) x ↔ mem (I0 (a + 1)) (I0 a 1) x ∨ x = s) → Q I') : ∀ (n : Nat) (I : ax_H), (n : Int) ≤ I0 a 1 → (∀ b, b ≠ a + 1 → I b = I0 b) →
      (∀ k : Int, 0 ≤ k → k < n → I (a + 1) k = I0 (a + 1) k) → (∀ k : Int, (n : Int) < k → k ≤ I0 a 1 → I (a + 1) k = I0 (a + 1) (k - 1)) → (∀ k : Int, (n : Int) ≤ k → k < I0 a 1 → s < I0 (a + 1) k) →
    RV (d + 1) kX8_add 21 [some (ax_r a), some (ax_i s), some (ax_i (n : Int))] I Q := by
  intro n
  have fin : ∀ (n : Nat) (I : ax_H), (n : Int) ≤ I0 a 1 → (∀ b, b ≠ a + 1 → I b = I0 b) →
      (∀ k : Int, 0 ≤ k → k < n → I (a + 1) k = I0 (a + 1) k) → (∀ k : Int, (n : Int) < k → k ≤ I0 a 1 → I (a + 1) k = I0 (a + 1) (k - 1)) → (∀ k : Int, (n : Int) ≤ k → k < I0 a 1 → s < I0 (a + 1) k) → (∀ k : Int, 0 ≤ k → k < n → I0 (a + 1) k < s) →
      ((n : Int) < 0 → Q I) ∧ (¬ (n : Int) < 0 → (12 ≤ (n : Int) → Q I) ∧ (¬ 12 ≤ (n : Int) → (0 ≤ (n : Int) ∧ (n : Int) < 12) ∧
        (ax_R (((ax_st I (a + 1) n s) a 1) + 1) ∧ Q (ax_st (ax_st I (a + 1) n s) a 1 (((ax_st I (a + 1) n s) a 1) + 1))))) := by
    intro n I hnn h1 h2 h3 h4 h5
    have hna : a ≠ a + 1 := by omega
    have e1 : (ax_st I (a + 1) n s) a 1 = I0 a 1 := by rw [st_cell hna, h1 a hna]
    have b := hok.1
    refine ⟨fun c => absurd c (by omega), fun _ => ⟨fun c => absurd c (by omega), fun _ => ⟨by omega, ⟨by omega, by omega⟩, ?_⟩⟩⟩
    rw [e1]
    have pl : ∀ k, 0 ≤ k → k ≤ I0 a 1 → (ax_st (ax_st I (a + 1) n s) a 1 (I0 a 1 + 1)) (a + 1) k = insAt (I0 (a + 1)) n s k := by
      intro k k0 k1
      rw [st_cell (by omega), st_at]
      unfold insAt
      by_cases q : k = n
      · rw [if_pos q, if_neg (by omega), if_pos q]
      · rw [if_neg q, if_neg q]
        split
        · exact h2 k k0 (by omega)
        · exact h3 k (by omega) k1
    have r := okS_ins hok hn hs (c := n) ⟨by omega, hnn⟩ h5 h4 pl
    refine hQ _ ⟨fun b q1 q2 => by rw [st_cell q1, st_cell q2, h1 b q2], fun k hk => by rw [st_ne (Or.inr hk), st_cell hna, h1 a hna]⟩ (st_same _ _ _ _) ?_ ?_
    · rw [st_same]; exact r.1
    · rw [st_same]; exact r.2
  induction n with
  | zero =>
    intro I hnn h1 h2 h3 h4
    exact vX8_add_21 ha ⟨by omega, by omega⟩ (by decide) ⟨fun _ => fin 0 I hnn h1 h2 h3 h4 (fun k k0 k1 => absurd k1 (by omega)), fun c => absurd (by decide) c⟩
  | succ n ih =>
    intro I hnn h1 h2 h3 h4
    have b := hok.1
    have e2 : ((n + 1 : Nat) : Int) - 1 = n := by omega
    have e3 : ((n + 1 : Nat) : Int) + -1 = n := by omega
    have e4 := h2 n (by omega) (by omega)
    refine vX8_add_21 ha ⟨by omega, by omega⟩ ⟨by omega, by omega⟩ ⟨fun c => absurd c (by omega), fun _ => ⟨fun c => absurd c (by omega), fun _ => ⟨by omega, fun c => ?_, fun c => ⟨by omega, ?_⟩⟩⟩⟩
    · refine fin (n + 1) I hnn h1 h2 h3 h4 (fun k k0 k1 => ?_)
      rw [e2, e4] at c
      have c2 : I0 (a + 1) n < s := by
        rcases Int.lt_or_le (I0 (a + 1) n) s with q | q
        · exact q
        · exact absurd ⟨(n : Int), by omega, by omega, by omega⟩ hnm
      rcases Int.lt_or_le k n with q | q
      · have := hok.2.1 k n k0 q (by omega); omega
      · rw [show k = n by omega]; exact c2
    · rw [e2, e3, e4]
      rw [e2, e4] at c
      refine ih _ (by omega) (fun b q => by rw [st_cell q, h1 b q]) (fun k k0 k1 => ?_) (fun k k0 k1 => ?_) (fun k k0 k1 => ?_)
      · rw [st_ne (Or.inr (by omega))]; exact h2 k k0 (by omega)
      · rw [st_at]
        split
        · rename_i q; rw [q, e2]
        · exact h3 k (by omega) k1
      · rcases Int.lt_or_le (n : Int) k with q | q
        · exact h4 k (by omega) k1
        · rw [show k = n by omega]; omega
theorem c_add {d a : Nat} {I : ax_H} {Q : ax_H → Prop} {s : Int} (ha : isSp a) (hs : spt s) (hok : okS (I (a + 1)) (I a 1)) (hn : I a 1 < 12) (h0 : mem (I (a + 1)) (I a 1) s → Q I)
    (hQ : ∀ I', Sf a I I' → ¬ mem (I (a + 1)) (I a 1) s → I' a 1 = I a 1 + 1 → okS (I' (a + 1)) (I' a 1) → (∀ x, mem (I' (a + 1)) (I' a 1) x ↔ mem (I (a + 1)) (I a 1) x ∨ x = s) → Q I') : cV (d + 1) kX8_add [ax_r a, ax_i s] I Q := by
  have hb := hok.1
  refine vX8_add_0 ha ?_
  refine c_isFull ha hb (fun c => absurd c (by omega)) (fun _ => n0 ?_)
  refine c_holds ha ⟨by omega, by omega⟩ hb (fun hm => ⟨by decide, fun c => absurd c (by decide), fun _ => h0 hm⟩) (fun hm => ⟨by decide, fun _ => ?_, fun c => absurd rfl c⟩)
  have := c_add_loop (d := d) ha hs hok hn hm (fun I' a1 a2 a3 a4 => hQ I' a1 hm a2 a3 a4) (I a 1).toNat I (by omega) (fun _ _ => rfl) (fun _ _ _ => rfl) (fun k k0 k1 => absurd k1 (by omega)) (fun k k0 k1 => absurd k1 (by omega))
  rwa [show (((I a 1).toNat : Nat) : Int) = I a 1 by omega] at this
