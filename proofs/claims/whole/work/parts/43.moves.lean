/-! moved: the steps of the told spots -/
theorem nl_set {f p : Int → Int} {n i : Int} (hok : okS p n) (hf : ∀ s, spt s → (f s = 1 ↔ mem p n s)) : ∀ (m : Nat) (c s : Int), s = 1024 - m → m ≤ 1024 → 0 ≤ c → c ≤ n → (∀ k, 0 ≤ k → k < c → p k < s) → (∀ k, c ≤ k → k < n → s ≤ p k) → (i < 0 ∨ c ≤ i) →
    nl f 1 i m c s = if i = -1 then n else if 0 ≤ i ∧ i < n then p i else -5 := by
  intro m
  have hb := hok.1
  induction m with
  | zero =>
    intro c s hs _ c0 c1 hlo hhi hi
    have e : c = n := by
      rcases Int.lt_or_le c n with q | q
      · have a1 := hhi c (Int.le_refl _) q
        have a2 := hok.2.2 c c0 q
        omega
      · omega
    unfold nl
    rw [if_neg (show ¬ (0 ≤ i ∧ i < n) by omega), e]
  | succ m ih =>
    intro c s hs hm c0 c1 hlo hhi hi
    unfold nl
    by_cases q : f s = 1
    · rw [if_pos q]
      obtain ⟨j, j0, j1, j2⟩ := (hf s ⟨by omega, by omega⟩).1 q
      have ej : j = c := by
        rcases Int.lt_trichotomy j c with r | r | r
        · have := hlo j j0 r; omega
        · exact r
        · have a1 := hok.2.1 c j c0 r j1
          have a2 := hhi c (Int.le_refl _) (by omega)
          omega
      subst ej
      by_cases qi : j = i
      · rw [if_pos qi, if_neg (by omega), if_pos (by omega), ← qi, j2]
      · rw [if_neg qi]
        refine ih (j + 1) (s + 1) (by omega) (by omega) (by omega) (by omega) (fun k k0 k1 => ?_) (fun k k0 k1 => ?_) (by omega)
        · rcases Int.lt_or_le k j with r | r
          · have := hlo k k0 r; omega
          · rw [show k = j by omega]; omega
        · have := hok.2.1 j k j0 (by omega) k1; omega
    · rw [if_neg q]
      refine ih c (s + 1) (by omega) (by omega) c0 c1 (fun k k0 k1 => by have := hlo k k0 k1; omega) (fun k k0 k1 => ?_) hi
      have a1 := hhi k k0 k1
      have a2 : p k ≠ s := fun r => q ((hf s ⟨by omega, by omega⟩).2 ⟨k, by omega, k1, r⟩)
      omega
theorem nl_all {f p : Int → Int} {n i : Int} (hok : okS p n) (hf : ∀ s, spt s → (f s = 1 ↔ mem p n s)) : nl f 1 i 1024 0 0 = if i = -1 then n else if 0 ≤ i ∧ i < n then p i else -5 :=
  nl_set hok hf 1024 0 0 (by omega) (by omega) (by omega) hok.1.1 (fun k k0 k1 => absurd k1 (by omega)) (fun k k0 k1 => (hok.2.2 k k0 k1).1) (by omega)
def mvd (g p : Int → Int) (n t : Int) : Prop := t ≠ -7 ∧ mem (fun k => nxt g (p k)) n t
theorem mvd_succ {g p : Int → Int} {n t : Int} (hn : 0 ≤ n) : mvd g p (n + 1) t ↔ mvd g p n t ∨ (t ≠ -7 ∧ nxt g (p n) = t) := by
  constructor
  · rintro ⟨h, k, k0, k1, k2⟩
    rcases Int.lt_or_le k n with q | q
    · exact Or.inl ⟨h, k, k0, q, k2⟩
    · rw [show k = n by omega] at k2; exact Or.inr ⟨h, k2⟩
  · rintro (⟨h, k, k0, k1, k2⟩ | ⟨h, h2⟩)
    · exact ⟨h, k, k0, by omega, k2⟩
    · exact ⟨h, n, hn, by omega, h2⟩
theorem m_moves24 {d : Nat} {g p : Int → Int} {n : Int} {Q : ax_H → Prop} (hg : gd g) (hn : 0 ≤ n ∧ n ≤ 12) (hp : ∀ k, 0 ≤ k → k < n → spt (p k)) : ∀ (m : Nat) (k : Int) (I : ax_H), k = n - m → (m : Int) ≤ n → I 86 = g → I 86 18 = n → (∀ i, 0 ≤ i → i < n → rp I i = p i) → (∀ t, spt t → (I 112 t ≠ 0 ↔ mvd g p k t)) →
    (∀ I', Mf [112] I I' → (∀ t, spt t → (I' 112 t ≠ 0 ↔ mvd g p n t)) → Q I') →
    RV (d + 6) kX11_moves 24 [some (ax_r 85), some (ax_i k), none] I Q := by
  intro m
  induction m with
  | zero =>
    intro k I hk _ h6 h18 hr hA hQ
    refine vX11_moves_24 ⟨by omega, by omega⟩ ⟨fun _ => hQ I (Mf.rf _ I) ?_, fun c => absurd (by omega) c⟩
    rw [show n = k by omega]; exact hA
  | succ m ih =>
    intro k I hk hm h6 h18 hr hA hQ
    have e := hr k (by omega) (by omega)
    have hs := hp k (by omega) (by omega)
    refine vX11_moves_24 ⟨by omega, by omega⟩ ⟨fun c => absurd c (by omega), fun _ => ⟨by omega, ?_⟩⟩
    rw [show I 86 (19 + k) = p k from e]
    refine m_step0 (by rw [h6]; exact hg) hs ?_
    rw [h6]
    have hx := @nxt_spt g (p k)
    refine ⟨nxt_R _ _, fun c => ?_, fun c => ⟨by omega, ?_⟩⟩
    · refine ih (k + 1) I (by omega) (by omega) h6 h18 hr (fun t ht => ?_) hQ
      rw [hA t ht, mvd_succ (by omega)]
      exact ⟨Or.inl, fun q => q.elim id (fun ⟨a, b⟩ => absurd (b.symm.trans c) a)⟩
    · refine ih (k + 1) _ (by omega) (by omega) (by rw [st_cell (by decide)]; exact h6) (by rw [st_cell (by decide)]; exact h18) (fun i i0 i1 => by unfold rp; rw [st_cell (by decide)]; exact hr i i0 i1) (fun t ht => ?_) (fun I' hf hs => hQ I' ((Mf.st (by decide)).trans hf) hs)
      rw [st_at, mvd_succ (by omega), ← hA t ht]
      by_cases q : t = nxt g (p k)
      · rw [if_pos q]; exact ⟨fun _ => Or.inr ⟨by omega, q.symm⟩, fun _ => by decide⟩
      · rw [if_neg q]; exact ⟨Or.inl, fun r => r.elim id (fun ⟨_, b⟩ => absurd b.symm q)⟩
