theorem m_list34 {d : Nat} {Q : Int → ax_H → Prop} {k : Int} (hk : 0 ≤ k ∧ k < 4) : ∀ (m : Nat) (j : Int) (I : ax_H), j = 12 - m → m ≤ 12 → (∀ i, 0 ≤ i → i < j → I (118 + k.toNat) i = 0) →
    (∀ I', Mf [118 + k.toNat] I I' → (∀ i, 0 ≤ i → i < 12 → I' (118 + k.toNat) i = 0) → Q 1 I') →
    RI (d + 2) kX11_list 34 [some (ax_r 85), some (ax_i k), none, some (ax_i j)] I Q := by
  intro m
  induction m with
  | zero =>
    intro j I hj _ hA hQ
    exact vX11_list_34 ⟨by omega, by omega⟩ ⟨fun _ => hQ I (Mf.rf _ I) (fun i i0 i1 => hA i i0 (by omega)), fun c => absurd (by omega) c⟩
  | succ m ih =>
    intro j I hj hm hA hQ
    refine vX11_list_34 ⟨by omega, by omega⟩ ⟨fun c => absurd c (by omega), fun _ => ⟨hk, fun b hb _ => ?_⟩⟩
    subst hb
    refine ⟨by omega, ?_⟩
    refine ih (j + 1) _ (by omega) (by omega) (fun i i0 i1 => ?_) (fun I' f a => hQ I' ((Mf.st (List.mem_singleton.2 rfl)).trans f) a)
    rw [st_at]
    split
    · rfl
    · exact hA i i0 (by omega)
theorem z_list {d : Nat} {I : ax_H} {Q : Int → ax_H → Prop} {k n : Int} (hk : ax_R k) (hn : ax_R n) (h1 : ¬ (0 ≤ k ∧ k < 4) → Q (-1) I) (h2 : 0 ≤ k ∧ k < 4 → 12 < n → Q (-2) I) (h3 : 0 ≤ k ∧ k < 4 → n < 0 → Q (-14) I)
    (hQ : ∀ I', 0 ≤ k ∧ k < 4 → 0 ≤ n ∧ n ≤ 12 → Mf [118 + k.toNat] (ax_st I 116 k n) I' → (∀ i, 0 ≤ i → i < 12 → I' (118 + k.toNat) i = 0) → Q 1 I') : cI (d + 2) kX11_list [ax_r 85, ax_i k, ax_i n] I Q := by
  refine vX11_list_0 hn ?_
  refine m_isList hk (fun q => n1 ⟨fun r => ⟨fun r2 => ⟨q, ?_⟩, fun r2 => h3 q (by omega)⟩, fun r => h2 q (by omega)⟩) (fun q => n0 (h1 q))
  exact m_list34 q 12 0 _ (by omega) (by omega) (fun i i0 i1 => absurd i1 (by omega)) (fun I' f a => hQ I' q ⟨r2, r⟩ f a)
