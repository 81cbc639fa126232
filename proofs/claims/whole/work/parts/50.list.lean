/-! list -/
theorem c_renew28 {d : Nat} {Q : ax_H → Prop} {k n : Int} (hk : 0 ≤ k ∧ k < 4) (hn : 0 ≤ n ∧ n ≤ 12) : ∀ (m : Nat) (j : Int) (I : ax_H), j = n - m → (m : Int) ≤ n → (∀ i, 0 ≤ i → i < j → I 76 (k * 12 + i) = 0) →
    (∀ I', Mf [76] I I' → (∀ i, 0 ≤ i → i < n → I' 76 (k * 12 + i) = 0) → (∀ p, (p < k * 12 ∨ k * 12 + 12 ≤ p) → I' 76 p = I 76 p) → Q I') →
    RV (d + 1) kX4_renew 28 [some (ax_r 74), some (ax_i k), some (ax_i n), some (ax_i j)] I Q := by
  intro m
  induction m with
  | zero =>
    intro j I hj _ hA hQ
    exact vX4_renew_28 ⟨by omega, by omega⟩ ⟨by omega, by omega⟩ ⟨fun _ => hQ I (Mf.rf _ I) (fun i i0 i1 => hA i i0 (by omega)) (fun _ _ => rfl), fun c => absurd (by omega) c⟩
  | succ m ih =>
    intro j I hj hm hA hQ
    refine vX4_renew_28 ⟨by omega, by omega⟩ ⟨by omega, by omega⟩ ⟨fun c => absurd c (by omega), fun _ => ⟨by omega, ?_⟩⟩
    refine ih (j + 1) _ (by omega) (by omega) (fun i i0 i1 => ?_) (fun I' f a b => hQ I' ((Mf.st (by decide)).trans f) a (fun p hp => by rw [b p hp, st_ne (Or.inr (by omega))]))
    rw [st_at]
    split
    · rfl
    · exact hA i i0 (by omega)
theorem a_list {d : Nat} {I : ax_H} {Q : Int → ax_H → Prop} {k n : Int} (hk : ax_R k) (hn : ax_R n) (h1 : ¬ (0 ≤ k ∧ k < 4) → Q (-1) I) (h2 : 0 ≤ k ∧ k < 4 → 12 < n → Q (-2) I) (h3 : 0 ≤ k ∧ k < 4 → n < 0 → Q (-14) I)
    (hQ : ∀ I', 0 ≤ k ∧ k < 4 → 0 ≤ n ∧ n ≤ 12 → Mf [76] (ax_st I 75 k n) I' → (∀ i, 0 ≤ i → i < n → I' 76 (k * 12 + i) = 0) → (∀ p, (p < k * 12 ∨ k * 12 + 12 ≤ p) → I' 76 p = I 76 p) → Q 1 I') : cI (d + 2) kX10_list [ax_r 0, ax_i k, ax_i n] I Q := by
  refine vX10_list_0 hn ?_
  refine c_isList hk (fun q => n1 ⟨fun r => ⟨fun r2 => ?_, fun r2 => h3 q (by omega)⟩, fun r => h2 q (by omega)⟩) (fun q => n0 (h1 q))
  refine vX4_renew_0 hn ?_
  refine c_isList hk (fun _ => b1 ⟨fun c => absurd c (by omega), fun _ => ⟨fun _ => ⟨q, ?_⟩, fun c => absurd r c⟩⟩) (fun c => absurd q c)
  exact c_renew28 q ⟨r2, r⟩ n.toNat 0 _ (by omega) (by omega) (fun i i0 i1 => absurd i1 (by omega)) (fun I' f a b => hQ I' q ⟨r2, r⟩ f a (fun p hp => by rw [b p hp, st_cell (by decide)]))
