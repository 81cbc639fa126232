/-! the class's moved -/
theorem RInv.of {g : Int → Int} {I I' : ax_H} (h : RInv g I) (e1 : I' 1 = I 1) (e3 : I' 3 = I 3) (e4 : I' 4 = I 4) (e7 : I' 7 = I 7) : RInv g I' := by
  unfold RInv rowsOK aheadOK at *
  unfold tabs at *
  rw [e1, e3, e4, e7]
  exact h
def Gf (a : Nat) (I I' : ax_H) : Prop := (∀ b, b ≠ 1 → b ≠ 4 → b ≠ 7 → b ≠ a → b ≠ a + 1 → I' b = I b) ∧ (∀ k, k ≠ 2 → I' 1 k = I 1 k) ∧ ∀ k, k ≠ 1 → I' a k = I a k
theorem Gf.trans {a : Nat} {I I' I'' : ax_H} (h : Gf a I I') (h' : Gf a I' I'') : Gf a I I'' :=
  ⟨fun b h1 h2 h3 h4 h5 => (h'.1 b h1 h2 h3 h4 h5).trans (h.1 b h1 h2 h3 h4 h5), fun k h1 => (h'.2.1 k h1).trans (h.2.1 k h1), fun k h1 => (h'.2.2 k h1).trans (h.2.2 k h1)⟩
theorem Gf.rows {a : Nat} {I I' : ax_H} (ha : 8 < a) (h : Rf I I') : Gf a I I' := ⟨fun b h1 h2 h3 _ _ => h.1 b h1 h2 h3, h.2, fun k _ => by rw [h.1 a (by omega) (by omega) (by omega)]⟩
theorem Gf.set {a : Nat} {I I' : ax_H} (ha : 8 < a) (h : Sf a I I') : Gf a I I' := ⟨fun b _ _ _ h1 h2 => h.1 b h1 h2, fun k _ => by rw [h.1 1 (by omega) (by omega)], h.2⟩
theorem c_steps7 {d a0 a1 : Nat} {g p : Int → Int} {n : Int} {Q : ax_H → Prop} (h0 : isSp a0) (h1 : isSp a1) (hd : 8 < a0 ∧ 8 < a1 ∧ a0 ≠ a1 ∧ a0 ≠ a1 + 1 ∧ a0 + 1 ≠ a1) (hn : 0 ≤ n ∧ n ≤ 12) (hp : ∀ k, 0 ≤ k → k < n → spt (p k)) : ∀ (m : Nat) (k : Int) (I : ax_H), k = n - m → (m : Int) ≤ n → RInv g I → I a1 1 = n → (∀ i, 0 ≤ i → i < n → I (a1 + 1) i = p i) → okS (I (a0 + 1)) (I a0 1) → I a0 1 ≤ k → (∀ t, mem (I (a0 + 1)) (I a0 1) t ↔ mvd g p k t) →
    (∀ I', Gf a0 I I' → RInv g I' → okS (I' (a0 + 1)) (I' a0 1) → (∀ t, mem (I' (a0 + 1)) (I' a0 1) t ↔ mvd g p n t) → Q I') →
    RV (d + 4) kX8_becomeSteps 7 [some (ax_r a0), some (ax_r a1), some (ax_r 1), some (ax_i k), none] I Q := by
  intro m
  induction m with
  | zero =>
    intro k I hk _ hR ha hr hok hsz hA hQ
    refine vX8_becomeSteps_7 h0 h1 ⟨by omega, by omega⟩ ⟨fun _ => hQ I ⟨fun _ _ _ _ _ _ => rfl, fun _ _ => rfl, fun _ _ => rfl⟩ hR hok ?_, fun c => absurd (by omega) c⟩
    rw [show n = k by omega]; exact hA
  | succ m ih =>
    intro k I hk hm hR ha hr hok hsz hA hQ
    have e := hr k (by omega) (by omega)
    have hs := hp k (by omega) (by omega)
    refine vX8_becomeSteps_7 h0 h1 ⟨by omega, by omega⟩ ⟨fun c => absurd c (by omega), fun _ => ?_⟩
    refine c_spotAt h1 ⟨by omega, by omega⟩ (by omega) ?_
    rw [if_pos (by omega), e]
    refine c_stepFrom hR ⟨by omega, by omega⟩ (fun I1 f1 r1 => ?_)
    have hx := @nxt_spt g (p k)
    have q1 : ∀ b, 8 < b → I1 b = I b := fun b hb => f1.1 b (by omega) (by omega) (by omega)
    have ea := q1 a0 hd.1
    have ea' := q1 (a0 + 1) (by omega)
    have eb := q1 a1 hd.2.1
    have eb' := q1 (a1 + 1) (by omega)
    have same : nxt g (p k) = -7 ∨ mem (I (a0 + 1)) (I a0 1) (nxt g (p k)) → ∀ t, mem (I (a0 + 1)) (I a0 1) t ↔ mvd g p (k + 1) t := fun hc t => by
      rw [mvd_succ (by omega), ← hA t]
      refine ⟨Or.inl, fun r => r.elim id (fun ⟨x1, x2⟩ => ?_)⟩
      rcases hc with c | c
      · exact absurd (x2.symm.trans c) x1
      · exact x2 ▸ c
    have go : (∀ t, mem (I (a0 + 1)) (I a0 1) t ↔ mvd g p (k + 1) t) → RV (d + 4) kX8_becomeSteps 7 [some (ax_r a0), some (ax_r a1), some (ax_r 1), some (ax_i (k + 1)), none] I1 Q := fun hc =>
      ih (k + 1) I1 (by omega) (by omega) r1 (by rw [eb]; exact ha) (fun i i0 i1 => by rw [eb']; exact hr i i0 i1) (by rw [ea, ea']; exact hok) (by rw [ea]; omega) (fun t => by rw [ea, ea']; exact hc t) (fun I' f' r' => hQ I' ((Gf.rows hd.1 f1).trans f') r')
    refine ⟨nxt_R _ _, fun c => go (same (Or.inl c)), fun c => ?_⟩
    refine c_add h0 (by omega) (by rw [ea, ea']; exact hok) (by rw [ea]; omega) (fun hm => ?_) (fun I2 f2 _ s2 o2 m2 => ?_)
    · rw [ea, ea'] at hm; exact go (same (Or.inr hm))
    · have w : ∀ b, b ≠ a0 → b ≠ a0 + 1 → I2 b = I1 b := f2.1
      refine ih (k + 1) I2 (by omega) (by omega) (r1.of (w 1 (by omega) (by omega)) (w 3 (by omega) (by omega)) (w 4 (by omega) (by omega)) (w 7 (by omega) (by omega))) (by rw [w a1 (by omega) (by omega), eb]; exact ha) (fun i i0 i1 => by rw [w (a1 + 1) (by omega) (by omega), eb']; exact hr i i0 i1) o2 (by rw [s2, ea]; omega) (fun t => ?_) (fun I' f' r' => hQ I' (((Gf.rows hd.1 f1).trans (Gf.set hd.1 f2)).trans f') r')
      rw [m2 t, mvd_succ (by omega), ← hA t, ea, ea']
      exact ⟨fun r => r.elim Or.inl (fun r => Or.inr ⟨by omega, r.symm⟩), fun r => r.elim Or.inl (fun r => Or.inr r.2.symm)⟩
