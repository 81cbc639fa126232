theorem c_becomeSteps {d a0 a1 : Nat} {g : Int → Int} {I : ax_H} {Q : ax_H → Prop} (h0 : isSp a0) (h1 : isSp a1) (hd : 8 < a0 ∧ 8 < a1 ∧ a0 ≠ a1 ∧ a0 ≠ a1 + 1 ∧ a0 + 1 ≠ a1) (hR : RInv g I) (hok : okS (I (a1 + 1)) (I a1 1))
    (hQ : ∀ I', Gf a0 I I' → RInv g I' → okS (I' (a0 + 1)) (I' a0 1) → (∀ t, mem (I' (a0 + 1)) (I' a0 1) t ↔ mvd g (I (a1 + 1)) (I a1 1) t) → Q I') : cV (d + 4) kX8_becomeSteps [ax_r a0, ax_r a1, ax_r 1] I Q := by
  have hb := hok.1
  refine vX8_becomeSteps_0 h0 h1 ?_
  have w : ∀ b, b ≠ a0 → (ax_st I a0 1 0) b = I b := fun b q => st_cell q
  refine c_steps7 (g := g) (p := I (a1 + 1)) (n := I a1 1) h0 h1 hd hb hok.2.2 (I a1 1).toNat 0 _ (by omega) (by omega) (hR.of (w 1 (by omega)) (w 3 (by omega)) (w 4 (by omega)) (w 7 (by omega))) (by rw [w a1 (by omega)]) (fun i i0 i1 => by rw [w (a1 + 1) (by omega)]) ?_ (by rw [st_same]; omega) (fun t => ?_) (fun I' f r o m => hQ I' (Gf.trans ⟨fun b _ _ _ q _ => w b q, fun k _ => by rw [w 1 (by omega)], fun k q => st_ne (Or.inr q)⟩ f) r o m)
  · rw [st_same]
    exact ⟨by omega, fun i j i0 i1 i2 => absurd i2 (by omega), fun k k0 k1 => absurd k1 (by omega)⟩
  · rw [st_same]
    exact ⟨fun ⟨k, k0, k1, _⟩ => absurd k1 (by omega), fun ⟨_, k, k0, k1, _⟩ => absurd k1 (by omega)⟩
theorem a_moved {d : Nat} {g : Int → Int} {I : ax_H} {Q : Int → ax_H → Prop} {i : Int} (hi : ax_R i) (hR : RInv g I) (hok : okS (I 64) (I 63 1))
    (hQ : ∀ I', Gf 65 I I' → RInv g I' → okS (I' 66) (I' 65 1) → (∀ t, mem (I' 66) (I' 65 1) t ↔ mvd g (I 64) (I 63 1) t) → Q (if i = -1 then I' 65 1 else if 0 ≤ i ∧ i < I' 65 1 then I' 66 i else -5) I') : cI (d + 5) kX10_moved [ax_r 0, ax_i i] I Q := by
  refine vX10_moved_0 hi ?_
  refine c_becomeSteps (a0 := 65) (a1 := 63) ⟨rfl, rfl⟩ ⟨rfl, rfl⟩ (by decide) hR hok (fun I' f r o m => ?_)
  have h := hQ I' f r o m
  refine ⟨fun c => ?_, fun c => ?_⟩
  · rw [if_neg c] at h
    exact c_spotAt (a := 65) ⟨rfl, rfl⟩ hi o.1 h
  · rw [if_pos c] at h; exact h
