/-! the law's loop -/
theorem JJ_0 : JJ 1 Hp9 := by
  have e1 : ∀ k, Hp9 1 k = if k = 1 then 1 else 0 := fun k => by
    simp [Hp9, Hp8, Hp7, Hp6, Hp5, Hp4, Hp3, Hp2, Hp1, Hp0, ax_st]
  have e0 : ∀ a : Nat, a ≠ 1 → a ≠ 75 → a ≠ 116 → Hp9 a = fun _ => 0 := fun a h1 h2 h3 => by
    funext k
    simp [Hp9, Hp8, Hp7, Hp6, Hp5, Hp4, Hp3, Hp2, Hp1, Hp0, ax_st, h1, h2, h3]
  have e75 : ∀ k, 0 ≤ k → k < 4 → Hp9 75 k = -1 := fun k k0 k1 => by
    have : k = 0 ∨ k = 1 ∨ k = 2 ∨ k = 3 := by omega
    rcases this with rfl | rfl | rfl | rfl <;> simp [Hp9, Hp8, Hp7, Hp6, Hp5, Hp4, Hp3, Hp2, Hp1, Hp0, ax_st]
  have e116 : ∀ k, 0 ≤ k → k < 4 → Hp9 116 k = -1 := fun k k0 k1 => by
    have : k = 0 ∨ k = 1 ∨ k = 2 ∨ k = 3 := by omega
    rcases this with rfl | rfl | rfl | rfl <;> simp [Hp9, Hp8, Hp7, Hp6, Hp5, Hp4, Hp3, Hp2, Hp1, Hp0, ax_st]
  have z : ∀ (a : Nat) (k : Int), a ≠ 1 → a ≠ 75 → a ≠ 116 → Hp9 a k = 0 := fun a k h1 h2 h3 => by rw [e0 a h1 h2 h3]
  have v1 : Hp9 1 1 = 1 := by rw [e1]; rfl
  have v2 : Hp9 1 2 = 0 := by rw [e1]; rfl
  have v3 : Hp9 1 3 = 0 := by rw [e1]; rfl
  have hT : ∀ a : Nat, a ≠ 1 → a ≠ 75 → a ≠ 116 → tabs Hp9 a (Hp9 86) := fun a h1 h2 h3 k _ _ => by
    rw [z a k h1 h2 h3, z 86 k (by decide) (by decide) (by decide)]
    exact ⟨rfl, by decide, by decide⟩
  have hw : ∀ a : Nat, 17 ≤ a → a ≤ 61 → wf Hp9 a := fun a h1 h2 => by
    refine ⟨?_, fun i _ _ => z (a + 1) i (by omega) (by omega) (by omega)⟩
    rw [z a 1 (by omega) (by omega) (by omega)]
    decide
  refine ⟨⟨⟨hT 3 (by decide) (by decide) (by decide), fun q => absurd q (by rw [v1, v2]; decide), by rw [v1, v2]; decide⟩, ⟨hT 3 (by decide) (by decide) (by decide), fun q => absurd q (by rw [v1, v3]; decide), by rw [v1, v3]; decide⟩, fun q => absurd q (by rw [v1, z 10 4 (by decide) (by decide) (by decide)]; decide), by rw [v1, z 10 4 (by decide) (by decide) (by decide)]; decide⟩, ⟨fun b hb => ?_, hw 17 (by decide) (by decide), hw 19 (by decide) (by decide), hw 22 (by decide) (by decide), hw 24 (by decide) (by decide)⟩, by rw [v1]; decide, ⟨?_, ⟨?_, fun i j i0 i1 i2 => ?_, fun k k0 k1 => ?_⟩, fun k k0 k1 => ?_⟩, ⟨?_, ⟨?_, fun k k0 k1 => ?_⟩, fun k k0 k1 => ?_⟩, ⟨?_, ⟨?_, fun k k0 k1 => ?_⟩, fun k k0 k1 => ?_⟩, ⟨?_, ?_, fun k k0 k1 => ?_⟩, ⟨fun k k0 k1 => ?_, fun k k0 k1 => ?_, fun k i hp => ?_⟩, Or.inl ⟨z 0 13 (by decide) (by decide) (by decide), z 85 2 (by decide) (by decide) (by decide)⟩⟩
  · simp only [tmpL, List.mem_cons, List.not_mem_nil, or_false] at hb
    exact hw b (by omega) (by omega)
  · rw [z 63 1 (by decide) (by decide) (by decide), z 86 18 (by decide) (by decide) (by decide)]
  · rw [z 63 1 (by decide) (by decide) (by decide)]; decide
  · rw [z 63 1 (by decide) (by decide) (by decide)] at i2; omega
  · rw [z 63 1 (by decide) (by decide) (by decide)] at k1; omega
  · rw [z 63 1 (by decide) (by decide) (by decide)] at k1; omega
  · rw [z 67 2 (by decide) (by decide) (by decide), z 86 31 (by decide) (by decide) (by decide)]
  · rw [z 67 2 (by decide) (by decide) (by decide)]; decide
  · rw [z 67 2 (by decide) (by decide) (by decide)] at k1; omega
  · rw [z 67 2 (by decide) (by decide) (by decide)] at k1; omega
  · rw [z 70 1 (by decide) (by decide) (by decide), z 85 23 (by decide) (by decide) (by decide)]
  · rw [z 70 1 (by decide) (by decide) (by decide)]; decide
  · rw [z 70 1 (by decide) (by decide) (by decide)] at k1; omega
  · rw [z 70 1 (by decide) (by decide) (by decide)] at k1; omega
  · rw [z 72 1 (by decide) (by decide) (by decide), z 85 27 (by decide) (by decide) (by decide)]
  · rw [z 72 1 (by decide) (by decide) (by decide)]; decide
  · rw [z 72 1 (by decide) (by decide) (by decide)] at k1; omega
  · rw [e75 k k0 k1]; decide
  · rw [e75 k k0 k1, e116 k k0 k1]
  · have := hp.2
    rw [e75 k hp.1.1 hp.1.2] at this
    omega
theorem law_loop {d L : Nat} {xs : Int → Int} (hL : L ≤ 3584) (hxs : ∀ n, ax_R (xs n)) : ∀ (m c : Nat) (I : ax_H), c + m = 512 → JJ (1 + c) I → RLs d L xs 18 (7 * (c : Int)) I := by
  intro m
  induction m with
  | zero =>
    intro c I hc hJ
    exact vL_law_18 hL hxs ⟨by omega, by omega⟩ ⟨⟨by omega, by omega⟩, fun _ => trivial, fun q => absurd (by omega) q⟩
  | succ m ih =>
    intro c I hc hJ
    have K : ∀ I', JJ (1 + (c : Int) + 1) I' → RLs d L xs 1339 (7 * (c : Int)) I' := fun I' h => by
      refine vL_law_1339 hL hxs ?_
      have := ih (c + 1) I' (by omega) (by rw [show 1 + ((c + 1 : Nat) : Int) = 1 + (c : Int) + 1 by omega]; exact h)
      rw [show 7 * ((c + 1 : Nat) : Int) = 7 * (c : Int) + 7 by omega] at this
      exact this
    have sk : RLs d L xs 1339 (7 * (c : Int)) I := K I (hJ.ch (Kc.rf I) hJ.1 hJ.2.1)
    have hn : 1 + (c : Int) ≤ 1000 := by omega
    refine vL_law_18 hL hxs ⟨by omega, by omega⟩ ⟨⟨by omega, by omega⟩, fun _ => trivial, fun q => ⟨by omega, ?_⟩⟩
    have hx : 0 ≤ 7 * (c : Int) ∧ 7 * (c : Int) + 7 ≤ L := by omega
    exact ⟨fun _ => e_set hL hxs hx hn hJ K, fun _ => e_of hL hxs hx hJ K, fun _ => e_feed hL hxs hx hJ K, fun _ => e_table hL hxs hx hn hJ K, fun _ => e_value hL hxs hx hJ K, fun _ => e_kept hL hxs hx hJ K, fun _ => e_swap hL hxs hx hJ K, fun _ => e_row hL hxs hx hJ K, fun _ => e_pinched hL hxs hx hJ K, fun _ => e_behind hL hxs hx hJ K, fun _ => e_period hL hxs hx hJ K, fun _ => e_fibre hL hxs hx hJ K, fun _ => e_base hL hxs hx hJ K, fun _ => e_rank hL hxs hx hJ K, fun _ => e_cycles hL hxs hx hJ K, fun _ => e_degree hL hxs hx hJ K, fun _ => e_tell hL hxs hx hJ K, fun _ => e_forget hL hxs hx hJ K, fun _ => e_told hL hxs hx hJ K, fun _ => e_moved hL hxs hx hJ K, fun _ => e_move hL hxs hx hJ K, fun _ => e_grows hL hxs hx hJ K, fun _ => e_were hL hxs hx hJ K, fun _ => e_odds hL hxs hx hJ K, fun _ => e_plan hL hxs hx hJ K, fun _ => e_ends hL hxs hx hJ K, fun _ => e_write hL hxs hx hJ K, fun _ => e_paper hL hxs hx hJ K, fun _ => e_judge hL hxs hx hJ K, fun _ => e_list hL hxs hx hJ K, fun _ => e_put hL hxs hx hJ K, fun _ => e_get hL hxs hx hJ K, fun _ => e_image hL hxs hx hJ K, fun _ => e_undo hL hxs hx hn hJ K, fun _ => e_count hL hxs hx hJ K, fun _ => sk⟩
theorem law_all {L : Nat} {xs : Int → Int} (hL : L ≤ 3584) (hxs : ∀ n, ax_R (xs n)) : RLw 14 L xs 18 [some (ax_r 1000001), some (ax_r 0), some (ax_r 85), some (ax_i 0)] Hp9 :=
  law_loop (d := 0) hL hxs 512 0 Hp9 (by omega) JJ_0
