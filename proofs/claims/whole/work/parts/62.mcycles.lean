/-! the reference's cycles -/
theorem m_len9 {d : Nat} {g : Int → Int} {I : ax_H} {Q : Int → ax_H → Prop} {s : Int} (hs : spt s) (hT : ∀ t, spt t → I 90 t = nxt g t) : ∀ (m : Nat) (n a : Int), n = 1025 - m → m ≤ 1024 → (a = -7 ∨ spt a) → Q (lng (nxt g) s m a n) I →
    RI d kX11_lengthOf 9 [some (ax_r 85), some (ax_i s), some (ax_i a), some (ax_i n)] I Q := by
  have h1 := hs.1
  have h2 := hs.2
  intro m
  induction m with
  | zero =>
    intro n a hn _ ha h
    exact vX11_lengthOf_9 ⟨by omega, by omega⟩ (spt_R ha) ⟨by omega, by omega⟩ ⟨fun _ => ⟨fun _ => h, fun _ => ⟨fun _ => h, fun c => absurd (by omega) c⟩⟩, fun _ => ⟨fun _ => ⟨fun _ => h, fun c => absurd (by omega) c⟩, fun _ => ⟨fun _ => h, fun c => absurd (by omega) c⟩⟩⟩
  | succ m ih =>
    intro n a hn hm ha h
    unfold lng at h
    refine vX11_lengthOf_9 ⟨by omega, by omega⟩ (spt_R ha) ⟨by omega, by omega⟩ ⟨fun c => ⟨fun c2 => ?_, fun c2 => absurd c (by omega)⟩, fun c => ⟨fun c2 => ⟨fun c3 => absurd c3 (by omega), fun _ => ?_⟩, fun c2 => ⟨fun c3 => absurd c3 (by omega), fun _ => ?_⟩⟩⟩
    · rw [if_neg c2, if_pos c] at h; exact h
    · rw [if_pos c2] at h; exact h
    · rw [if_neg c2, if_neg c] at h
      have hsp : spt a := ha.resolve_left (fun q => by omega)
      refine ⟨hsp, ?_⟩
      rw [hT a hsp]
      exact ih (n + 1) _ (by omega) (by omega) nxt_spt h
theorem m_lengthOf {d : Nat} {g : Int → Int} {I : ax_H} {Q : Int → ax_H → Prop} {s : Int} (hs : spt s) (hT : ∀ t, spt t → I 90 t = nxt g t) (h : Q (lng (nxt g) s 1024 (nxt g s) 1) I) : cI d kX11_lengthOf [ax_r 85, ax_i s] I Q := by
  refine vX11_lengthOf_0 ⟨hs, ?_⟩
  rw [hT s hs]
  exact m_len9 hs hT 1024 1 _ (by omega) (by omega) nxt_spt h
theorem m_fc105 {d : Nat} {g : Int → Int} {Q : ax_H → Prop} {k s : Int} {n : Nat} {I0 : ax_H} (hs : spt s) (hn : isL (nxt g) s n) (hT : ∀ t, spt t → I0 90 t = nxt g t)
    (hQ : ∀ I', Mf [91] I0 I' → (∀ t, I' 91 t ≠ 0 ↔ I0 91 t ≠ 0 ∨ ∃ l, l < n ∧ itn (nxt g) l s = t) → RV (d + 6) kX11_findsCycles 49 [some (ax_r 85), some (ax_i k), some (ax_i (s + 1)), none, none, none] I' Q) : ∀ (m i : Nat) (I : ax_H), i + m = n → Mf [91] I0 I → (∀ t, I 91 t ≠ 0 ↔ I0 91 t ≠ 0 ∨ ∃ l, l < i ∧ itn (nxt g) l s = t) →
    RV (d + 6) kX11_findsCycles 105 [some (ax_r 85), some (ax_i k), some (ax_i s), some (ax_i (n : Int)), some (ax_i (itn (nxt g) i s)), some (ax_i (i : Int))] I Q := by
  have h1 := hn.1
  intro m
  induction m with
  | zero =>
    intro i I hi hf hM
    obtain rfl : i = n := by omega
    exact vX11_findsCycles_105 ⟨by omega, by omega⟩ ⟨by omega, by omega⟩ ⟨fun _ => hQ I hf hM, fun c => absurd (Int.le_refl _) c⟩
  | succ m ih =>
    intro i I hi hf hM
    have hsp := isL_spt (nxt_mp g) hs hn i
    refine vX11_findsCycles_105 ⟨by omega, by omega⟩ ⟨by omega, by omega⟩ ⟨fun c => absurd c (by omega), fun _ => ⟨hsp, ?_⟩⟩
    rw [show (ax_st I 91 (itn (nxt g) i s) 1) 90 (itn (nxt g) i s) = itn (nxt g) (i + 1) s by rw [st_cell (by decide), hf 90 (by decide), hT _ hsp, itn_suc], show (i : Int) + 1 = ((i + 1 : Nat) : Int) by omega]
    refine ih (i + 1) _ (by omega) (hf.trans (Mf.st (by decide))) (fun t => ?_)
    rw [st_at]
    by_cases e : t = itn (nxt g) i s
    · rw [if_pos e]
      exact ⟨fun _ => Or.inr ⟨i, by omega, e.symm⟩, fun _ => by decide⟩
    · rw [if_neg e, hM t]
      constructor
      · rintro (q | ⟨l, hl, q⟩)
        · exact Or.inl q
        · exact Or.inr ⟨l, by omega, q⟩
      · rintro (q | ⟨l, hl, q⟩)
        · exact Or.inl q
        · by_cases el : l = i
          · subst el; exact absurd q.symm e
          · exact Or.inr ⟨l, by omega, q⟩
theorem m_fc49 {d : Nat} {g : Int → Int} {Q : ax_H → Prop} {k : Int} (hk : ax_R k) {I0 : ax_H} (hQ : ∀ I', Mf [88, 90, 91, 92] I0 I' → (∀ j, 1 ≤ j → j ≤ 1024 → I' 92 j = tlc g k 1024 j) → Q I') : ∀ (m s : Nat) (I : ax_H), s + m = 1024 → Mf [88, 90, 91, 92] I0 I → (∀ t, spt t → I 88 t = kq g t) → (∀ t, spt t → I 90 t = nxt g t) → (∀ t, spt t → (I 91 t ≠ 0 ↔ sen g k s t)) → (∀ j, 1 ≤ j → j ≤ 1024 → I 92 j = tlc g k s j) →
    RV (d + 6) kX11_findsCycles 49 [some (ax_r 85), some (ax_i k), some (ax_i (s : Int)), none, none, none] I Q := by
  intro m
  induction m with
  | zero =>
    intro s I hs hf h88 h90 h91 h92
    obtain rfl : s = 1024 := by omega
    exact vX11_findsCycles_49 hk (by decide) ⟨fun _ => hQ I hf h92, fun c => absurd (by decide) c⟩
  | succ m ih =>
    intro s I hs hf h88 h90 h91 h92
    have hsp : spt (s : Int) := ⟨by omega, by omega⟩
    have nx : (s : Int) + 1 = ((s + 1 : Nat) : Int) := by omega
    have same : (∀ n, ¬ nwc g k (s : Int) n) → (∀ t, spt t → kq g (s : Int) = k → (∃ n, isL (nxt g) (s : Int) n) → (∃ i, itn (nxt g) i (s : Int) = t) → sen g k s t) → RV (d + 6) kX11_findsCycles 49 [some (ax_r 85), some (ax_i k), some (ax_i ((s : Int) + 1)), none, none, none] I Q := by
      intro hno hm
      rw [nx]
      refine ih (s + 1) I (by omega) hf h88 h90 (fun t ht => ?_) (fun j j0 j1 => by rw [tlc_no hno]; exact h92 j j0 j1)
      rw [h91 t ht]
      constructor
      · rintro ⟨u, u1, u2⟩
        exact ⟨u, ⟨u1.1, by omega⟩, u2⟩
      · rintro ⟨u, u1, u2, u3, u4⟩
        by_cases e : u = s
        · subst e; exact hm t ht u2 u3 u4
        · exact ⟨u, ⟨u1.1, by omega⟩, u2, u3, u4⟩
    refine vX11_findsCycles_49 hk ⟨by omega, by omega⟩ ⟨fun c => absurd c (by omega), fun _ => ⟨by omega, fun c => ?_, fun c => ⟨fun c2 => ?_, fun c2 => ?_⟩⟩⟩
    · rw [h88 _ hsp] at c
      exact same (fun n hn => c hn.1) (fun _ _ q => absurd q c)
    · have hsn := (h91 _ hsp).1 c2
      refine same (fun n hn => hn.2.2 hsn) (fun t ht _ hl ⟨i, hi⟩ => ?_)
      obtain ⟨u, u1, u2, u3, ⟨i2, u4⟩⟩ := hsn
      exact ⟨u, u1, u2, u3, i2 + i, by rw [itn_add, u4, hi]⟩
    · rw [h88 _ hsp] at c
      have hns : ¬ sen g k s s := fun q => absurd c2 ((h91 _ hsp).2 q)
      refine m_lengthOf hsp h90 ?_
      rcases lng_spec (nxt_mp g) hsp with ⟨n, hn, e⟩ | ⟨e, hno⟩
      · rw [e]
        have h1 := hn.1
        have tb := tlc_bd g k n s
        have e92 := h92 n (by omega) (by omega)
        refine ⟨⟨by omega, by omega⟩, fun q => absurd q (by omega), fun _ => ⟨by omega, ?_⟩⟩
        rw [e92]
        refine ⟨⟨by omega, by omega⟩, ?_⟩
        have hnew : nwc g k (s : Int) (n : Int) := ⟨c, ⟨n, hn, rfl⟩, hns⟩
        have v : ∀ b, b ≠ 92 → (ax_st I 92 (n : Int) (tlc g k s n + 1)) b = I b := fun b hb => st_cell hb
        refine m_fc105 (I0 := ax_st I 92 (n : Int) (tlc g k s n + 1)) hsp hn (fun t ht => by rw [v 90 (by decide)]; exact h90 t ht) (fun I1 f1 m1 => ?_) n 0 _ (by omega) (Mf.rf _ _) (fun t => ⟨Or.inl, fun q => q.elim id (fun ⟨l, hl, _⟩ => absurd hl (Nat.not_lt_zero l))⟩)
        rw [nx]
        have w : ∀ b, b ≠ 91 → b ≠ 92 → I1 b = I b := fun b b1 b2 => by rw [f1 b (by simp [b1]), v b b2]
        refine ih (s + 1) I1 (by omega) (fun b hb => ?_) (fun t ht => by rw [w 88 (by decide) (by decide)]; exact h88 t ht) (fun t ht => by rw [w 90 (by decide) (by decide)]; exact h90 t ht) (fun t ht => ?_) (fun j j0 j1 => ?_)
        · simp only [List.mem_cons, List.not_mem_nil, or_false, not_or] at hb
          rw [w b hb.2.2.1 hb.2.2.2, hf b (by simp [hb])]
        · rw [m1 t, v 91 (by decide), h91 t ht]
          constructor
          · rintro (⟨u, u1, u2⟩ | ⟨l, hl, q⟩)
            · exact ⟨u, ⟨u1.1, by omega⟩, u2⟩
            · exact ⟨s, ⟨by omega, by omega⟩, c, ⟨n, hn⟩, l, q⟩
          · rintro ⟨u, u1, u2, u3, u4⟩
            by_cases eu : u = s
            · subst eu
              obtain ⟨i, hi⟩ := u4
              rw [isL_mod hn.2.1 i] at hi
              exact Or.inr ⟨i % n, Nat.mod_lt i (by omega), hi⟩
            · exact Or.inl ⟨u, ⟨u1.1, by omega⟩, u2, u3, u4⟩
        · rw [f1 92 (by decide), st_at, tlc_yes hnew]
          by_cases ej : j = (n : Int)
          · rw [if_pos ej, if_pos ej, ej]
          · rw [if_neg ej, if_neg ej, h92 j j0 j1]; omega
      · rw [e]
        refine ⟨by decide, fun _ => ?_, fun q => absurd (by decide) q⟩
        exact same (fun n hn => by obtain ⟨_, ⟨l, hl, _⟩, _⟩ := hn; exact hno l hl) (fun _ _ _ ⟨l, hl⟩ => absurd hl (hno l))
theorem m_fc6 {d : Nat} {g : Int → Int} {Q : ax_H → Prop} {k : Int} (hg : gd g) : ∀ (n : Nat) (j : Int) (I : ax_H), j = 1024 - n → n ≤ 1024 → I 86 = g → (∀ s, 0 ≤ s → s < j → I 90 s = nxt g s ∧ I 91 s = 0 ∧ I 92 (s + 1) = 0) →
    (∀ I', Mf [90, 91, 92] I I' → (∀ s, spt s → I' 90 s = nxt g s ∧ I' 91 s = 0 ∧ I' 92 (s + 1) = 0) → RV (d + 6) kX11_findsCycles 49 [some (ax_r 85), some (ax_i k), some (ax_i 0), none, none, none] I' Q) →
    RV (d + 6) kX11_findsCycles 6 [some (ax_r 85), some (ax_i k), some (ax_i j), none, none, none] I Q := by
  intro n
  induction n with
  | zero =>
    intro j I hj _ h6 hA hQ
    exact vX11_findsCycles_6 ⟨by omega, by omega⟩ ⟨fun _ => hQ I (Mf.rf _ I) (fun s hs => hA s hs.1 (by have := hs.2; omega)), fun c => absurd (by omega) c⟩
  | succ n ih =>
    intro j I hj hn h6 hA hQ
    refine vX11_findsCycles_6 ⟨by omega, by omega⟩ ⟨fun c => absurd c (by omega), fun _ => ?_⟩
    refine m_step0 (by rw [h6]; exact hg) ⟨by omega, by omega⟩ ⟨by omega, nxt_R _ _, by omega, ?_⟩
    rw [h6]
    refine ih (j + 1) _ (by omega) (by omega) (by rw [st_cell (by decide), st_cell (by decide), st_cell (by decide)]; exact h6) (fun s h1 h2 => ?_) (fun I' hf hs => hQ I' ((((Mf.st (by decide)).trans (Mf.st (by decide))).trans (Mf.st (by decide))).trans hf) hs)
    refine ⟨?_, ?_, ?_⟩
    · rw [st_cell (by decide), st_cell (by decide), st_at]
      split
      · rename_i e; rw [e]
      · exact (hA s h1 (by omega)).1
    · rw [st_cell (by decide), st_at, st_cell (by decide)]
      split
      · rfl
      · exact (hA s h1 (by omega)).2.1
    · rw [st_at, st_cell (by decide), st_cell (by decide)]
      split
      · rfl
      · exact (hA s h1 (by omega)).2.2
theorem m_finds {d : Nat} {k : Int} {I : ax_H} {Q : ax_H → Prop} (hk : ax_R k) (hg : gd (I 86)) (hQ : ∀ I', Mf [88, 90, 91, 92] I I' → (∀ j, 1 ≤ j → j ≤ 1024 → I' 92 j = tlc (I 86) k 1024 j) → Q I') : cV (d + 6) kX11_findsCycles [ax_r 85, ax_i k] I Q := by
  refine vX11_findsCycles_0 ?_
  refine m_findsKept hg (fun I1 f1 k1 => ?_)
  have e6 : I1 86 = I 86 := f1 86 (by decide)
  refine m_fc6 (g := I 86) hg 1024 0 I1 (by omega) (by omega) e6 (fun s h1 h2 => absurd h2 (by omega)) (fun I2 f2 k2 => ?_)
  refine m_fc49 (g := I 86) (I0 := I) hk hQ 1024 0 I2 (by omega) ((f1.mono (by decide)).trans (f2.mono (by decide))) (fun t ht => by rw [f2 88 (by decide)]; exact k1 t ht) (fun t ht => (k2 t ht).1) (fun t ht => ?_) (fun j j0 j1 => ?_)
  · rw [(k2 t ht).2.1]
    exact ⟨fun c => absurd rfl c, fun ⟨u, u1, _⟩ => absurd u1.2 (by have := u1.1; omega)⟩
  · have := (k2 (j - 1) ⟨by omega, by omega⟩).2.2
    rw [show j - 1 + 1 = j by omega] at this
    rw [this]; rfl
theorem m_cyc84 {d : Nat} {T : Int → Int} {I : ax_H} {Q : Int → ax_H → Prop} {w v b : Int} (hw : ax_R w) (hv : ax_R v) (hb : b = if w < 50 then 1 else 0) (hTb : ∀ j, 0 ≤ T j ∧ T j ≤ 1024) (hT : ∀ j, 1 ≤ j → j ≤ 1024 → I 92 j = T j) (h : Q (if w = 0 then cyF T 0 1024 else if w = 1 then cyF T 1 1024 else if w = 2 then cyF T 2 1024 else cyT T v b 1024) I) : ∀ (m n : Nat), n + m = 1024 →
    RI (d + 7) kX11_cycles 84 [some (ax_r 85), none, some (ax_i w), some (ax_i (cyF T 0 n)), some (ax_i (cyF T 1 n)), some (ax_i (cyF T 2 n)), some (ax_i (cyT T v b n)), some (ax_i v), some (ax_i ((n : Int) + 1))] I Q := by
  intro m
  induction m with
  | zero =>
    intro n hn
    obtain rfl : n = 1024 := by omega
    have bd := cyF_bd hTb 2 1024 (by omega)
    refine vX11_cycles_84 hw ⟨by omega, by omega⟩ hv (by decide) ⟨fun _ => ⟨fun c => ⟨fun c2 => ⟨fun c3 => ?_, fun c3 => ?_⟩, fun c2 => ?_⟩, fun c => ?_⟩, fun c => absurd (by decide) c⟩
    · rw [if_neg c, if_neg c2, if_neg c3] at h; exact h
    · rw [if_neg c, if_neg c2, if_pos c3] at h; exact h
    · rw [if_neg c, if_pos c2] at h; exact h
    · rw [if_pos c] at h; exact h
  | succ m ih =>
    intro n hn
    have bd := cyF_bd hTb 2 n (by omega)
    have e := hT ((n : Int) + 1) (by omega) (by omega)
    have nx := ih (n + 1) (by omega)
    have eF : ∀ z, cyF T z (n + 1) = cyF T z n + (if 0 < T ((n : Int) + 1) then (if z = 0 then T ((n : Int) + 1) else if z = 1 then ((n : Int) + 1) * T ((n : Int) + 1) else 1) else 0) := fun z => rfl
    have eT : cyT T v b (n + 1) = if 0 < T ((n : Int) + 1) ∧ cyF T 2 n = v then (if b = 1 then (n : Int) + 1 else T ((n : Int) + 1)) else cyT T v b n := rfl
    rw [eF, eF, eF, eT, show ((n + 1 : Nat) : Int) + 1 = (n : Int) + 1 + 1 by omega] at nx
    refine vX11_cycles_84 hw ⟨by omega, by omega⟩ hv ⟨by omega, by omega⟩ ⟨fun c => absurd c (by omega), fun _ => ⟨by omega, fun c => ?_, fun c y3 h3 y4 h4 => ⟨fun c2 => ?_, fun c2 => ⟨fun c3 => ?_, fun c3 => ?_⟩⟩⟩⟩
    · rw [e] at c
      simp only [if_neg (show ¬ 0 < T ((n : Int) + 1) by omega), if_neg (show ¬ (0 < T ((n : Int) + 1) ∧ cyF T 2 n = v) by omega), Int.add_zero] at nx
      exact nx
    · rw [e] at c
      simp only [if_pos (show 0 < T ((n : Int) + 1) by omega), if_neg (show ¬ (0 < T ((n : Int) + 1) ∧ cyF T 2 n = v) by omega), show ¬ (1 : Int) = 0 by decide, show ¬ (2 : Int) = 0 by decide, show ¬ (2 : Int) = 1 by decide, if_true, if_false] at nx
      rw [h3, h4, e]; exact nx
    · rw [e] at c
      simp only [if_pos (show 0 < T ((n : Int) + 1) by omega), if_pos (show (0 < T ((n : Int) + 1) ∧ cyF T 2 n = v) by omega), show ¬ (1 : Int) = 0 by decide, show ¬ (2 : Int) = 0 by decide, show ¬ (2 : Int) = 1 by decide, if_true, if_false, show ¬ b = 1 by rw [hb, if_neg (by omega)]; decide] at nx
      rw [h3, h4, e]; exact nx
    · rw [e] at c
      simp only [if_pos (show 0 < T ((n : Int) + 1) by omega), if_pos (show (0 < T ((n : Int) + 1) ∧ cyF T 2 n = v) by omega), show ¬ (1 : Int) = 0 by decide, show ¬ (2 : Int) = 0 by decide, show ¬ (2 : Int) = 1 by decide, if_true, if_false, show b = 1 by rw [hb, if_pos (by omega)]] at nx
      rw [h3, h4, e]; exact nx
theorem z_cycles {d : Nat} {I : ax_H} {Q : Int → ax_H → Prop} {k w : Int} (hk : ax_R k) (hw : ax_R w) (hg : gd (I 86)) (hQ : ∀ I', Mf [88, 90, 91, 92] I I' → Q (r_cycles (I 86) k w) I') : cI (d + 7) kX11_cycles [ax_r 85, ax_i k, ax_i w] I Q := by
  have h0 := hQ I (Mf.rf _ _)
  have run : co k → ((0 ≤ w ∧ w ≤ 2) ∨ (10 ≤ w ∧ w < 90)) → cV (d + 6) kX11_findsCycles [ax_r 85, ax_i k] I (fun I9 =>
      (10 ≤ w →
        (50 ≤ w →
          ∀ y7_79, y7_79 = (w - 50) →
          (RI (d + 7) kX11_cycles 84 [some (ax_r 85), none, some (ax_i w), some (ax_i 0), some (ax_i 0), some (ax_i 0), some (ax_i (-5)), some (ax_i y7_79), some (ax_i 1)] I9 Q)) ∧
        (¬ 50 ≤ w →
          ∀ y7_79, y7_79 = (w - 10) →
          (RI (d + 7) kX11_cycles 84 [some (ax_r 85), none, some (ax_i w), some (ax_i 0), some (ax_i 0), some (ax_i 0), some (ax_i (-5)), some (ax_i y7_79), some (ax_i 1)] I9 Q))) ∧
      (¬ 10 ≤ w →
        RI (d + 7) kX11_cycles 84 [some (ax_r 85), none, some (ax_i w), some (ax_i 0), some (ax_i 0), some (ax_i 0), some (ax_i (-5)), some (ax_i (-1)), some (ax_i 1)] I9 Q)) := by
    intro hc hw2
    refine m_finds hk hg (fun I1 f1 t1 => ?_)
    have hTb : ∀ j, 0 ≤ tlc (I 86) k 1024 j ∧ tlc (I 86) k 1024 j ≤ 1024 := fun j => tlc_bd (I 86) k j 1024
    have fin := hQ I1 f1
    unfold r_cycles at fin
    rw [if_pos ⟨hc, hw2⟩] at fin
    refine ⟨fun c => ⟨fun c2 y hy => ?_, fun c2 y hy => ?_⟩, fun c => ?_⟩
    · refine m_cyc84 (b := 0) hw ⟨by omega, by omega⟩ (by rw [if_neg (by omega)]) hTb t1 ?_ 1024 0 (by omega)
      rw [if_neg (by omega), if_neg (by omega), if_neg (by omega)] at fin
      rw [if_neg (by omega), if_neg (by omega), if_neg (by omega), hy]; exact fin
    · refine m_cyc84 (b := 1) hw ⟨by omega, by omega⟩ (by rw [if_pos (by omega)]) hTb t1 ?_ 1024 0 (by omega)
      rw [if_neg (by omega), if_pos (by omega), if_pos (by omega)] at fin
      rw [if_neg (by omega), if_neg (by omega), if_neg (by omega), hy]; exact fin
    · refine m_cyc84 (b := 1) hw (by decide) (by rw [if_pos (by omega)]) hTb t1 ?_ 1024 0 (by omega)
      rw [if_pos (by omega)] at fin
      have h3 : w = 0 ∨ w = 1 ∨ w = 2 := by omega
      rcases h3 with rfl | rfl | rfl
      · exact fin
      · exact fin
      · exact fin
  refine vX11_cycles_0 hw ?_
  refine m_isCoordinate (d := d + 5) hk (fun hc => b1 ?_) (fun hc => b0 ?_)
  · refine m_in (R8_of hw) (by decide) (by decide) (fun h1 => n1 (run hc (Or.inl h1))) (fun h1 => n0 ?_)
    refine m_in (R8_of hw) (by decide) (by decide) (fun h2 => n1 (run hc (Or.inr (by omega)))) (fun h2 => n0 ?_)
    unfold r_cycles at h0
    rw [if_neg (fun q => by have := q.2; omega)] at h0; exact h0
  · unfold r_cycles at h0
    rw [if_neg (fun q => hc q.1)] at h0; exact h0
