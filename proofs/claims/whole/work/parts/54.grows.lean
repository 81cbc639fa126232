/-! grows: a row of unlike spots that is walked while it grows -/
theorem sm_upd {f f' : Nat → Int} {s : Nat} (h : ∀ i, i ≠ s → f' i = f i) (hs : f' s = f s + 1) : ∀ n, sm f' n = sm f n + (if s < n then 1 else 0)
  | 0 => by show (0 : Int) = 0 + _; rw [if_neg (by omega)]; rfl
  | n + 1 => by
    show sm f' n + f' n = sm f n + f n + _
    rw [sm_upd h hs n]
    by_cases e : n = s
    · subst e; rw [hs, if_neg (by omega), if_pos (by omega)]; omega
    · rw [h n e]
      by_cases c : s < n
      · rw [if_pos c, if_pos (by omega)]; omega
      · rw [if_neg c, if_neg (by omega)]; omega
def inl (L : List Int) (t : Nat) : Int := if (t : Int) ∈ L then 1 else 0
def gl (L : List Int) : Prop := (∀ t ∈ L, spt t) ∧ (L.length : Int) = sm (inl L) 1024
theorem inl_bd (L : List Int) (t : Nat) : 0 ≤ inl L t ∧ inl L t ≤ 1 := by unfold inl; split <;> omega
theorem gl.le {L : List Int} (h : gl L) : L.length ≤ 1024 := by
  have := sm_bd (f := inl L) (inl_bd L) 1024
  have := h.2
  omega
theorem gl_push {L : List Int} {s : Int} (h : gl L) (hs : spt s) (hn : s ∉ L) : gl (L ++ [s]) ∧ L.length < 1024 := by
  have e : sm (inl (L ++ [s])) 1024 = sm (inl L) 1024 + (if s.toNat < 1024 then 1 else 0) := by
    refine sm_upd (s := s.toNat) (fun i hi => ?_) ?_ 1024
    · unfold inl
      have : ((i : Int) ∈ L ++ [s]) ↔ ((i : Int) ∈ L) := by
        rw [List.mem_append, List.mem_singleton]
        exact ⟨fun q => q.elim id (fun q => absurd q (by have := hs.1; omega)), Or.inl⟩
      simp only [this]
    · unfold inl
      rw [show ((s.toNat : Nat) : Int) = s by have := hs.1; omega]
      rw [if_pos (List.mem_append_right _ (List.mem_singleton.2 rfl)), if_neg hn]; rfl
  rw [if_pos (by have := hs.2; omega)] at e
  have g2 : gl (L ++ [s]) := by
    refine ⟨fun t ht => ?_, ?_⟩
    · rcases List.mem_append.1 ht with q | q
      · exact h.1 t q
      · rw [List.mem_singleton.1 q]; exact hs
    · rw [e, ← h.2, List.length_append]; rfl
  refine ⟨g2, ?_⟩
  have := g2.le
  rw [List.length_append, List.length_singleton] at this
  omega
def psh (L : List Int) (s : Int) : List Int := if s = -7 ∨ s ∈ L then L else L ++ [s]
theorem gl_psh {L : List Int} {s : Int} (h : gl L) (hs : s = -7 ∨ spt s) : gl (psh L s) ∧ L.length ≤ (psh L s).length := by
  unfold psh
  split
  · exact ⟨h, Nat.le_refl _⟩
  · rename_i c
    exact ⟨(gl_push h (hs.resolve_left (fun q => c (Or.inl q))) (fun q => c (Or.inr q))).1, by rw [List.length_append]; omega⟩
theorem gD_l {L : List Int} {s : Int} {k : Nat} (h : k < L.length) : (L ++ [s]).getD k 0 = L.getD k 0 := by
  simp [List.getD, List.getElem?_append_left h]
theorem gD_r {L : List Int} {s : Int} : (L ++ [s]).getD L.length 0 = s := by
  simp [List.getD]
theorem gD_mem {L : List Int} {k : Nat} (h : k < L.length) : L.getD k 0 ∈ L := by
  simp [List.getD, h]
def rnd (g : Int → Int) : Nat → Nat → List Int → List Int
  | 0, _, L => L
  | m + 1, k, L => rnd g m (k + 1) (psh L (nxt g (L.getD k 0)))
def grw (g : Int → Int) : Nat → Nat → List Int → Int
  | 0, _, L => L.length
  | t + 1, f, L => grw g t L.length (rnd g (L.length - f) f L)
theorem gl_rnd {g : Int → Int} : ∀ (m k : Nat) (L : List Int), gl L → gl (rnd g m k L) ∧ L.length ≤ (rnd g m k L).length
  | 0, _, L, h => ⟨h, Nat.le_refl _⟩
  | m + 1, k, L, h => by
    have a := gl_psh h (s := nxt g (L.getD k 0)) nxt_spt
    have b := gl_rnd (g := g) m (k + 1) _ a.1
    exact ⟨b.1, Nat.le_trans a.2 b.2⟩
/-- flags at cell a, the row at cell b -/
def mc (a b : Nat) (I : ax_H) (L : List Int) : Prop := (∀ t, spt t → (I a t ≠ 0 ↔ t ∈ L)) ∧ ∀ k : Nat, k < L.length → I b (k : Int) = L.getD k 0
theorem mc_push {a b : Nat} {I : ax_H} {L : List Int} {s : Int} (hab : a ≠ b) (h : mc a b I L) (hs : spt s) : mc a b (ax_st (ax_st I a s 1) b (L.length : Int) s) (L ++ [s]) := by
  refine ⟨fun t ht => ?_, fun k hk => ?_⟩
  · rw [st_cell hab, st_at, List.mem_append, List.mem_singleton, ← h.1 t ht]
    by_cases e : t = s
    · rw [if_pos e]; exact ⟨fun _ => Or.inr e, fun _ => by decide⟩
    · rw [if_neg e]; exact ⟨Or.inl, fun q => q.elim id (fun q => absurd q e)⟩
  · rw [st_at]
    rw [List.length_append, List.length_singleton] at hk
    by_cases e : k = L.length
    · subst e; rw [if_pos rfl, gD_r]
    · rw [if_neg (by omega), st_cell (fun q => hab q.symm), gD_l (by omega)]
      exact h.2 k (by omega)
theorem mc.of {a b : Nat} {I I' : ax_H} {L : List Int} (h : mc a b I L) (ea : I' a = I a) (eb : I' b = I b) : mc a b I' L := by
  unfold mc at *
  rw [ea, eb]; exact h
theorem c_reach {d : Nat} {I : ax_H} {L : List Int} {s : Int} {Q : Int → ax_H → Prop} (hL : gl L) (hM : mc 8 9 I L) (hs : s = -7 ∨ spt s) (hQ : ∀ I', Mf [8, 9] I I' → mc 8 9 I' (psh L s) → Q ((psh L s).length : Int) I') : cI d kX1_reach [ax_r 1, ax_i s, ax_i (L.length : Int)] I Q := by
  have hle := hL.le
  have same : (s = -7 ∨ s ∈ L) → Q (L.length : Int) I := fun c => by
    have := hQ I (Mf.rf _ _)
    unfold psh at this
    rw [if_pos c] at this
    exact this hM
  refine vX1_reach_0 (spt_R hs) ⟨by omega, by omega⟩ ⟨fun c => same (Or.inl (hs.resolve_right (fun q => by have := q.1; omega))), fun c => ?_⟩
  have hsp : spt s := hs.resolve_left (fun q => by omega)
  have fl := hM.1 s hsp
  refine ⟨fun c2 => absurd c2 (by have := hsp.2; omega), fun _ => ⟨fun c3 => absurd c3 (by omega), fun _ => ⟨fun c4 => ?_, fun c4 => ⟨hsp, fun c5 => ?_, fun c5 => same (Or.inr (fl.1 c5))⟩⟩⟩⟩
  · refine same (Or.inr ?_)
    by_cases q : s ∈ L
    · exact q
    · have := (gl_push hL hsp q).2; omega
  · have nl : s ∉ L := fun q => absurd c5 (fl.2 q)
    have := hQ (ax_st (ax_st I 8 s 1) 9 (L.length : Int) s) ((Mf.st (by decide)).trans (Mf.st (by decide)))
    unfold psh at this
    rw [if_neg (fun q => q.elim (fun q => by omega) nl)] at this
    have := this (mc_push (by decide) hM hsp)
    rw [List.length_append] at this
    exact ⟨by omega, this⟩
def Rg (I I' : ax_H) : Prop := Mf [1, 4, 7, 8, 9] I I' ∧ ∀ k, k ≠ 2 → I' 1 k = I 1 k
theorem Rg.rf (I : ax_H) : Rg I I := ⟨Mf.rf _ _, fun _ _ => rfl⟩
theorem Rg.trans {I I' I'' : ax_H} (h : Rg I I') (h' : Rg I' I'') : Rg I I'' := ⟨h.1.trans h'.1, fun k hk => (h'.2 k hk).trans (h.2 k hk)⟩
theorem Rg.rows {I I' : ax_H} (h : Rf I I') : Rg I I' := ⟨fun b hb => by
  simp only [List.mem_cons, List.not_mem_nil, or_false, not_or] at hb
  exact h.1 b hb.1 hb.2.1 hb.2.2.1, h.2⟩
theorem Rg.q {I I' : ax_H} (h : Mf [8, 9] I I') : Rg I I' := ⟨h.mono (by intro a; simp only [List.mem_cons, List.not_mem_nil, or_false]; omega), fun k _ => by rw [h 1 (by decide)]⟩
theorem c_reach69 {d : Nat} {g : Int → Int} {Q : Int → ax_H → Prop} {x2 x5 : Int} {e : Nat} : ∀ (m k : Nat) (L : List Int) (I : ax_H), k + m = e → e ≤ L.length → gl L → mc 8 9 I L → RInv g I →
    (∀ I', Rg I I' → RInv g I' → mc 8 9 I' (rnd g m k L) → RI (d + 4) kX1_reachOf 60 [some (ax_r 1), none, some (ax_i x2), some (ax_i ((rnd g m k L).length : Int)), some (ax_i (e : Int)), some (ax_i (x5 + 1)), none] I' Q) →
    RI (d + 4) kX1_reachOf 69 [some (ax_r 1), none, some (ax_i x2), some (ax_i (L.length : Int)), some (ax_i (k : Int)), some (ax_i x5), some (ax_i (e : Int))] I Q := by
  intro m
  induction m with
  | zero =>
    intro k L I hk he hL hM hR hQ
    obtain rfl : k = e := by omega
    have hle := hL.le
    exact vX1_reachOf_69 ⟨by omega, by omega⟩ ⟨by omega, by omega⟩ ⟨fun _ => hQ I (Rg.rf I) hR hM, fun c => absurd (Int.le_refl _) c⟩
  | succ m ih =>
    intro k L I hk he hL hM hR hQ
    have hle := hL.le
    have e9 := hM.2 k (by omega)
    have hsp := hL.1 _ (gD_mem (L := L) (k := k) (by omega))
    refine vX1_reachOf_69 ⟨by omega, by omega⟩ ⟨by omega, by omega⟩ ⟨fun c => absurd c (by omega), fun _ => ⟨fun c => absurd c (by omega), fun _ => ⟨by omega, ?_⟩⟩⟩
    rw [e9]
    refine c_stepFrom hR (spt_R (Or.inr hsp)) (fun I1 f1 r1 => ?_)
    refine c_reach hL (hM.of (f1.1 8 (by decide) (by decide) (by decide)) (f1.1 9 (by decide) (by decide) (by decide))) nxt_spt (fun I2 f2 m2 => ?_)
    have p := gl_psh hL (s := nxt g (L.getD k 0)) nxt_spt
    have w : ∀ b, b ≠ 8 → b ≠ 9 → I2 b = I1 b := fun b q1 q2 => f2 b (by simp [q1, q2])
    rw [show (k : Int) + 1 = ((k + 1 : Nat) : Int) by omega]
    exact ih (k + 1) _ I2 (by omega) (by omega) p.1 m2 (r1.of (w 1 (by decide) (by decide)) (w 3 (by decide) (by decide)) (w 4 (by decide) (by decide)) (w 7 (by decide) (by decide))) (fun I' f' r' m' => hQ I' (((Rg.rows f1).trans (Rg.q f2)).trans f') r' m')
theorem c_reach60 {d : Nat} {g : Int → Int} {Q : Int → ax_H → Prop} {N : Nat} (hN : N ≤ 40) : ∀ (t j f : Nat) (L : List Int) (I : ax_H), j + t = N → f ≤ L.length → gl L → mc 8 9 I L → RInv g I →
    (∀ I', Rg I I' → RInv g I' → Q (grw g t f L) I') →
    RI (d + 4) kX1_reachOf 60 [some (ax_r 1), none, some (ax_i (N : Int)), some (ax_i (L.length : Int)), some (ax_i (f : Int)), some (ax_i (j : Int)), none] I Q := by
  intro t
  induction t with
  | zero =>
    intro j f L I hj hf hL hM hR hQ
    exact vX1_reachOf_60 ⟨by omega, by omega⟩ ⟨by omega, by omega⟩ ⟨fun _ => hQ I (Rg.rf I) hR, fun c => absurd (by omega) c⟩
  | succ t ih =>
    intro j f L I hj hf hL hM hR hQ
    refine vX1_reachOf_60 ⟨by omega, by omega⟩ ⟨by omega, by omega⟩ ⟨fun c => absurd c (by omega), fun _ => ?_⟩
    refine c_reach69 (g := g) (e := L.length) (L.length - f) f L I (by omega) (Nat.le_refl _) hL hM hR (fun I1 f1 r1 m1 => ?_)
    have p := gl_rnd (g := g) (L.length - f) f L hL
    rw [show (j : Int) + 1 = ((j + 1 : Nat) : Int) by omega]
    exact ih (j + 1) L.length _ I1 (by omega) p.2 p.1 m1 r1 (fun I' f' r' => hQ I' (f1.trans f') r')
/-- the first n of p -/
def lst (p : Int → Int) : Nat → List Int
  | 0 => []
  | n + 1 => lst p n ++ [p n]
theorem lst_len (p : Int → Int) : ∀ n, (lst p n).length = n
  | 0 => rfl
  | n + 1 => by show (lst p n ++ [p n]).length = n + 1; rw [List.length_append, lst_len p n]; rfl
theorem lst_mem {p : Int → Int} {s : Int} : ∀ n : Nat, s ∈ lst p n ↔ mem p n s
  | 0 => ⟨fun h => absurd h List.not_mem_nil, fun ⟨k, k0, k1, _⟩ => absurd k1 (by omega)⟩
  | n + 1 => by
    show s ∈ lst p n ++ [p n] ↔ _
    rw [List.mem_append, List.mem_singleton, lst_mem n]
    constructor
    · rintro (⟨k, k0, k1, k2⟩ | h)
      · exact ⟨k, k0, by omega, k2⟩
      · exact ⟨n, by omega, by omega, h.symm⟩
    · rintro ⟨k, k0, k1, k2⟩
      by_cases e : k = n
      · exact Or.inr (by rw [← k2, e])
      · exact Or.inl ⟨k, k0, by omega, k2⟩
theorem lst_new {p : Int → Int} {n : Int} {c : Nat} (h : okS p n) (hc : (c : Int) < n) : p c ∉ lst p c := by
  rw [lst_mem]
  rintro ⟨k, k0, k1, k2⟩
  have := h.2.1 k c k0 k1 hc
  omega
theorem lst_gl {p : Int → Int} {n : Int} (h : okS p n) : ∀ c : Nat, (c : Int) ≤ n → gl (lst p c)
  | 0, _ => ⟨fun t ht => absurd ht List.not_mem_nil, by
      show (0 : Int) = _
      rw [sm_congr (f := inl (lst p 0)) (g := fun _ => 0) 1024 (fun i _ => if_neg List.not_mem_nil), sm_0]⟩
  | c + 1, hc => (gl_push (lst_gl h c (by omega)) (h.2.2 c (by omega) (by omega)) (lst_new h (by omega))).1
theorem lst_psh {p : Int → Int} {n : Int} {c : Nat} (h : okS p n) (hc : (c : Int) < n) : psh (lst p c) (p c) = lst p (c + 1) := by
  unfold psh
  have hs := h.2.2 c (by omega) hc
  rw [if_neg (fun q => q.elim (fun q => by have := hs.1; omega) (lst_new h hc))]
  rfl
theorem lst_congr {p q : Int → Int} : ∀ n : Nat, (∀ k, 0 ≤ k → k < n → p k = q k) → lst p n = lst q n
  | 0, _ => rfl
  | n + 1, h => by
    show lst p n ++ [p n] = lst q n ++ [q n]
    rw [lst_congr n (fun k k0 k1 => h k k0 (by omega)), h n (by omega) (by omega)]
theorem c_reach27 {d a1 : Nat} {p : Int → Int} {n : Nat} {x2 : Int} {Q : Int → ax_H → Prop} (h1 : isSp a1) (ha : 9 < a1) (hok : okS p n) : ∀ (m k : Nat) (I : ax_H), k + m = n → I a1 1 = n → (∀ i, 0 ≤ i → i < n → I (a1 + 1) i = p i) → mc 8 9 I (lst p k) →
    (∀ I', Mf [8, 9] I I' → mc 8 9 I' (lst p n) → RI (d + 4) kX1_reachOf 60 [some (ax_r 1), none, some (ax_i x2), some (ax_i ((lst p n).length : Int)), some (ax_i 0), some (ax_i 0), none] I' Q) →
    RI (d + 4) kX1_reachOf 27 [some (ax_r 1), some (ax_r a1), some (ax_i x2), some (ax_i ((lst p k).length : Int)), some (ax_i (k : Int)), none, none] I Q := by
  have hb := hok.1
  intro m
  induction m with
  | zero =>
    intro k I hk hn hr hM hQ
    obtain rfl : k = n := by omega
    exact vX1_reachOf_27 h1 ⟨by omega, by omega⟩ ⟨fun _ => hQ I (Mf.rf _ _) hM, fun c => absurd (by omega) c⟩
  | succ m ih =>
    intro k I hk hn hr hM hQ
    have e := hr k (by omega) (by omega)
    have hs := hok.2.2 k (by omega) (by omega)
    refine vX1_reachOf_27 h1 ⟨by omega, by omega⟩ ⟨fun c => absurd c (by omega), fun _ => ?_⟩
    refine c_spotAt h1 ⟨by omega, by omega⟩ (by omega) ?_
    rw [if_pos (by omega), e]
    refine c_reach (lst_gl hok k (by omega)) hM (Or.inr hs) (fun I1 f1 m1 => ?_)
    rw [lst_psh hok (by omega)] at m1 ⊢
    rw [show (k : Int) + 1 = ((k + 1 : Nat) : Int) by omega]
    refine ih (k + 1) I1 (by omega) (by rw [f1 a1 (by simp; omega)]; exact hn) (fun i i0 i1 => by rw [f1 (a1 + 1) (by simp; omega)]; exact hr i i0 i1) m1 (fun I' f' m' => hQ I' (f1.trans f') m')
theorem c_reach2 {d a1 : Nat} {x2 : Int} {Q : Int → ax_H → Prop} (h1 : isSp a1) : ∀ (n : Nat) (k : Int) (I : ax_H), k = 1024 - n → n ≤ 1024 → (∀ s, 0 ≤ s → s < k → I 8 s = 0) →
    (∀ I', Mf [8, 9] I I' → (∀ s, spt s → I' 8 s = 0) → RI (d + 4) kX1_reachOf 27 [some (ax_r 1), some (ax_r a1), some (ax_i x2), some (ax_i 0), some (ax_i 0), none, none] I' Q) →
    RI (d + 4) kX1_reachOf 2 [some (ax_r 1), some (ax_r a1), some (ax_i x2), some (ax_i k), none, none, none] I Q := by
  intro n
  induction n with
  | zero =>
    intro k I hk _ hA hQ
    exact vX1_reachOf_2 h1 ⟨by omega, by omega⟩ ⟨fun _ => hQ I (Mf.rf _ I) (fun s hs => hA s hs.1 (by omega)), fun c => absurd (by omega) c⟩
  | succ n ih =>
    intro k I hk hn hA hQ
    refine vX1_reachOf_2 h1 ⟨by omega, by omega⟩ ⟨fun c => absurd c (by omega), fun _ => ⟨by omega, ?_⟩⟩
    refine ih (k + 1) _ (by omega) (by omega) (fun s h1 h2 => ?_) (fun I' hf hs => hQ I' ((Mf.st (by decide)).trans hf) hs)
    rw [st_at]
    split
    · rfl
    · exact hA s h1 (by omega)
def r_grows (g p : Int → Int) (n : Nat) (t : Int) : Int := if 0 ≤ t ∧ t ≤ 40 then grw g t.toNat 0 (lst p n) else -2
theorem mc_nil {a b : Nat} {I : ax_H} (h : ∀ s, spt s → I a s = 0) : mc a b I [] :=
  ⟨fun t ht => ⟨fun c => absurd (h t ht) c, fun c => absurd c List.not_mem_nil⟩, fun k hk => absurd hk (by simp)⟩
theorem a_grows {d : Nat} {g : Int → Int} {I : ax_H} {Q : Int → ax_H → Prop} {t : Int} (ht : ax_R t) (hR : RInv g I) (hok : okS (I 64) (I 63 1)) (hQ : ∀ I', Rg I I' → RInv g I' → Q (r_grows g (I 64) (I 63 1).toNat t) I') : cI (d + 5) kX10_grows [ax_r 0, ax_i t] I Q := by
  have h0 := hQ I (Rg.rf I) hR
  unfold r_grows at hQ h0
  refine vX10_grows_0 ht ⟨fun c => ?_, fun c => ⟨fun c2 => ?_, fun c2 => ?_⟩⟩
  · rw [if_neg (by omega)] at h0; exact h0
  · simp only [if_pos (show 0 ≤ t ∧ t ≤ 40 by omega)] at hQ
    have hb := hok.1
    have en : (((I 63 1).toNat : Nat) : Int) = I 63 1 := by omega
    refine vX1_reachOf_0 isSp63 ?_
    refine c_reach2 isSp63 1024 0 I (by omega) (by omega) (fun s h1 h2 => absurd h2 (by omega)) (fun I1 f1 k1 => ?_)
    refine c_reach27 (p := I 64) (n := (I 63 1).toNat) isSp63 (by decide) (by rw [en]; exact hok) (I 63 1).toNat 0 I1 (by omega) (by rw [f1 63 (by decide), en]) (fun i i0 i1 => by rw [f1 64 (by decide)]) (mc_nil k1) (fun I2 f2 m2 => ?_)
    have r2 : RInv g I2 := hR.of (by rw [f2 1 (by decide), f1 1 (by decide)]) (by rw [f2 3 (by decide), f1 3 (by decide)]) (by rw [f2 4 (by decide), f1 4 (by decide)]) (by rw [f2 7 (by decide), f1 7 (by decide)])
    have := c_reach60 (d := d) (g := g) (Q := Q) (N := t.toNat) (by omega) t.toNat 0 0 _ I2 (by omega) (by omega) (lst_gl (n := I 63 1) hok (I 63 1).toNat (by omega)) m2 r2 (fun I' f' r' => hQ I' ((Rg.q (f1.trans f2)).trans f') r')
    rw [show ((t.toNat : Nat) : Int) = t by omega] at this
    exact this
  · rw [if_neg (by omega)] at h0; exact h0
/-! the reference's -/
theorem m_grow108 {d : Nat} {g : Int → Int} {Q : Int → ax_H → Prop} {x1 x4 : Int} {e : Nat} (hg : gd g) : ∀ (m k : Nat) (L : List Int) (I : ax_H), k + m = e → e ≤ L.length → gl L → mc 112 90 I L → I 86 = g →
    (∀ I', Mf [112, 90] I I' → mc 112 90 I' (rnd g m k L) → RI (d + 6) kX11_grows 96 [some (ax_r 85), some (ax_i x1), some (ax_i ((rnd g m k L).length : Int)), some (ax_i (e : Int)), some (ax_i (x4 + 1)), none, none, none] I' Q) →
    RI (d + 6) kX11_grows 108 [some (ax_r 85), some (ax_i x1), some (ax_i (L.length : Int)), none, some (ax_i x4), some (ax_i (e : Int)), some (ax_i (k : Int)), none] I Q := by
  intro m
  induction m with
  | zero =>
    intro k L I hk he hL hM h6 hQ
    obtain rfl : k = e := by omega
    have hle := hL.le
    exact vX11_grows_108 ⟨by omega, by omega⟩ ⟨by omega, by omega⟩ ⟨fun _ => hQ I (Mf.rf _ I) hM, fun c => absurd (Int.le_refl _) c⟩
  | succ m ih =>
    intro k L I hk he hL hM h6 hQ
    have hle := hL.le
    have e9 := hM.2 k (by omega)
    have hsp := hL.1 _ (gD_mem (L := L) (k := k) (by omega))
    have nx : (k : Int) + 1 = ((k + 1 : Nat) : Int) := by omega
    refine vX11_grows_108 ⟨by omega, by omega⟩ ⟨by omega, by omega⟩ ⟨fun c => absurd c (by omega), fun _ => ⟨by omega, ?_⟩⟩
    rw [e9]
    refine m_step0 (by rw [h6]; exact hg) hsp ?_
    rw [h6, nx]
    have hx := @nxt_spt g (L.getD k 0)
    have same : (nxt g (L.getD k 0) = -7 ∨ nxt g (L.getD k 0) ∈ L) → RI (d + 6) kX11_grows 108 [some (ax_r 85), some (ax_i x1), some (ax_i (L.length : Int)), none, some (ax_i x4), some (ax_i (e : Int)), some (ax_i ((k + 1 : Nat) : Int)), none] I Q := fun c => by
      have ep : psh L (nxt g (L.getD k 0)) = L := if_pos c
      have hQ2 := hQ
      unfold rnd at hQ2
      rw [ep] at hQ2
      exact ih (k + 1) L I (by omega) (by omega) hL hM h6 hQ2
    refine ⟨nxt_R _ _, fun c => same (Or.inl c), fun c => ?_⟩
    have hxs := hx.resolve_left c
    have fl := hM.1 _ hxs
    refine ⟨hxs, fun c2 => same (Or.inr (fl.1 c2)), fun c2 => ?_⟩
    have nl : nxt g (L.getD k 0) ∉ L := fun q => absurd c2 (fl.2 q)
    have p := gl_push hL hxs nl
    have ep : psh L (nxt g (L.getD k 0)) = L ++ [nxt g (L.getD k 0)] := if_neg (fun q => q.elim c nl)
    have hQ2 := hQ
    unfold rnd at hQ2
    rw [ep] at hQ2
    refine ⟨by omega, ?_⟩
    have := ih (k + 1) (L ++ [nxt g (L.getD k 0)]) (ax_st (ax_st I 112 (nxt g (L.getD k 0)) 1) 90 (L.length : Int) (nxt g (L.getD k 0))) (by omega) (by rw [List.length_append]; omega) p.1 (mc_push (by decide) hM hxs) (by rw [st_cell (by decide), st_cell (by decide)]; exact h6) (fun I' f' m' => hQ2 I' (((Mf.st (by decide)).trans (Mf.st (by decide))).trans f') m')
    rw [List.length_append, List.length_singleton, show ((L.length + 1 : Nat) : Int) = (L.length : Int) + 1 by omega] at this
    exact this
theorem m_grow96 {d : Nat} {g : Int → Int} {Q : Int → ax_H → Prop} {N : Nat} (hg : gd g) (hN : N ≤ 40) : ∀ (t j f : Nat) (L : List Int) (I : ax_H), j + t = N → f ≤ L.length → gl L → mc 112 90 I L → I 86 = g →
    (∀ I', Mf [112, 90] I I' → Q (grw g t f L) I') →
    RI (d + 6) kX11_grows 96 [some (ax_r 85), some (ax_i (N : Int)), some (ax_i (L.length : Int)), some (ax_i (f : Int)), some (ax_i (j : Int)), none, none, none] I Q := by
  intro t
  induction t with
  | zero =>
    intro j f L I hj hf hL hM h6 hQ
    exact vX11_grows_96 ⟨by omega, by omega⟩ ⟨by omega, by omega⟩ ⟨fun _ => hQ I (Mf.rf _ I), fun c => absurd (by omega) c⟩
  | succ t ih =>
    intro j f L I hj hf hL hM h6 hQ
    refine vX11_grows_96 ⟨by omega, by omega⟩ ⟨by omega, by omega⟩ ⟨fun c => absurd c (by omega), fun _ => ?_⟩
    refine m_grow108 (g := g) (e := L.length) hg (L.length - f) f L I (by omega) (Nat.le_refl _) hL hM h6 (fun I1 f1 m1 => ?_)
    have p := gl_rnd (g := g) (L.length - f) f L hL
    rw [show (j : Int) + 1 = ((j + 1 : Nat) : Int) by omega]
    exact ih (j + 1) L.length _ I1 (by omega) p.2 p.1 m1 (by rw [f1 86 (by decide)]; exact h6) (fun I' f' => hQ I' (f1.trans f'))
theorem m_grow41 {d : Nat} {n : Nat} {g : Int → Int} {x1 : Int} {Q : Int → ax_H → Prop} (hok : okS (fun k => g (19 + k)) n) (h18 : g 18 = n) : ∀ (m k : Nat) (I : ax_H), k + m = n → I 86 = g → mc 112 90 I (lst (fun k => g (19 + k)) k) →
    (∀ I', Mf [112, 90] I I' → mc 112 90 I' (lst (fun k => g (19 + k)) n) → RI (d + 6) kX11_grows 96 [some (ax_r 85), some (ax_i x1), some (ax_i ((lst (fun k => g (19 + k)) n).length : Int)), some (ax_i 0), some (ax_i 0), none, none, none] I' Q) →
    RI (d + 6) kX11_grows 41 [some (ax_r 85), some (ax_i x1), some (ax_i ((lst (fun k => g (19 + k)) k).length : Int)), some (ax_i (k : Int)), none, none, none, none] I Q := by
  have hb := hok.1
  intro m
  induction m with
  | zero =>
    intro k I hk h6 hM hQ
    obtain rfl : k = n := by omega
    exact vX11_grows_41 ⟨by omega, by omega⟩ ⟨fun _ => hQ I (Mf.rf _ I) hM, fun c => absurd (by rw [h6, h18]; omega) c⟩
  | succ m ih =>
    intro k I hk h6 hM hQ
    have hs := hok.2.2 k (by omega) (by omega)
    have p := gl_push (lst_gl hok k (by omega)) hs (lst_new hok (by omega))
    refine vX11_grows_41 ⟨by omega, by omega⟩ ⟨fun c => absurd c (by rw [h6, h18]; omega), fun _ => ⟨by omega, ?_⟩⟩
    rw [show (ax_st I 112 (I 86 (19 + (k : Int))) 1) 86 (19 + (k : Int)) = I 86 (19 + (k : Int)) by rw [st_cell (by decide)], h6]
    refine ⟨hs, by omega, ?_⟩
    have := ih (k + 1) (ax_st (ax_st I 112 (g (19 + (k : Int))) 1) 90 ((lst (fun k => g (19 + k)) k).length : Int) (g (19 + (k : Int)))) (by omega) (by rw [st_cell (by decide), st_cell (by decide)]; exact h6) (mc_push (by decide) hM hs) (fun I' f' m' => hQ I' (((Mf.st (by decide)).trans (Mf.st (by decide))).trans f') m')
    rw [show ((lst (fun k => g (19 + k)) (k + 1)).length : Int) = ((lst (fun k => g (19 + k)) k).length : Int) + 1 by rw [lst_len, lst_len]; omega, show ((k + 1 : Nat) : Int) = (k : Int) + 1 by omega] at this
    exact this
theorem m_grow17 {d : Nat} {x1 : Int} {Q : Int → ax_H → Prop} : ∀ (n : Nat) (k : Int) (I : ax_H), k = 1024 - n → n ≤ 1024 → (∀ s, 0 ≤ s → s < k → I 112 s = 0) →
    (∀ I', Mf [112, 90] I I' → (∀ s, spt s → I' 112 s = 0) → RI (d + 6) kX11_grows 41 [some (ax_r 85), some (ax_i x1), some (ax_i 0), some (ax_i 0), none, none, none, none] I' Q) →
    RI (d + 6) kX11_grows 17 [some (ax_r 85), some (ax_i x1), some (ax_i k), none, none, none, none, none] I Q := by
  intro n
  induction n with
  | zero =>
    intro k I hk _ hA hQ
    exact vX11_grows_17 ⟨by omega, by omega⟩ ⟨fun _ => hQ I (Mf.rf _ I) (fun s hs => hA s hs.1 (by omega)), fun c => absurd (by omega) c⟩
  | succ n ih =>
    intro k I hk hn hA hQ
    refine vX11_grows_17 ⟨by omega, by omega⟩ ⟨fun c => absurd c (by omega), fun _ => ⟨by omega, ?_⟩⟩
    refine ih (k + 1) _ (by omega) (by omega) (fun s h1 h2 => ?_) (fun I' hf hs => hQ I' ((Mf.st (by decide)).trans hf) hs)
    rw [st_at]
    split
    · rfl
    · exact hA s h1 (by omega)
theorem z_grows {d : Nat} {I : ax_H} {Q : Int → ax_H → Prop} {t : Int} (ht : ax_R t) (hg : gd (I 86)) (hok : okS (rp I) (I 86 18)) (hQ : ∀ I', Mf [112, 90] I I' → Q (r_grows (I 86) (rp I) (I 86 18).toNat t) I') : cI (d + 6) kX11_grows [ax_r 85, ax_i t] I Q := by
  have h0 := hQ I (Mf.rf _ I)
  unfold r_grows at hQ h0
  refine vX11_grows_0 ht ?_
  refine m_in (R8_of ht) (by decide) (by decide) (fun c => n1 ?_) (fun c => n0 ?_)
  · simp only [if_pos c] at hQ
    have hb := hok.1
    have en : (((I 86 18).toNat : Nat) : Int) = I 86 18 := by omega
    refine m_grow17 1024 0 I (by omega) (by omega) (fun s h1 h2 => absurd h2 (by omega)) (fun I1 f1 k1 => ?_)
    have e6 := f1 86 (by decide)
    refine m_grow41 (g := I 86) (n := (I 86 18).toNat) (by rw [en]; exact hok) en.symm (I 86 18).toNat 0 I1 (by omega) e6 (mc_nil k1) (fun I2 f2 m2 => ?_)
    have := m_grow96 (d := d) (g := I 86) (Q := Q) (N := t.toNat) hg (by omega) t.toNat 0 0 _ I2 (by omega) (by omega) (lst_gl (n := I 86 18) hok (I 86 18).toNat (by omega)) m2 (by rw [f2 86 (by decide), e6]) (fun I' f' => hQ I' ((f1.trans f2).trans f'))
    rw [show ((t.toNat : Nat) : Int) = t by omega] at this
    exact this
  · rw [if_neg c] at h0; exact h0
