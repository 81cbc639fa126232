/-! write, paper, judge -/
def tt (first : Bool) (num i j : Int) : List Int := (if first then [] else [43]) ++ (if num ≤ 9 then [48 + num % 10] else [48 + num / 10, 48 + num % 10]) ++ List.replicate i.toNat 120 ++ List.replicate j.toNat 121
theorem tt_len (first : Bool) (num i j : Int) (hi : 0 ≤ i) (hj : 0 ≤ j) : ((tt first num i j).length : Int) ≤ 3 + i + j := by
  unfold tt
  rw [List.length_append, List.length_append, List.length_append, List.length_replicate, List.length_replicate]
  have h1 : (if first then ([] : List Int) else [43]).length ≤ 1 := by split <;> simp
  have h2 : (if num ≤ 9 then [48 + num % 10] else [48 + num / 10, 48 + num % 10]).length ≤ 2 := by split <;> simp
  omega
/-- cell b holds the text T, its length stands in cell a at place k -/
def pap (a : Nat) (k : Int) (b : Nat) (I : ax_H) (T : List Int) : Prop := I a k = T.length ∧ ∀ j : Nat, j < T.length → I b (j : Int) = T.getD j 0
theorem pap_push {a b : Nat} {k : Int} {I : ax_H} {T : List Int} {s : Int} (hab : a ≠ b) (h : pap a k b I T) : pap a k b (ax_st (ax_st I b (T.length : Int) s) a k ((T.length : Int) + 1)) (T ++ [s]) := by
  refine ⟨by rw [st_same, List.length_append, List.length_singleton]; omega, fun j hj => ?_⟩
  rw [List.length_append, List.length_singleton] at hj
  rw [st_cell (fun q => hab q.symm), st_at]
  by_cases e : j = T.length
  · subst e; rw [if_pos rfl, gD_r]
  · rw [if_neg (by omega), gD_l (by omega)]
    exact h.2 j (by omega)
def Wf (I I' : ax_H) : Prop := Mf [72, 73] I I' ∧ ∀ k, k ≠ 1 → I' 72 k = I 72 k
theorem Wf.rf (I : ax_H) : Wf I I := ⟨Mf.rf _ _, fun _ _ => rfl⟩
theorem Wf.trans {I I' I'' : ax_H} (h : Wf I I') (h' : Wf I' I'') : Wf I I'' := ⟨h.1.trans h'.1, fun k hk => (h'.2 k hk).trans (h.2 k hk)⟩
theorem c_app {d : Nat} {I : ax_H} {Q : ax_H → Prop} {T : List Int} {s : Int} (hs : ax_R s) (h : pap 72 1 73 I T) (hl : T.length < 60) (hQ : ∀ I', Wf I I' → pap 72 1 73 I' (T ++ [s]) → Q I') : cV d kX0_append [ax_r 72, ax_i s] I Q := by
  refine c_append (a := 72) isBy72 hs (by rw [h.1]; omega) ?_
  rw [h.1]
  exact hQ _ ⟨(Mf.st (by decide)).trans (Mf.st (by decide)), fun k hk => by rw [st_ne (Or.inr hk), st_cell (by decide)]⟩ (pap_push (by decide) h)
theorem c_wt65 {d : Nat} {Q : ax_H → Prop} {j : Int} (hj : 0 ≤ j ∧ j ≤ 2) : ∀ (m : Nat) (k : Int) (I : ax_H) (T : List Int), k = j - m → (m : Int) ≤ j → T.length + m ≤ 60 → pap 72 1 73 I T →
    (∀ I', Wf I I' → pap 72 1 73 I' (T ++ List.replicate m 121) → Q I') →
    RV (d + 1) kX0_writeTerm 65 [some (ax_r 72), none, none, some (ax_i j), some (ax_i k)] I Q := by
  intro m
  induction m with
  | zero =>
    intro k I T hk _ hl h hQ
    refine vX0_writeTerm_65 isBy72 ⟨by omega, by omega⟩ ⟨by omega, by omega⟩ ⟨fun _ => hQ I (Wf.rf I) ?_, fun c => absurd (by omega) c⟩
    rw [List.replicate_zero, List.append_nil]; exact h
  | succ m ih =>
    intro k I T hk hm hl h hQ
    refine vX0_writeTerm_65 isBy72 ⟨by omega, by omega⟩ ⟨by omega, by omega⟩ ⟨fun c => absurd c (by omega), fun _ => ?_⟩
    refine c_app (by decide) h (by omega) (fun I1 f1 p1 => ?_)
    refine ih (k + 1) I1 _ (by omega) (by omega) (by rw [List.length_append, List.length_singleton]; omega) p1 (fun I' f' p' => hQ I' (f1.trans f') ?_)
    rw [List.append_assoc] at p'
    rw [List.replicate_succ]
    exact p'
theorem c_wt44 {d : Nat} {Q : ax_H → Prop} {i j : Int} (hi : 0 ≤ i ∧ i ≤ 2) (hj : 0 ≤ j ∧ j ≤ 2) : ∀ (m : Nat) (k : Int) (I : ax_H) (T : List Int), k = i - m → (m : Int) ≤ i → T.length + m + j ≤ 60 → pap 72 1 73 I T →
    (∀ I', Wf I I' → pap 72 1 73 I' (T ++ List.replicate m 120 ++ List.replicate j.toNat 121) → Q I') →
    RV (d + 1) kX0_writeTerm 44 [some (ax_r 72), none, some (ax_i i), some (ax_i j), some (ax_i k)] I Q := by
  intro m
  induction m with
  | zero =>
    intro k I T hk _ hl h hQ
    refine vX0_writeTerm_44 isBy72 ⟨by omega, by omega⟩ ⟨by omega, by omega⟩ ⟨fun _ => ?_, fun c => absurd (by omega) c⟩
    rw [List.replicate_zero, List.append_nil] at hQ
    exact c_wt65 hj j.toNat 0 I T (by omega) (by omega) (by omega) h hQ
  | succ m ih =>
    intro k I T hk hm hl h hQ
    refine vX0_writeTerm_44 isBy72 ⟨by omega, by omega⟩ ⟨by omega, by omega⟩ ⟨fun c => absurd c (by omega), fun _ => ?_⟩
    refine c_app (by decide) h (by omega) (fun I1 f1 p1 => ?_)
    refine ih (k + 1) I1 _ (by omega) (by omega) (by rw [List.length_append, List.length_singleton]; omega) p1 (fun I' f' p' => hQ I' (f1.trans f') ?_)
    rw [List.append_assoc T] at p'
    rw [List.replicate_succ]
    exact p'
theorem c_writeTerm {d : Nat} {I : ax_H} {Q : ax_H → Prop} {T : List Int} {num i j : Int} (hn : 1 ≤ num ∧ num ≤ 30) (hi : 0 ≤ i ∧ i ≤ 2) (hj : 0 ≤ j ∧ j ≤ 2) (hl : (T.length : Int) + 3 + i + j ≤ 60) (h : pap 72 1 73 I T) (hQ : ∀ I', Wf I I' → pap 72 1 73 I' (T ++ tt (T.length == 0) num i j) → Q I') : cV (d + 1) kX0_writeTerm [ax_r 72, ax_i num, ax_i i, ax_i j] I Q := by
  have dig : ∀ (I1 : ax_H) (T1 : List Int), Wf I I1 → pap 72 1 73 I1 T1 → T1.length ≤ T.length + 1 → T1 = T ++ (if T.length == 0 then ([] : List Int) else [43]) →
      (num ≤ 9 → (0 ≤ num ∧ num < 2147483648) ∧ (cV d kX0_append [ax_r 72, ax_i (48 + (num % 10))] I1 (fun I5 => RV (d + 1) kX0_writeTerm 44 [some (ax_r 72), none, some (ax_i i), some (ax_i j), some (ax_i 0)] I5 Q))) ∧
      (¬ num ≤ 9 → (0 ≤ num ∧ num < 2147483648) ∧ (cV d kX0_append [ax_r 72, ax_i (48 + (num / 10))] I1 (fun I7 => cV d kX0_append [ax_r 72, ax_i (48 + (num % 10))] I7 (fun I8 => RV (d + 1) kX0_writeTerm 44 [some (ax_r 72), none, some (ax_i i), some (ax_i j), some (ax_i 0)] I8 Q)))) := by
    intro I1 T1 f1 p1 l1 e1
    unfold tt at hQ
    refine ⟨fun c => ⟨by omega, ?_⟩, fun c => ⟨by omega, ?_⟩⟩
    · rw [if_pos c] at hQ
      refine c_app ⟨by omega, by omega⟩ p1 (by omega) (fun I2 f2 p2 => ?_)
      refine c_wt44 hi hj i.toNat 0 I2 _ (by omega) (by omega) (by rw [List.length_append, List.length_singleton]; omega) p2 (fun I' f' p' => hQ I' ((f1.trans f2).trans f') ?_)
      rw [e1] at p'
      simp only [List.append_assoc] at p' ⊢
      exact p'
    · rw [if_neg c] at hQ
      refine c_app ⟨by omega, by omega⟩ p1 (by omega) (fun I2 f2 p2 => ?_)
      refine c_app ⟨by omega, by omega⟩ p2 (by rw [List.length_append, List.length_singleton]; omega) (fun I3 f3 p3 => ?_)
      refine c_wt44 hi hj i.toNat 0 I3 _ (by omega) (by omega) (by rw [List.length_append, List.length_append, List.length_singleton, List.length_singleton]; omega) p3 (fun I' f' p' => hQ I' (((f1.trans f2).trans f3).trans f') ?_)
      rw [e1] at p'
      simp only [List.append_assoc, List.cons_append, List.nil_append] at p' ⊢
      exact p'
  refine vX0_writeTerm_0 isBy72 ⟨by omega, by omega⟩ ⟨fun c => ?_, fun c => ?_⟩
  · rw [h.1] at c
    exact dig I T (Wf.rf I) h (by omega) (by rw [show (T.length == 0) = true by rw [beq_iff_eq]; omega]; simp)
  · rw [h.1] at c
    refine c_app (by decide) h (by omega) (fun I1 f1 p1 => ?_)
    exact dig I1 _ f1 p1 (by rw [List.length_append, List.length_singleton]; omega) (by rw [show (T.length == 0) = false by rw [beq_eq_false_iff_ne]; omega]; simp)
/-- the text with the number of powers i, j put behind, if it is not 0 -/
def wrs (g : Int → Int) (t i j : Int) (T : List Int) : List Int := if g (9 * t + 3 * i + j) ≤ 0 then T else T ++ tt (T.length == 0) (g (9 * t + 3 * i + j)) i j
theorem wrs_len {g : Int → Int} {t i j : Int} {T : List Int} {n : Int} (hi : 0 ≤ i) (hj : 0 ≤ j) (h : (T.length : Int) ≤ n) : ((wrs g t i j T).length : Int) ≤ n + 3 + i + j := by
  unfold wrs
  split
  · omega
  · rw [List.length_append]
    have := tt_len (T.length == 0) (g (9 * t + 3 * i + j)) i j hi hj
    omega
def wrt (g : Int → Int) (t : Int) : List Int := wrs g t 0 0 (wrs g t 0 1 (wrs g t 0 2 (wrs g t 1 0 (wrs g t 1 1 (wrs g t 1 2 (wrs g t 2 0 (wrs g t 2 1 (wrs g t 2 2 []))))))))
theorem wrt_len (g : Int → Int) (t : Int) : ((wrt g t).length : Int) ≤ 45 := by
  unfold wrt
  have h0 : (([] : List Int).length : Int) ≤ 0 := by simp
  have h1 := wrs_len (g := g) (t := t) (i := 2) (j := 2) (by decide) (by decide) h0
  have h2 := wrs_len (g := g) (t := t) (i := 2) (j := 1) (by decide) (by decide) h1
  have h3 := wrs_len (g := g) (t := t) (i := 2) (j := 0) (by decide) (by decide) h2
  have h4 := wrs_len (g := g) (t := t) (i := 1) (j := 2) (by decide) (by decide) h3
  have h5 := wrs_len (g := g) (t := t) (i := 1) (j := 1) (by decide) (by decide) h4
  have h6 := wrs_len (g := g) (t := t) (i := 1) (j := 0) (by decide) (by decide) h5
  have h7 := wrs_len (g := g) (t := t) (i := 0) (j := 2) (by decide) (by decide) h6
  have h8 := wrs_len (g := g) (t := t) (i := 0) (j := 1) (by decide) (by decide) h7
  have h9 := wrs_len (g := g) (t := t) (i := 0) (j := 0) (by decide) (by decide) h8
  omega
theorem c_ws {d : Nat} {g : Int → Int} {I : ax_H} {Q : ax_H → Prop} {T : List Int} {t i : Int} (j j1 : Int) (h1 : j + -1 = j1) (ht : 0 ≤ t ∧ t ≤ 1) (hi : 0 ≤ i ∧ i ≤ 2) (hj : 0 ≤ j ∧ j ≤ 2) (hT : tabs I 3 g) (hl : (T.length : Int) + 3 + i + j ≤ 60) (h : pap 72 1 73 I T)
    (hQ : ∀ I', Wf I I' → tabs I' 3 g → pap 72 1 73 I' (wrs g t i j T) → RV (d + 2) kX0_writeTerms 14 [some (ax_r 72), some (ax_r 2), some (ax_i t), some (ax_i i), some (ax_i j1), none] I' Q) :
    RV (d + 2) kX0_writeTerms 14 [some (ax_r 72), some (ax_r 2), some (ax_i t), some (ax_i i), some (ax_i j), none] I Q := by
  subst h1
  have gn := hT.gd (9 * t + 3 * i + j) (by omega) (by omega)
  have := gn.1
  have := gn.2
  unfold wrs at hQ
  refine vX0_writeTerms_14 isBy72 isT2 ⟨by omega, by omega⟩ ⟨fun c => absurd c (by omega), fun _ => ?_⟩
  refine c_numberAt isT2 hT ⟨ht, hi, hj⟩ ⟨nm_R gn, fun c => ?_, fun c => ?_⟩
  · rw [if_pos c] at hQ
    exact hQ I (Wf.rf I) hT h
  · rw [if_neg c] at hQ
    refine c_writeTerm ⟨by omega, by omega⟩ hi hj hl h (fun I1 f1 p1 => ?_)
    exact hQ I1 f1 (hT.of (f1.1 3 (by decide))) p1
theorem c_ws3 {d : Nat} {g : Int → Int} {I : ax_H} {Q : ax_H → Prop} {T : List Int} {t : Int} (i i1 : Int) (h1 : i + -1 = i1) (ht : 0 ≤ t ∧ t ≤ 1) (hi : 0 ≤ i ∧ i ≤ 2) (hT : tabs I 3 g) (hl : (T.length : Int) + 12 + 3 * i ≤ 60) (h : pap 72 1 73 I T)
    (hQ : ∀ I', Wf I I' → tabs I' 3 g → pap 72 1 73 I' (wrs g t i 0 (wrs g t i 1 (wrs g t i 2 T))) → RV (d + 2) kX0_writeTerms 7 [some (ax_r 72), some (ax_r 2), some (ax_i t), some (ax_i i1), none, none] I' Q) :
    RV (d + 2) kX0_writeTerms 7 [some (ax_r 72), some (ax_r 2), some (ax_i t), some (ax_i i), none, none] I Q := by
  subst h1
  have l1 := wrs_len (g := g) (t := t) (T := T) (i := i) (j := 2) hi.1 (by decide) (Int.le_refl _)
  have l2 := wrs_len (g := g) (t := t) (i := i) (j := 1) hi.1 (by decide) l1
  refine vX0_writeTerms_7 isBy72 isT2 ⟨by omega, by omega⟩ ⟨fun c => absurd c (by omega), fun _ => ?_⟩
  refine c_ws 2 1 rfl ht hi (by decide) hT (by omega) h (fun I1 f1 t1 p1 => ?_)
  refine c_ws 1 0 rfl ht hi (by decide) t1 (by omega) p1 (fun I2 f2 t2 p2 => ?_)
  refine c_ws 0 (-1) rfl ht hi (by decide) t2 (by omega) p2 (fun I3 f3 t3 p3 => ?_)
  exact vX0_writeTerms_14 isBy72 isT2 (by decide) ⟨fun _ => hQ I3 ((f1.trans f2).trans f3) t3 p3, fun c => absurd (by decide) c⟩
theorem a_write {d : Nat} {g : Int → Int} {I : ax_H} {Q : Int → ax_H → Prop} {t : Int} (hT : tabs I 3 g) (ht : ax_R t) (h1 : ¬ (0 ≤ t ∧ t ≤ 1) → Q (-1) I) (hQ : ∀ I', 0 ≤ t ∧ t ≤ 1 → Wf I I' → pap 72 1 73 I' (wrt g t) → Q ((wrt g t).length : Int) I') : cI (d + 3) kX10_write [ax_r 0, ax_i t] I Q := by
  refine vX10_write_0 ?_
  refine c_isTable ht (fun hc => n1 ?_) (fun hc => n0 (h1 hc))
  refine vX0_writeTerms_0 isBy72 isT2 ?_
  have p0 : pap 72 1 73 (ax_st I 72 1 0) [] := ⟨by rw [st_same]; rfl, fun j hj => absurd hj (by simp)⟩
  have h0 : (([] : List Int).length : Int) ≤ 0 := by simp
  have l1 := wrs_len (g := g) (t := t) (i := 2) (j := 2) (by decide) (by decide) h0
  have l2 := wrs_len (g := g) (t := t) (i := 2) (j := 1) (by decide) (by decide) l1
  have l3 := wrs_len (g := g) (t := t) (i := 2) (j := 0) (by decide) (by decide) l2
  have l4 := wrs_len (g := g) (t := t) (i := 1) (j := 2) (by decide) (by decide) l3
  have l5 := wrs_len (g := g) (t := t) (i := 1) (j := 1) (by decide) (by decide) l4
  have l6 := wrs_len (g := g) (t := t) (i := 1) (j := 0) (by decide) (by decide) l5
  refine c_ws3 2 1 rfl hc (by decide) (hT.of (st_cell (by decide))) (by simp) p0 (fun I1 f1 t1 p1 => ?_)
  refine c_ws3 1 0 rfl hc (by decide) t1 (by omega) p1 (fun I2 f2 t2 p2 => ?_)
  refine c_ws3 0 (-1) rfl hc (by decide) t2 (by omega) p2 (fun I3 f3 t3 p3 => ?_)
  refine vX0_writeTerms_7 isBy72 isT2 (by decide) ⟨fun _ => ?_, fun c => absurd (by decide) c⟩
  rw [p3.1]
  exact hQ I3 hc (((Wf.trans ⟨Mf.st (by decide), fun k hk => st_ne (Or.inr hk)⟩ f1).trans f2).trans f3) p3
theorem a_paper {d : Nat} {I : ax_H} {Q : Int → ax_H → Prop} {i : Int} (hi : ax_R i) (hn : 0 ≤ I 72 1 ∧ I 72 1 ≤ 60) (h : Q (if 0 ≤ i ∧ i < I 72 1 then I 73 i else -1) I) : cI (d + 1) kX10_paper [ax_r 0, ax_i i] I Q := by
  refine vX10_paper_0 hi ⟨fun c => ?_, fun c => ⟨fun c2 => ?_, fun c2 => ?_⟩⟩
  · rw [if_neg (by omega)] at h; exact h
  · rw [if_neg (by omega)] at h; exact h
  · refine c_byteAt (a := 72) isBy72 hi hn ?_
    unfold byt
    rw [if_pos (by omega)]
    rw [if_pos (by omega)] at h; exact h
/-! the reference's -/
def Vf (I I' : ax_H) : Prop := Mf [85, 115] I I' ∧ ∀ k, k ≠ 27 → I' 85 k = I 85 k
theorem Vf.rf (I : ax_H) : Vf I I := ⟨Mf.rf _ _, fun _ _ => rfl⟩
theorem Vf.trans {I I' I'' : ax_H} (h : Vf I I') (h' : Vf I' I'') : Vf I I'' := ⟨h.1.trans h'.1, fun k hk => (h'.2 k hk).trans (h.2 k hk)⟩
theorem m_writes {d : Nat} {Q : ax_H → Prop} {s N : Int} (hs : ax_R s) (hN : 0 ≤ N ∧ N ≤ 2) : ∀ (m : Nat) (k : Int) (I : ax_H) (T : List Int), k = N - m → (m : Int) ≤ N → T.length + m ≤ 110 → pap 85 27 115 I T →
    (∀ I', Vf I I' → pap 85 27 115 I' (T ++ List.replicate m s) → Q I') →
    RV d kX11_writes 2 [some (ax_r 85), some (ax_i s), some (ax_i N), some (ax_i k)] I Q := by
  intro m
  induction m with
  | zero =>
    intro k I T hk _ hl h hQ
    refine vX11_writes_2 hs ⟨by omega, by omega⟩ ⟨by omega, by omega⟩ ⟨fun _ => hQ I (Vf.rf I) ?_, fun c => absurd (by omega) c⟩
    rw [List.replicate_zero, List.append_nil]; exact h
  | succ m ih =>
    intro k I T hk hm hl h hQ
    have e : (ax_st I 115 (T.length : Int) s) 85 27 = T.length := by rw [st_cell (by decide), h.1]
    refine vX11_writes_2 hs ⟨by omega, by omega⟩ ⟨by omega, by omega⟩ ⟨fun c => absurd c (by omega), fun _ => ?_⟩
    rw [h.1, e]
    refine ⟨by omega, ⟨by omega, by omega⟩, ?_⟩
    refine ih (k + 1) _ (T ++ [s]) (by omega) (by omega) (by rw [List.length_append, List.length_singleton]; omega) (pap_push (by decide) h) (fun I' f' p' => hQ I' (Vf.trans ⟨(Mf.st (by decide)).trans (Mf.st (by decide)), fun j hj => by rw [st_ne (Or.inr hj), st_cell (by decide)]⟩ f') ?_)
    rw [List.append_assoc] at p'
    rw [List.replicate_succ]
    exact p'
theorem m_wr {d : Nat} {I : ax_H} {Q : ax_H → Prop} {T : List Int} {s N : Int} (hs : ax_R s) (hN : 0 ≤ N ∧ N ≤ 2) (hl : T.length ≤ 100) (h : pap 85 27 115 I T) (hQ : ∀ I', Vf I I' → pap 85 27 115 I' (T ++ List.replicate N.toNat s) → Q I') : cV d kX11_writes [ax_r 85, ax_i s, ax_i N] I Q :=
  vX11_writes_0 (m_writes hs hN N.toNat 0 I T (by omega) (by omega) (by omega) h hQ)
theorem m_ws {d : Nat} {g : Int → Int} {I : ax_H} {Q : Int → ax_H → Prop} {T : List Int} {t i j : Int} (k k1 : Int) (h1 : k + -1 = k1) (ht : 0 ≤ t ∧ t ≤ 1) (hk : 0 ≤ k ∧ k ≤ 8) (hi : i = k / 3) (hj : j = k % 3) (hg : gd g) (h6 : I 86 = g) (hl : (T.length : Int) + 3 + i + j ≤ 60) (h : pap 85 27 115 I T)
    (hQ : ∀ I', Vf I I' → pap 85 27 115 I' (wrs g t i j T) → RI (d + 1) kX11_write 20 [some (ax_r 85), some (ax_i t), some (ax_i k1), none] I' Q) :
    RI (d + 1) kX11_write 20 [some (ax_r 85), some (ax_i t), some (ax_i k), none] I Q := by
  subst h1
  have ek : 9 * t + 3 * i + j = 9 * t + k := by omega
  have gn := hg (9 * t + k) (by omega) (by omega)
  have g1 := gn.1
  have g2 := gn.2
  unfold wrs at hQ
  rw [ek] at hQ
  -- the body behind the plus sign
  have body : ∀ (I1 : ax_H) (T1 : List Int), ¬ g (9 * t + k) ≤ 0 → Vf I I1 → pap 85 27 115 I1 T1 → T1.length ≤ T.length + 1 → T1 = T ++ (if T.length == 0 then ([] : List Int) else [43]) →
      (0 ≤ g (9 * t + k) ∧ g (9 * t + k) < 2147483648) ∧
        ((g (9 * t + k) ≤ 9 →
          cV d kX11_writes [ax_r 85, ax_i (48 + (g (9 * t + k) / 10)), ax_i 0] I1 (fun I9 =>
          cV d kX11_writes [ax_r 85, ax_i (48 + (g (9 * t + k) % 10)), ax_i 1] I9 (fun I10 =>
          (0 ≤ k ∧ k < 2147483648) ∧
          (cV d kX11_writes [ax_r 85, ax_i 120, ax_i (k / 3)] I10 (fun I12 =>
          cV d kX11_writes [ax_r 85, ax_i 121, ax_i (k % 3)] I12 (fun I13 =>
          RI (d + 1) kX11_write 20 [some (ax_r 85), some (ax_i t), some (ax_i (k + (-1))), none] I13 Q)))))) ∧
        (¬ g (9 * t + k) ≤ 9 →
          cV d kX11_writes [ax_r 85, ax_i (48 + (g (9 * t + k) / 10)), ax_i 1] I1 (fun I14 =>
          cV d kX11_writes [ax_r 85, ax_i (48 + (g (9 * t + k) % 10)), ax_i 1] I14 (fun I15 =>
          (0 ≤ k ∧ k < 2147483648) ∧
          (cV d kX11_writes [ax_r 85, ax_i 120, ax_i (k / 3)] I15 (fun I17 =>
          cV d kX11_writes [ax_r 85, ax_i 121, ax_i (k % 3)] I17 (fun I18 =>
          RI (d + 1) kX11_write 20 [some (ax_r 85), some (ax_i t), some (ax_i (k + (-1))), none] I18 Q))))))) := by
    intro I1 T1 hp f1 p1 l1 e1
    rw [if_neg hp] at hQ
    unfold tt at hQ
    rw [← hi, ← hj]
    refine ⟨by omega, fun c => ?_, fun c => ?_⟩
    · rw [if_pos c] at hQ
      refine m_wr ⟨by omega, by omega⟩ (by decide) (by omega) p1 (fun I2 f2 p2 => ?_)
      have l2 : (T1 ++ List.replicate (0 : Int).toNat (48 + g (9 * t + k) / 10)).length = T1.length := by simp
      refine m_wr ⟨by omega, by omega⟩ (by decide) (by omega) p2 (fun I3 f3 p3 => ⟨by omega, ?_⟩)
      have l3 : (T1 ++ List.replicate (0 : Int).toNat (48 + g (9 * t + k) / 10) ++ List.replicate (1 : Int).toNat (48 + g (9 * t + k) % 10)).length = T1.length + 1 := by simp
      refine m_wr (by decide) (by omega) (by omega) p3 (fun I4 f4 p4 => ?_)
      refine m_wr (by decide) (by omega) (by rw [List.length_append, l3, List.length_replicate]; omega) p4 (fun I5 f5 p5 => ?_)
      refine hQ I5 ((((f1.trans f2).trans f3).trans f4).trans f5) ?_
      rw [e1] at p5
      simp only [List.append_assoc] at p5 ⊢
      exact p5
    · rw [if_neg c] at hQ
      refine m_wr ⟨by omega, by omega⟩ (by decide) (by omega) p1 (fun I2 f2 p2 => ?_)
      have l2 : (T1 ++ List.replicate (1 : Int).toNat (48 + g (9 * t + k) / 10)).length = T1.length + 1 := by simp
      refine m_wr ⟨by omega, by omega⟩ (by decide) (by omega) p2 (fun I3 f3 p3 => ⟨by omega, ?_⟩)
      have l3 : (T1 ++ List.replicate (1 : Int).toNat (48 + g (9 * t + k) / 10) ++ List.replicate (1 : Int).toNat (48 + g (9 * t + k) % 10)).length = T1.length + 2 := by simp
      refine m_wr (by decide) (by omega) (by omega) p3 (fun I4 f4 p4 => ?_)
      refine m_wr (by decide) (by omega) (by rw [List.length_append, l3, List.length_replicate]; omega) p4 (fun I5 f5 p5 => ?_)
      refine hQ I5 ((((f1.trans f2).trans f3).trans f4).trans f5) ?_
      rw [e1] at p5
      simp only [List.append_assoc] at p5 ⊢
      exact p5
  refine vX11_write_20 ⟨by omega, by omega⟩ ⟨fun c => absurd c (by omega), fun _ => ⟨by omega, ?_⟩⟩
  have pl : ∀ {A B : ax_H → Prop}, (∀ J, Vf I J → pap 85 27 115 J T → A J) → A I := fun h' => h' I (Vf.rf I) h
  rw [h6]
  refine ⟨fun c => ?_, fun c => ⟨fun c2 => ?_, fun c2 => ?_⟩⟩
  · rw [if_pos c] at hQ
    exact hQ I (Vf.rf I) h
  · rw [h.1] at c2
    refine m_wr (by decide) (by decide) (by omega) h (fun I1 f1 p1 => ?_)
    refine body I1 _ c f1 p1 (by simp) ?_
    rw [show (T.length == 0) = true by rw [beq_iff_eq]; omega]; simp
  · rw [h.1] at c2
    refine m_wr (by decide) (by decide) (by omega) h (fun I1 f1 p1 => ?_)
    refine body I1 _ c f1 p1 (by simp) ?_
    rw [show (T.length == 0) = false by rw [beq_eq_false_iff_ne]; omega]; rfl
theorem z_write {d : Nat} {I : ax_H} {Q : Int → ax_H → Prop} {t : Int} (hg : gd (I 86)) (ht : ax_R t) (h1 : ¬ (0 ≤ t ∧ t ≤ 1) → Q (-1) I) (hQ : ∀ I', 0 ≤ t ∧ t ≤ 1 → Vf I I' → pap 85 27 115 I' (wrt (I 86) t) → Q ((wrt (I 86) t).length : Int) I') : cI (d + 1) kX11_write [ax_r 85, ax_i t] I Q := by
  refine vX11_write_0 ht ?_
  refine m_in (R8_of ht) (by decide) (by decide) (fun hc => n1 ?_) (fun hc => n0 (h1 hc))
  have p0 : pap 85 27 115 (ax_st I 85 27 0) [] := ⟨by rw [st_same]; rfl, fun j hj => absurd hj (by simp)⟩
  have f0 : Vf I (ax_st I 85 27 0) := ⟨Mf.st (by decide), fun k hk => st_ne (Or.inr hk)⟩
  have h0 : (([] : List Int).length : Int) ≤ 0 := by simp
  generalize hg2 : I 86 = g at *
  have l1 := wrs_len (g := g) (t := t) (i := 2) (j := 2) (by decide) (by decide) h0
  have l2 := wrs_len (g := g) (t := t) (i := 2) (j := 1) (by decide) (by decide) l1
  have l3 := wrs_len (g := g) (t := t) (i := 2) (j := 0) (by decide) (by decide) l2
  have l4 := wrs_len (g := g) (t := t) (i := 1) (j := 2) (by decide) (by decide) l3
  have l5 := wrs_len (g := g) (t := t) (i := 1) (j := 1) (by decide) (by decide) l4
  have l6 := wrs_len (g := g) (t := t) (i := 1) (j := 0) (by decide) (by decide) l5
  have l7 := wrs_len (g := g) (t := t) (i := 0) (j := 2) (by decide) (by decide) l6
  have l8 := wrs_len (g := g) (t := t) (i := 0) (j := 1) (by decide) (by decide) l7
  have e6 : ∀ J, Vf I J → J 86 = g := fun J f => by rw [f.1 86 (by decide), hg2]
  refine m_ws (i := 2) (j := 2) 8 7 rfl hc (by decide) rfl rfl hg (e6 _ f0) (by simp) p0 (fun I1 f1 p1 => ?_)
  have f1 := f0.trans f1
  refine m_ws (i := 2) (j := 1) 7 6 rfl hc (by decide) rfl rfl hg (e6 _ f1) (by omega) p1 (fun I2 f2 p2 => ?_)
  have f2 := f1.trans f2
  refine m_ws (i := 2) (j := 0) 6 5 rfl hc (by decide) rfl rfl hg (e6 _ f2) (by omega) p2 (fun I3 f3 p3 => ?_)
  have f3 := f2.trans f3
  refine m_ws (i := 1) (j := 2) 5 4 rfl hc (by decide) rfl rfl hg (e6 _ f3) (by omega) p3 (fun I4 f4 p4 => ?_)
  have f4 := f3.trans f4
  refine m_ws (i := 1) (j := 1) 4 3 rfl hc (by decide) rfl rfl hg (e6 _ f4) (by omega) p4 (fun I5 f5 p5 => ?_)
  have f5 := f4.trans f5
  refine m_ws (i := 1) (j := 0) 3 2 rfl hc (by decide) rfl rfl hg (e6 _ f5) (by omega) p5 (fun I6 f6 p6 => ?_)
  have f6 := f5.trans f6
  refine m_ws (i := 0) (j := 2) 2 1 rfl hc (by decide) rfl rfl hg (e6 _ f6) (by omega) p6 (fun I7 f7 p7 => ?_)
  have f7 := f6.trans f7
  refine m_ws (i := 0) (j := 1) 1 0 rfl hc (by decide) rfl rfl hg (e6 _ f7) (by omega) p7 (fun I8 f8 p8 => ?_)
  have f8 := f7.trans f8
  refine m_ws (i := 0) (j := 0) 0 (-1) rfl hc (by decide) rfl rfl hg (e6 _ f8) (by omega) p8 (fun I9 f9 p9 => ?_)
  have f9 := f8.trans f9
  refine vX11_write_20 (by decide) ⟨fun _ => ?_, fun c => absurd (by decide) c⟩
  rw [p9.1]
  exact hQ I9 hc f9 p9
theorem z_paper {d : Nat} {I : ax_H} {Q : Int → ax_H → Prop} {i : Int} (hi : ax_R i) (hn : 0 ≤ I 85 27 ∧ I 85 27 ≤ 60) (h : Q (if 0 ≤ i ∧ i < I 85 27 then I 115 i else -1) I) : cI (d + 1) kX11_paper [ax_r 85, ax_i i] I Q := by
  refine vX11_paper_0 hi ⟨⟨by omega, by omega⟩, ?_⟩
  refine m_in (R8_of hi) (by decide) (R8_of ⟨by omega, by omega⟩) (fun c => b1 ⟨by omega, ?_⟩) (fun c => b0 ?_)
  · rw [if_pos (by omega)] at h; exact h
  · rw [if_neg (by omega)] at h; exact h
/-! judge -/
def jdg (g p : Int → Int) : Nat → Int → Int → Int
  | 0, _, _ => -5
  | m + 1, k, s =>
    let s2 := if k % 2 = 0 then nxt g s else s
    let due := if s2 = -7 then -1 else if k % 2 = 0 then s2 / 32 else s2 % 32
    if p k = due then jdg g p m (k + 1) s2 else k
theorem c_judge50 {d : Nat} {g p : Int → Int} {n l : Int} {Q : Int → ax_H → Prop} (hl : 0 ≤ l ∧ l < 4) (hn : 0 ≤ n ∧ n ≤ 12) (hpR : ∀ k, ax_R (p k)) : ∀ (m : Nat) (k s : Int) (I : ax_H), k = n - m → (m : Int) ≤ n → (s = -7 ∨ spt s) → RInv g I → szs I 75 → I 75 l = n → (∀ i, 0 ≤ i → i < n → I 76 (l * 12 + i) = p i) →
    (∀ I', Rf I I' → RInv g I' → Q (jdg g p m k s) I') →
    RI (d + 4) kX10_judge 50 [some (ax_r 0), some (ax_i l), none, none, some (ax_i n), some (ax_i s), some (ax_i k), none, none] I Q := by
  intro m
  induction m with
  | zero =>
    intro k s I hk _ hs hR hz h75 hp hQ
    exact vX10_judge_50 ⟨by omega, by omega⟩ (spt_R hs) ⟨by omega, by omega⟩ ⟨fun _ => hQ I (Rf.rf I) hR, fun c => absurd (by omega) c⟩
  | succ m ih =>
    intro k s I hk hm hs hR hz h75 hp hQ
    unfold jdg at hQ
    dsimp only at hQ
    have num : ∀ (I1 : ax_H), Rf I I1 → ∀ Q1 : Int → ax_H → Prop, Q1 (p k) I1 → cI (d + 3) kX4_numberAt [ax_r 74, ax_i l, ax_i k] I1 Q1 := by
      intro I1 f1 Q1 h1
      have e75 := f1.1 75 (by decide) (by decide) (by decide)
      have e76 := f1.1 76 (by decide) (by decide) (by decide)
      refine c_numberAt' (fun i i0 i1 => by rw [e75]; exact hz i i0 i1) ⟨by omega, by omega⟩ ⟨by omega, by omega⟩ ⟨hl, by omega, by rw [e75, h75]; omega⟩ ?_
      rw [e76, hp k (by omega) (by omega)]; exact h1
    have go : ∀ I1 s2, Rf I I1 → RInv g I1 → (s2 = -7 ∨ spt s2) → (∀ I', Rf I1 I' → RInv g I' → Q (jdg g p m (k + 1) s2) I') → RI (d + 4) kX10_judge 50 [some (ax_r 0), some (ax_i l), none, none, some (ax_i n), some (ax_i s2), some (ax_i (k + 1)), none, none] I1 Q := fun I1 s2 f1 r1 h2 h => by
      have e75 := f1.1 75 (by decide) (by decide) (by decide)
      have e76 := f1.1 76 (by decide) (by decide) (by decide)
      exact ih (k + 1) s2 I1 (by omega) (by omega) h2 r1 (fun i i0 i1 => by rw [e75]; exact hz i i0 i1) (by rw [e75]; exact h75) (fun i i0 i1 => by rw [e76]; exact hp i i0 i1) h
    refine vX10_judge_50 ⟨by omega, by omega⟩ (spt_R hs) ⟨by omega, by omega⟩ ⟨fun c => absurd c (by omega), fun _ => ⟨by omega, fun c => ⟨fun c2 => ?_, fun c2 => ?_⟩, fun c => ?_⟩⟩
    · simp only [if_neg c] at hQ
      have hsp : spt s := hs.resolve_left (by omega)
      have := hsp.2
      simp only [if_neg (show ¬ s = -7 by omega)] at hQ
      refine ⟨by omega, fun y hy => ?_⟩
      rw [hy]
      refine num I (Rf.rf I) _ ⟨hpR k, ⟨by omega, by omega⟩, fun q => ?_, fun q => ?_⟩
      · simp only [if_pos q] at hQ
        exact go I s (Rf.rf I) hR hs hQ
      · simp only [if_neg q] at hQ
        exact hQ I (Rf.rf I) hR
    · simp only [if_neg c] at hQ
      have e7 : s = -7 := hs.resolve_right (fun q => by have := q.1; omega)
      simp only [if_pos e7] at hQ
      refine num I (Rf.rf I) _ ⟨hpR k, fun q => ?_, fun q => ?_⟩
      · simp only [if_pos q] at hQ
        exact go I s (Rf.rf I) hR hs hQ
      · simp only [if_neg q] at hQ
        exact hQ I (Rf.rf I) hR
    · simp only [if_pos c] at hQ
      refine c_stepFrom hR (spt_R hs) (fun I1 f1 r1 => ⟨nxt_R _ _, fun c2 => ?_, fun c2 => ?_⟩)
      · have hsp : spt (nxt g s) := nxt_spt.resolve_left (by omega)
        have := hsp.2
        simp only [if_neg (show ¬ nxt g s = -7 by omega)] at hQ
        refine ⟨by omega, fun y hy => ?_⟩
        rw [hy]
        refine num I1 f1 _ ⟨hpR k, ⟨by omega, by omega⟩, fun q => ?_, fun q => ?_⟩
        · simp only [if_pos q] at hQ
          exact go I1 _ f1 r1 nxt_spt (fun I' f' r' => hQ I' (f1.trans f') r')
        · simp only [if_neg q] at hQ
          exact hQ I1 f1 r1
      · have e7 : nxt g s = -7 := nxt_spt.resolve_right (fun q => by have := q.1; omega)
        simp only [if_pos e7] at hQ
        refine num I1 f1 _ ⟨hpR k, fun q => ?_, fun q => ?_⟩
        · simp only [if_pos q] at hQ
          exact go I1 _ f1 r1 nxt_spt (fun I' f' r' => hQ I' (f1.trans f') r')
        · simp only [if_neg q] at hQ
          exact hQ I1 f1 r1
def r_judge (g p : Int → Int) (n l x y : Int) : Int := if 0 ≤ l ∧ l < 4 then (if co x ∧ co y then (if 0 ≤ n then jdg g p n.toNat 0 (x * 32 + y) else -11) else -1) else -1
theorem a_judge {d : Nat} {g p : Int → Int} {I : ax_H} {Q : Int → ax_H → Prop} {l x y : Int} (hR : RInv g I) (hz : szs I 75) (hl : ax_R l) (hx : ax_R x) (hy : ax_R y) (hpR : ∀ k, ax_R (p k)) (hp : 0 ≤ l ∧ l < 4 → ∀ i, 0 ≤ i → i < I 75 l → I 76 (l * 12 + i) = p i) (hQ : ∀ I', Rf I I' → RInv g I' → Q (r_judge g p (I 75 l) l x y) I') : cI (d + 4) kX10_judge [ax_r 0, ax_i l, ax_i x, ax_i y] I Q := by
  have h0 := hQ I (Rf.rf I) hR
  unfold r_judge at hQ h0
  refine vX10_judge_0 ?_
  refine c_isList hl (fun q => b1 ?_) (fun q => b0 ?_)
  · simp only [if_pos q] at hQ h0
    refine c_isSpot hx hy (fun hc => n1 ?_) (fun hc => n0 ?_)
    · simp only [if_pos hc] at hQ h0
      have := hz l q.1 q.2
      refine c_sizeOf hl ?_
      rw [if_pos q]
      refine ⟨⟨by omega, by omega⟩, fun c => ?_, fun c => ?_⟩
      · simp only [if_pos c] at hQ
        intro s hs
        subst hs
        exact c_judge50 q ⟨c, by omega⟩ hpR (I 75 l).toNat 0 _ I (by omega) (by omega) (Or.inr ⟨by omega, by omega⟩) hR hz rfl (hp q) hQ
      · rw [if_neg c] at h0; exact h0
    · rw [if_neg hc] at h0; exact h0
  · rw [if_neg q] at h0; exact h0
theorem m_judge40 {d : Nat} {p : Int → Int} {n l : Int} {I : ax_H} {Q : Int → ax_H → Prop} (hg : gd (I 86)) (hl : 0 ≤ l ∧ l < 4) (hn : 0 ≤ n ∧ n ≤ 12) (h116 : I 116 l = n) (hp : ∀ i, 0 ≤ i → i < n → I (118 + l.toNat) i = p i) : ∀ (m : Nat) (k s : Int), k = n - m → (m : Int) ≤ n → (s = -7 ∨ spt s) → Q (jdg (I 86) p m k s) I →
    RI (d + 6) kX11_judge 40 [some (ax_r 85), some (ax_i l), none, none, some (ax_i s), some (ax_i k), none] I Q := by
  intro m
  induction m with
  | zero =>
    intro k s hk _ hs h
    exact vX11_judge_40 (spt_R hs) ⟨by omega, by omega⟩ ⟨hl, fun _ => h, fun c => absurd (by omega) c⟩
  | succ m ih =>
    intro k s hk hm hs h
    unfold jdg at h
    dsimp only at h
    have ep := hp k (by omega) (by omega)
    refine vX11_judge_40 (spt_R hs) ⟨by omega, by omega⟩ ⟨hl, fun c => absurd c (by omega), fun _ => ⟨by omega, fun c => ⟨fun c2 => ?_, fun c2 => ?_⟩, fun c => ⟨fun c2 => ?_, fun c2 => ?_⟩⟩⟩
    · simp only [if_neg c, if_neg c2] at h
      have hsp : spt s := hs.resolve_left c2
      have := hsp.1
      have := hsp.2
      refine ⟨by omega, fun y hy b hb _ => ⟨by omega, ⟨by omega, by omega⟩, fun q => ?_, fun q => ?_⟩⟩
      · subst hb; rw [ep] at q
        rw [if_pos (by omega)] at h
        exact ih (k + 1) s (by omega) (by omega) hs h
      · subst hb; rw [ep] at q
        rw [if_neg (by omega)] at h; exact h
    · simp only [if_neg c, if_pos c2] at h
      refine fun b hb _ => ⟨by omega, fun q => ?_, fun q => ?_⟩
      · subst hb; rw [ep] at q
        rw [if_pos q] at h
        exact ih (k + 1) s (by omega) (by omega) hs h
      · subst hb; rw [ep] at q
        rw [if_neg q] at h; exact h
    · subst c2
      simp only [if_pos c, nxt_lost, if_true] at h
      refine fun b hb _ => ⟨by omega, fun q => ?_, fun q => ?_⟩
      · subst hb; rw [ep] at q
        rw [if_pos q] at h
        exact ih (k + 1) _ (by omega) (by omega) (Or.inl rfl) h
      · subst hb; rw [ep] at q
        rw [if_neg q] at h; exact h
    · simp only [if_pos c] at h
      refine m_step0 hg (hs.resolve_left c2) ⟨nxt_R _ _, fun c3 => ?_, fun c3 => ?_⟩
      · have hsp : spt (nxt (I 86) s) := nxt_spt.resolve_left c3
        have := hsp.1
        have := hsp.2
        rw [if_neg c3] at h
        refine ⟨by omega, fun y hy b hb _ => ⟨by omega, ⟨by omega, by omega⟩, fun q => ?_, fun q => ?_⟩⟩
        · subst hb; rw [ep] at q
          rw [if_pos (by omega)] at h
          exact ih (k + 1) _ (by omega) (by omega) nxt_spt h
        · subst hb; rw [ep] at q
          rw [if_neg (by omega)] at h; exact h
      · rw [if_pos c3] at h
        refine fun b hb _ => ⟨by omega, fun q => ?_, fun q => ?_⟩
        · subst hb; rw [ep] at q
          rw [if_pos q] at h
          exact ih (k + 1) _ (by omega) (by omega) nxt_spt h
        · subst hb; rw [ep] at q
          rw [if_neg q] at h; exact h
theorem z_judge {d : Nat} {p : Int → Int} {I : ax_H} {Q : Int → ax_H → Prop} {l x y : Int} (hg : gd (I 86)) (hz : szs I 116) (hl : ax_R l) (hx : ax_R x) (hy : ax_R y) (hp : 0 ≤ l ∧ l < 4 → ∀ i, 0 ≤ i → i < I 116 l → I (118 + l.toNat) i = p i) (h : Q (r_judge (I 86) p (I 116 l) l x y) I) : cI (d + 6) kX11_judge [ax_r 85, ax_i l, ax_i x, ax_i y] I Q := by
  unfold r_judge at h
  refine vX11_judge_0 ?_
  refine m_isList hl (fun q => b1 ?_) (fun q => b0 ?_)
  · rw [if_pos q] at h
    refine m_isSpot hx hy (fun hc => n1 ⟨q, fun c => ?_, fun c => ?_⟩) (fun hc => n0 ?_)
    · rw [if_pos hc, if_pos c] at h
      have := hz l q.1 q.2
      intro s hs
      rw [show x * 32 + y = s by omega] at h
      exact m_judge40 hg q ⟨c, by omega⟩ rfl (hp q) (I 116 l).toNat 0 s (by omega) (by omega) (Or.inr ⟨by omega, by omega⟩) h
    · rw [if_pos hc, if_neg c] at h; exact h
    · rw [if_neg hc] at h; exact h
  · rw [if_neg q] at h; exact h
