/-! answers of the calls on numbers, swaps and steps; the class's contracts (a_), the reference's (z_) -/
theorem if3 {P : Prop} [Decidable P] {A : Int → Prop} {u v : Int} (ht : P → A u) (hf : ¬ P → A v) : A (if P then u else v) := by
  by_cases h : P
  · rw [if_pos h]; exact ht h
  · rw [if_neg h]; exact hf h
theorem isT2 : isT 2 := ⟨rfl, rfl⟩
def r_of (g : Int → Int) (t i j : Int) : Int := if plc t i j then g (9 * t + 3 * i + j) else -1
def r_value (g : Int → Int) (t x y : Int) : Int := if 0 ≤ t ∧ t ≤ 1 then (if co x ∧ co y then vl g t x y else -1) else -1
def r_kept (g : Int → Int) (x y : Int) : Int := if co x ∧ co y then kp g x y else -1
def r_swap (g : Int → Int) (w x y : Int) : Int := if 0 ≤ w ∧ w ≤ 1 then (if co x ∧ co y then (if w = 0 then ot g 0 x y else ot g 1 y x) else -1) else -1
def r_row (g : Int → Int) (w c k : Int) : Int := if 0 ≤ w ∧ w ≤ 1 then (if co c then (if 0 ≤ k ∧ k ≤ 2 then cr g w c k else -1) else -1) else -1
theorem a_of {d : Nat} {g : Int → Int} {I : ax_H} {Q : Int → ax_H → Prop} {t i j : Int} (hT : tabs I 3 g) (ht : ax_R t) (hi : ax_R i) (hj : ax_R j) (h : Q (r_of g t i j) I) : cI (d + 2) kX10_of [ax_r 0, ax_i t, ax_i i, ax_i j] I Q := by
  unfold r_of at h
  refine vX10_of_0 ?_
  refine c_isPower ht hi hj (fun hp => b1 ?_) (fun hp => b0 ?_)
  · rw [if_pos hp] at h; exact c_numberAt isT2 hT hp h
  · rw [if_neg hp] at h; exact h
theorem z_of {d : Nat} {I : ax_H} {Q : Int → ax_H → Prop} {t i j : Int} (ht : ax_R t) (hi : ax_R i) (hj : ax_R j) (h : Q (r_of (I 86) t i j) I) : cI (d + 2) kX11_of [ax_r 85, ax_i t, ax_i i, ax_i j] I Q := by
  unfold r_of at h
  refine vX11_of_0 ?_
  refine m_isPlace ht hi hj (fun hp => b1 ?_) (fun hp => b0 ?_)
  · rw [if_pos hp] at h; exact m_placeOf ⟨by omega, h⟩
  · rw [if_neg hp] at h; exact h
theorem a_value {d : Nat} {g : Int → Int} {I : ax_H} {Q : Int → ax_H → Prop} {t x y : Int} (hT : tabs I 3 g) (ht : ax_R t) (hx : ax_R x) (hy : ax_R y) (h : Q (r_value g t x y) I) : cI (d + 3) kX10_value [ax_r 0, ax_i t, ax_i x, ax_i y] I Q := by
  unfold r_value at h
  refine vX10_value_0 ?_
  refine c_isTable ht (fun h1 => b1 ?_) (fun h1 => b0 ?_)
  · rw [if_pos h1] at h
    refine c_isSpot hx hy (fun h2 => b1 ?_) (fun h2 => b0 ?_)
    · rw [if_pos h2] at h; exact c_valueAt isT2 hT h1 h2.1 h2.2 h
    · rw [if_neg h2] at h; exact h
  · rw [if_neg h1] at h; exact h
theorem z_value {d : Nat} {I : ax_H} {Q : Int → ax_H → Prop} {t x y : Int} (hg : gd (I 86)) (ht : ax_R t) (hx : ax_R x) (hy : ax_R y) (h : Q (r_value (I 86) t x y) I) : cI (d + 3) kX11_value [ax_r 85, ax_i t, ax_i x, ax_i y] I Q := by
  unfold r_value at h
  refine vX11_value_0 ht ?_
  refine m_in (R8_of ht) (by decide) (by decide) (fun h1 => b1 ?_) (fun h1 => b0 ?_)
  · rw [if_pos h1] at h
    refine m_isSpot hx hy (fun h2 => b1 ?_) (fun h2 => b0 ?_)
    · rw [if_pos h2] at h; exact m_valueAt hg h1 h2.1 h2.2 h
    · rw [if_neg h2] at h; exact h
  · rw [if_neg h1] at h; exact h
theorem a_kept {d : Nat} {g : Int → Int} {I : ax_H} {Q : Int → ax_H → Prop} {x y : Int} (hT : tabs I 3 g) (hx : ax_R x) (hy : ax_R y) (h : Q (r_kept g x y) I) : cI (d + 4) kX10_kept [ax_r 0, ax_i x, ax_i y] I Q := by
  unfold r_kept at h
  refine vX10_kept_0 ?_
  refine c_isSpot hx hy (fun h2 => b1 ?_) (fun h2 => b0 ?_)
  · rw [if_pos h2] at h; exact c_quotientAt isT2 hT h2.1 h2.2 h
  · rw [if_neg h2] at h; exact h
theorem z_kept {d : Nat} {I : ax_H} {Q : Int → ax_H → Prop} {x y : Int} (hg : gd (I 86)) (hx : ax_R x) (hy : ax_R y) (h : Q (r_kept (I 86) x y) I) : cI (d + 3) kX11_kept [ax_r 85, ax_i x, ax_i y] I Q := by
  unfold r_kept at h
  refine vX11_kept_0 ?_
  refine m_isSpot hx hy (fun h2 => b1 ?_) (fun h2 => b0 ?_)
  · rw [if_pos h2] at h; exact m_keptAt hg h2.1 h2.2 h
  · rw [if_neg h2] at h; exact h
theorem a_swap {d : Nat} {g : Int → Int} {I : ax_H} {Q : Int → ax_H → Prop} {w x y : Int} (hI : RInv g I) (hw : ax_R w) (hx : ax_R x) (hy : ax_R y) (h : ∀ I', Rf I I' → RInv g I' → Q (r_swap g w x y) I') : cI (d + 4) kX10_swap [ax_r 0, ax_i w, ax_i x, ax_i y] I Q := by
  have h0 := h I (Rf.rf I) hI
  unfold r_swap at h h0
  refine vX10_swap_0 hw ?_
  refine c_isAxis hw (fun h1 => b1 ?_) (fun h1 => b0 ?_)
  · simp only [if_pos h1] at h h0
    refine c_isSpot hx hy (fun h2 => n1 ⟨fun c => ?_, fun c => ?_⟩) (fun h2 => n0 ?_)
    · simp only [if_pos h2, if_neg c] at h
      exact c_swapOf hI (by decide) h2.2 h2.1 (fun I' hf hr => h I' hf hr.inv)
    · simp only [if_pos h2, if_pos c] at h
      exact c_swapOf hI (by decide) h2.1 h2.2 (fun I' hf hr => h I' hf hr.inv)
    · rw [if_neg h2] at h0; exact h0
  · rw [if_neg h1] at h0; exact h0
theorem z_swap {d : Nat} {I : ax_H} {Q : Int → ax_H → Prop} {w x y : Int} (hg : gd (I 86)) (hw : ax_R w) (hx : ax_R x) (hy : ax_R y) (h : Q (r_swap (I 86) w x y) I) : cI (d + 4) kX11_swap [ax_r 85, ax_i w, ax_i x, ax_i y] I Q := by
  unfold r_swap at h
  refine vX11_swap_0 hw ?_
  refine m_in (R8_of hw) (by decide) (by decide) (fun h1 => b1 ?_) (fun h1 => b0 ?_)
  · rw [if_pos h1] at h
    refine m_isSpot hx hy (fun h2 => b1 ?_) (fun h2 => b0 ?_)
    · rw [if_pos h2] at h
      refine ⟨fun c => ?_, fun c => ?_⟩
      · rw [if_neg c] at h
        obtain rfl : w = 1 := by omega
        exact m_other hg hw h2.2 h2.1 h
      · rw [if_pos c] at h
        subst c
        exact m_other hg hw h2.1 h2.2 h
    · rw [if_neg h2] at h; exact h
  · rw [if_neg h1] at h; exact h
theorem a_row {d : Nat} {g : Int → Int} {I : ax_H} {Q : Int → ax_H → Prop} {w c k : Int} (hI : RInv g I) (hw : ax_R w) (hc : ax_R c) (hk : ax_R k) (h : ∀ I', Rf I I' → RInv g I' → Q (r_row g w c k) I') : cI (d + 4) kX10_row [ax_r 0, ax_i w, ax_i c, ax_i k] I Q := by
  have h0 := h I (Rf.rf I) hI
  unfold r_row at h h0
  refine vX10_row_0 hk ?_
  refine c_isAxis hw (fun h1 => b1 ?_) (fun h1 => b0 ?_)
  · simp only [if_pos h1] at h h0
    refine c_isCoordinate hc (fun h2 => b1 ?_) (fun h2 => b0 ?_)
    · simp only [if_pos h2] at h h0
      refine ⟨fun c => ?_, fun c => ⟨fun c2 => ?_, fun c2 => ?_⟩⟩
      · rw [if_neg (by omega)] at h0; exact h0
      · have h3 : 0 ≤ k ∧ k ≤ 2 := by omega
        simp only [if_pos h3] at h
        exact c_rowOf hI h1 h2 h3 (fun I' hf hr => h I' hf hr.inv)
      · rw [if_neg (by omega)] at h0; exact h0
    · rw [if_neg h2] at h0; exact h0
  · rw [if_neg h1] at h0; exact h0
theorem z_row {d : Nat} {I : ax_H} {Q : Int → ax_H → Prop} {w c k : Int} (hg : gd (I 86)) (hw : ax_R w) (hc : ax_R c) (hk : ax_R k) (h : Q (r_row (I 86) w c k) I) : cI (d + 3) kX11_row [ax_r 85, ax_i w, ax_i c, ax_i k] I Q := by
  unfold r_row at h
  refine vX11_row_0 hw hk ?_
  refine m_in (R8_of hw) (by decide) (by decide) (fun h1 => b1 ?_) (fun h1 => b0 ?_)
  · rw [if_pos h1] at h
    refine m_isCoordinate hc (fun h2 => b1 ?_) (fun h2 => b0 ?_)
    · rw [if_pos h2] at h
      refine m_in (R8_of hk) (by decide) (by decide) (fun h3 => b1 ?_) (fun h3 => b0 ?_)
      · rw [if_pos h3] at h; exact m_crossed hg hw h2 h3 h
      · rw [if_neg h3] at h; exact h
    · rw [if_neg h2] at h; exact h
  · rw [if_neg h1] at h; exact h
theorem a_behind {d : Nat} {g : Int → Int} {I : ax_H} {Q : Int → ax_H → Prop} {x y n : Int} (hI : RInv g I) (hx : ax_R x) (hy : ax_R y) (hn : ax_R n) (h : ∀ I', Rf I I' → RInv g I' → Q (bhd g x y n) I') : cI (d + 5) kX10_behind [ax_r 0, ax_i x, ax_i y, ax_i n] I Q := by
  have h0 := h I (Rf.rf I) hI
  unfold bhd at h h0
  refine vX10_behind_0 hn ?_
  refine c_isSpot hx hy (fun h2 => n1 ?_) (fun h2 => n0 ?_)
  · simp only [if_neg (fun q : ¬ (co x ∧ co y) => q h2)] at h h0
    have hs : ax_R (x * 32 + y) := ⟨by omega, by omega⟩
    refine ⟨fun c => ?_, fun c => ⟨fun c2 z hz => ⟨fun c3 => ?_, fun c3 => ?_⟩, fun c2 => ?_⟩⟩
    · rw [if_pos (by omega)] at h0; exact h0
    · subst hz
      simp only [if_neg (show ¬ (n < -99 ∨ 99 < n) by omega), if_neg (show ¬ n < 0 by omega)] at h
      exact c_walk hI hs (by omega) (fun I' hf hr => by have := h I' hf hr; rw [Int.mul_comm] at this; exact this)
    · subst hz
      simp only [if_neg (show ¬ (n < -99 ∨ 99 < n) by omega), if_pos (show n < 0 by omega)] at h
      exact c_walkBack hI hs (by omega) (fun I' hf hr => by have := h I' hf hr; rw [Int.mul_comm] at this; exact this)
    · rw [if_pos (by omega)] at h0; exact h0
  · rw [if_pos h2] at h0; exact h0
theorem z_behind_loop {d : Nat} {I : ax_H} {Q : Int → ax_H → Prop} {n : Int} (hg : gd (I 86)) (hn : ax_R n) : ∀ (m : Nat) (s : Int), m ≤ 1000 → (s = -7 ∨ spt s) → Q (itn (if n < 0 then prv (I 86) else nxt (I 86)) m s) I →
    RI (d + 6) kX11_behind 47 [some (ax_r 85), none, none, some (ax_i n), some (ax_i s), some (ax_i (m : Int))] I Q := by
  intro m
  induction m with
  | zero =>
    intro s _ hs h
    exact vX11_behind_47 hn (spt_R hs) (by decide) ⟨fun _ => h, fun c => absurd (by decide) c⟩
  | succ m ih =>
    intro s hm hs h
    refine vX11_behind_47 hn (spt_R hs) ⟨by omega, by omega⟩ ⟨fun c => absurd c (by omega), fun _ => ⟨fun c => ?_, fun c => ⟨fun c2 => ?_, fun c2 => ?_⟩⟩⟩
    · subst c
      by_cases c2 : n < 0
      · rw [if_pos c2, itn_lost (prv_lost _)] at h; exact h
      · rw [if_neg c2, itn_lost (nxt_lost _)] at h; exact h
    · refine m_step0 hg (hs.resolve_left c) ?_
      rw [if_neg (by omega)] at h
      have := ih (nxt (I 86) s) (by omega) nxt_spt (by rw [if_neg (by omega)]; exact h)
      rw [show ((m + 1 : Nat) : Int) + -1 = (m : Int) by omega]; exact this
    · refine m_step1 hg (hs.resolve_left c) ?_
      rw [if_pos (by omega)] at h
      have := ih (prv (I 86) s) (by omega) prv_spt (by rw [if_pos (by omega)]; exact h)
      rw [show ((m + 1 : Nat) : Int) + -1 = (m : Int) by omega]; exact this
theorem z_behind {d : Nat} {I : ax_H} {Q : Int → ax_H → Prop} {x y n : Int} (hg : gd (I 86)) (hx : ax_R x) (hy : ax_R y) (hn : ax_R n) (h : Q (bhd (I 86) x y n) I) : cI (d + 6) kX11_behind [ax_r 85, ax_i x, ax_i y, ax_i n] I Q := by
  unfold bhd at h
  refine vX11_behind_0 hn ?_
  refine m_isSpot hx hy (fun h2 => n1 ?_) (fun h2 => n0 ?_)
  · rw [if_neg (fun q => q h2)] at h
    refine m_in (R8_of hn) (by decide) (by decide) (fun h3 => n1 ?_) (fun h3 => n0 ?_)
    · rw [if_neg (by omega)] at h
      intro s hs
      have hsp : spt s := by omega
      refine ⟨fun c => ?_, fun c z hz => ?_⟩
      · rw [if_neg (by omega)] at h
        have := z_behind_loop (d := d) (n := n) hg hn n.toNat s (by omega) (Or.inr hsp) (by rw [if_neg (by omega), hs]; exact h)
        rw [show ((n.toNat : Nat) : Int) = n by omega] at this; exact this
      · rw [if_pos (by omega)] at h
        have := z_behind_loop (d := d) (n := n) hg hn (-n).toNat s (by omega) (Or.inr hsp) (by rw [if_pos (by omega), hs]; exact h)
        rw [show (((-n).toNat : Nat) : Int) = z by omega] at this; exact this
    · rw [if_pos (by omega)] at h; exact h
  · rw [if_pos h2] at h; exact h
theorem a_period {d : Nat} {g : Int → Int} {I : ax_H} {Q : Int → ax_H → Prop} {x y : Int} (hI : RInv g I) (hx : ax_R x) (hy : ax_R y) (h : ∀ I', Rf I I' → RInv g I' → Q (perd g x y) I') : cI (d + 5) kX10_period [ax_r 0, ax_i x, ax_i y] I Q := by
  have h0 := h I (Rf.rf I) hI
  unfold perd at h h0
  refine vX10_period_0 ?_
  refine c_isSpot hx hy (fun h2 => b1 ?_) (fun h2 => b0 ?_)
  · simp only [if_neg (fun q : ¬ (co x ∧ co y) => q h2)] at h
    exact c_periodOf hI ⟨by omega, by omega⟩ (fun I' hf hr => by have := h I' hf hr; rw [Int.mul_comm] at this; exact this)
  · rw [if_pos h2] at h0; exact h0
theorem z_period_loop {d : Nat} {I : ax_H} {Q : Int → ax_H → Prop} {x y : Int} (hg : gd (I 86)) (hx : co x) (hy : co y) : ∀ (n : Nat) (cur k : Int), k = 1025 - n → n ≤ 1024 → spt cur → Q (pr (I 86) (32 * x + y) n cur k) I →
    RI (d + 6) kX11_period 20 [some (ax_r 85), some (ax_i x), some (ax_i y), some (ax_i cur), some (ax_i k)] I Q := by
  intro n
  induction n with
  | zero =>
    intro cur k hk _ _ h
    exact vX11_period_20 ⟨by omega, by omega⟩ ⟨fun _ => h, fun c => absurd (by omega) c⟩
  | succ n ih =>
    intro cur k hk hn hc h
    unfold pr at h
    refine vX11_period_20 ⟨by omega, by omega⟩ ⟨fun c => absurd c (by omega), fun _ => ?_⟩
    refine m_step0 hg hc ⟨nxt_R _ _, fun c1 => ⟨⟨by omega, by omega⟩, fun c2 => ?_, fun c2 => ?_⟩, fun c1 => ?_⟩
    · rw [if_neg c1, if_neg c2] at h
      exact ih _ (k + 1) (by omega) (by omega) (nxt_spt.resolve_left c1) h
    · rw [if_neg c1, if_pos c2] at h; exact h
    · rw [if_pos c1] at h; exact h
theorem z_period {d : Nat} {I : ax_H} {Q : Int → ax_H → Prop} {x y : Int} (hg : gd (I 86)) (hx : ax_R x) (hy : ax_R y) (h : Q (perd (I 86) x y) I) : cI (d + 6) kX11_period [ax_r 85, ax_i x, ax_i y] I Q := by
  unfold perd at h
  refine vX11_period_0 ?_
  refine m_isSpot hx hy (fun h2 => n1 ?_) (fun h2 => n0 ?_)
  · rw [if_neg (fun q => q h2)] at h
    intro s hs
    exact z_period_loop hg h2.1 h2.2 1024 s 1 (by omega) (by omega) (by omega) (by rw [hs]; exact h)
  · rw [if_pos h2] at h; exact h
/-! pinched lines -/
def pnc (g : Int → Int) (w c : Int) : Prop := cr g w c 1 * cr g w c 1 % 31 = cr g w c 0 * cr g w c 2 % 31
def pns (g : Int → Int) (w : Int) : Nat → Int
  | 0 => 0
  | n + 1 => if cr g w n 1 * cr g w n 1 % 31 = cr g w n 0 * cr g w n 2 % 31 then ax_lor (pns g w n) (2 ^ n) else pns g w n
theorem lor_R8 (x y : Int) : ax_R8 (ax_lor x y) := ⟨Int64.le_toInt _, Int64.toInt_lt _⟩
theorem lor_0 {x : Int} (h : ax_R8 x) : ax_lor x 0 = x := by
  unfold ax_lor
  rw [show Int64.ofInt 0 = 0 from rfl, Int64.or_zero, ax_to8 h]
theorem pns_R8 (g : Int → Int) (w : Int) : ∀ n, ax_R8 (pns g w n)
  | 0 => by show ax_R8 0; decide
  | n + 1 => by
    unfold pns
    split
    · exact lor_R8 _ _
    · exact pns_R8 g w n
def r_pinched (g : Int → Int) (w : Int) : Int := if 0 ≤ w ∧ w ≤ 1 then pns g w 32 else -9223372036854775808
theorem a_pin_loop {d : Nat} {g : Int → Int} {I : ax_H} {Q : Int → ax_H → Prop} {w : Int} (hR : rowsOK I g) (hw : 0 ≤ w ∧ w ≤ 1) (h : Q (pns g w 32) I) : ∀ (m n : Nat), n + m = 32 →
    RJ (d + 3) kX1_pinchedLines 9 [some (ax_r 1), some (ax_i w), some (ax_l (pns g w n)), none, some (ax_i (n : Int)), none] I Q := by
  intro m
  induction m with
  | zero =>
    intro n hn
    obtain rfl : n = 32 := by omega
    exact vX1_pinchedLines_9 (by decide) ⟨fun _ => h, fun c => absurd (by decide) c⟩
  | succ m ih =>
    intro n hn
    have hc : co (n : Int) := ⟨by omega, by omega⟩
    refine vX1_pinchedLines_9 ⟨by omega, by omega⟩ ⟨fun c => absurd c (by omega), fun _ => ?_⟩
    refine c_knownRow hR hw hc (by decide) ?_
    refine c_knownRow hR hw hc (by decide) ?_
    refine c_knownRow hR hw hc (by decide) ?_
    refine c_modulo (cross_R (cr_nm _ _ _ _) (cr_nm _ _ _ _) (cr_nm _ _ _ _) (cr_nm _ _ _ _)) ⟨by omega, fun c => ?_, fun c => ⟨by omega, ?_⟩⟩
    · have e : pns g w (n + 1) = pns g w n := by
        show (if _ then _ else _) = _
        rw [if_neg (by omega)]
      have := ih (n + 1) (by omega)
      rw [e] at this
      exact this
    · have e : pns g w (n + 1) = ax_lor (pns g w n) (2 ^ n) := by
        show (if _ then _ else _) = _
        rw [if_pos (by omega)]
      have := ih (n + 1) (by omega)
      rw [e] at this
      exact this
theorem a_pinched {d : Nat} {g : Int → Int} {I : ax_H} {Q : Int → ax_H → Prop} {w : Int} (hI : RInv g I) (hw : ax_R w) (h : ∀ I', Rf I I' → RInv g I' → Q (r_pinched g w) I') : cJ (d + 4) kX10_pinched [ax_r 0, ax_i w] I Q := by
  have h0 := h I (Rf.rf I) hI
  unfold r_pinched at h h0
  refine vX10_pinched_0 ?_
  refine c_isAxis hw (fun h1 => b1 ?_) (fun h1 => b0 ?_)
  · simp only [if_pos h1] at h
    refine vX1_pinchedLines_0 ?_
    refine c_learnRows hI (fun I1 hf hr => ?_)
    exact a_pin_loop hr.2.2.1 h1 (h I1 hf hr.inv) 32 0 (by omega)
  · rw [if_neg h1] at h0; exact h0
theorem z_pin_loop {d : Nat} {I : ax_H} {Q : Int → ax_H → Prop} {w : Int} (hg : gd (I 86)) (hw : 0 ≤ w ∧ w ≤ 1) (h : Q (pns (I 86) w 32) I) : ∀ (m n : Nat), n + m = 32 →
    RJ (d + 3) kX11_pinched 19 [some (ax_r 85), some (ax_i w), some (ax_l (pns (I 86) w n)), none, some (ax_i (n : Int)), none] I Q := by
  intro m
  induction m with
  | zero =>
    intro n hn
    obtain rfl : n = 32 := by omega
    exact vX11_pinched_19 (by decide) ⟨fun _ => h, fun c => absurd (by decide) c⟩
  | succ m ih =>
    intro n hn
    have hc : co (n : Int) := ⟨by omega, by omega⟩
    have hwR : ax_R w := ⟨by omega, by omega⟩
    have b : ∀ k l, 0 ≤ cr (I 86) w n k * cr (I 86) w n l ∧ cr (I 86) w n k * cr (I 86) w n l < 2147483648 := by
      intro k l
      have h1 := cr_nm (I 86) w n k
      have h2 := cr_nm (I 86) w n l
      have := md_bd h1.1 (show _ ≤ 30 by omega) h2.1 (show _ ≤ 30 by omega)
      omega
    refine vX11_pinched_19 ⟨by omega, by omega⟩ ⟨fun c => absurd c (by omega), fun _ => ?_⟩
    refine m_crossed hg hwR hc (by decide) ⟨b 1 1, ?_⟩
    refine m_crossed hg hwR hc (by decide) ?_
    refine m_crossed hg hwR hc (by decide) ⟨b 0 2, fun c => ?_, fun c => ⟨by omega, ?_⟩⟩
    · have e : pns (I 86) w (n + 1) = pns (I 86) w n := by
        show (if _ then _ else _) = _
        rw [if_neg c]
      have := ih (n + 1) (by omega)
      rw [e] at this
      rw [lor_0 (pns_R8 _ _ _)]
      exact this
    · have e : pns (I 86) w (n + 1) = ax_lor (pns (I 86) w n) (2 ^ n) := by
        show (if _ then _ else _) = _
        rw [if_pos c]
      have := ih (n + 1) (by omega)
      rw [e] at this
      exact this
theorem z_pinched {d : Nat} {I : ax_H} {Q : Int → ax_H → Prop} {w : Int} (hg : gd (I 86)) (hw : ax_R w) (h : Q (r_pinched (I 86) w) I) : cJ (d + 3) kX11_pinched [ax_r 85, ax_i w] I Q := by
  unfold r_pinched at h
  refine vX11_pinched_0 hw ?_
  refine m_in (R8_of hw) (by decide) (by decide) (fun h1 => n1 ?_) (fun h1 => n0 ?_)
  · rw [if_pos h1] at h
    exact z_pin_loop hg h1 h 32 0 (by omega)
  · rw [if_neg h1] at h; exact h
