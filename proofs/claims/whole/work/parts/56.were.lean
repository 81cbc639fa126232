/-! numbers that were; odds -/
def upg (g : Int → Int) (a n : Int) : Int → Int := fun k => if k = a then n else g k
theorem trm_upd {g : Int → Int} {t x y i j c a b : Int} (hi : 0 ≤ i ∧ i ≤ 2) (hj : 0 ≤ j ∧ j ≤ 2) (ha : 0 ≤ a ∧ a ≤ 2) (hb : 0 ≤ b ∧ b ≤ 2) : trm (upg g (9 * t + 3 * i + j) c) t x y a b = if a = i ∧ b = j then c * pw x i % 31 * pw y j % 31 else trm g t x y a b := by
  unfold trm upg
  by_cases h : a = i ∧ b = j
  · rw [if_pos h, if_pos (by omega), h.1, h.2]
  · rw [if_neg h, if_neg (by omega)]
theorem trm_oth {g : Int → Int} {t t' x y i j c a b : Int} (ht : t' ≠ t) (hi : 0 ≤ i ∧ i ≤ 2) (hj : 0 ≤ j ∧ j ≤ 2) (ha : 0 ≤ a ∧ a ≤ 2) (hb : 0 ≤ b ∧ b ≤ 2) : trm (upg g (9 * t + 3 * i + j) c) t' x y a b = trm g t' x y a b := by
  unfold trm upg
  rw [if_neg (by omega)]
theorem vl_oth {g : Int → Int} {t t' x y i j c : Int} (ht : t' ≠ t) (hi : 0 ≤ i ∧ i ≤ 2) (hj : 0 ≤ j ∧ j ≤ 2) : vl (upg g (9 * t + 3 * i + j) c) t' x y = vl g t' x y := by
  unfold vl
  rw [trm_oth ht hi hj (by decide) (by decide), trm_oth ht hi hj (by decide) (by decide), trm_oth ht hi hj (by decide) (by decide), trm_oth ht hi hj (by decide) (by decide), trm_oth ht hi hj (by decide) (by decide), trm_oth ht hi hj (by decide) (by decide), trm_oth ht hi hj (by decide) (by decide), trm_oth ht hi hj (by decide) (by decide), trm_oth ht hi hj (by decide) (by decide)]
def tz (g : Int → Int) (t x y i j a b : Int) : Int := if a = i ∧ b = j then 0 else trm g t x y a b
theorem vl_upd {g : Int → Int} {t x y i j : Int} (hi : 0 ≤ i ∧ i ≤ 2) (hj : 0 ≤ j ∧ j ≤ 2) : ∃ E : Int, ∀ c, vl (upg g (9 * t + 3 * i + j) c) t x y = (E + c * pw x i % 31 * pw y j % 31) % 31 := by
  refine ⟨tz g t x y i j 0 0 + tz g t x y i j 0 1 + tz g t x y i j 0 2 + tz g t x y i j 1 0 + tz g t x y i j 1 1 + tz g t x y i j 1 2 + tz g t x y i j 2 0 + tz g t x y i j 2 1 + tz g t x y i j 2 2, fun c => ?_⟩
  unfold vl
  rw [trm_upd hi hj (by decide) (by decide), trm_upd hi hj (by decide) (by decide), trm_upd hi hj (by decide) (by decide), trm_upd hi hj (by decide) (by decide), trm_upd hi hj (by decide) (by decide), trm_upd hi hj (by decide) (by decide), trm_upd hi hj (by decide) (by decide), trm_upd hi hj (by decide) (by decide), trm_upd hi hj (by decide) (by decide)]
  unfold tz
  generalize c * pw x i % 31 * pw y j % 31 = T
  have hi3 : i = 0 ∨ i = 1 ∨ i = 2 := by omega
  have hj3 : j = 0 ∨ j = 1 ∨ j = 2 := by omega
  rcases hi3 with rfl | rfl | rfl <;> rcases hj3 with rfl | rfl | rfl <;> simp <;> omega
theorem upg_self (g : Int → Int) (a : Int) : upg g a (g a) = g := by
  funext k
  unfold upg
  split
  · rename_i e; rw [e]
  · rfl
theorem vl_lin {g : Int → Int} {t x y i j : Int} (hi : 0 ≤ i ∧ i ≤ 2) (hj : 0 ≤ j ∧ j ≤ 2) (c : Int) : (vl g t x y - pw x i * pw y j % 31 * g (9 * t + 3 * i + j) + pw x i * pw y j % 31 * c) % 31 = vl (upg g (9 * t + 3 * i + j) c) t x y := by
  obtain ⟨E, hE⟩ := vl_upd (g := g) (t := t) (x := x) (y := y) hi hj
  have e0 := hE (g (9 * t + 3 * i + j))
  rw [upg_self] at e0
  rw [hE c, e0]
  have key : ∀ z : Int, z * pw x i % 31 * pw y j % 31 = (z * (pw x i * pw y j)) % 31 := by
    intro z; rw [em1, Int.mul_assoc]
  have key2 : ∀ z : Int, pw x i * pw y j % 31 * z = z * (pw x i * pw y j) - 31 * (pw x i * pw y j / 31 * z) := by
    intro z; rw [em2, Int.mul_comm z]
  rw [key, key, key2, key2]
  omega
def wre (g : Int → Int) (a x y k : Int) : Nat → Int
  | 0 => 0
  | n + 1 => if kp (upg g a n) x y = k then ax_lor (wre g a x y k n) (2 ^ n) else wre g a x y k n
theorem wre_R8 (g : Int → Int) (a x y k : Int) : ∀ n, ax_R8 (wre g a x y k n)
  | 0 => by show ax_R8 0; decide
  | n + 1 => by
    unfold wre
    split
    · exact lor_R8 _ _
    · exact wre_R8 g a x y k n
def r_were (g : Int → Int) (t i j x y k : Int) : Int := if plc t i j then (if co x ∧ co y then (if co k then wre g (9 * t + 3 * i + j) x y k 31 else -9223372036854775808) else -9223372036854775808) else -9223372036854775808
theorem c_were68 {d : Nat} {g : Int → Int} {I : ax_H} {Q : Int → ax_H → Prop} {t i j x y k W O : Int} (ht : 0 ≤ t ∧ t ≤ 1) (hi : 0 ≤ i ∧ i ≤ 2) (hj : 0 ≤ j ∧ j ≤ 2) (hk : ax_R k) (hW : W = pw x i * pw y j % 31) (hO : O = vl g t x y - W * g (9 * t + 3 * i + j)) (hOb : -1000 ≤ O ∧ O ≤ 1000) (h : Q (wre g (9 * t + 3 * i + j) x y k 31) I) : ∀ (m n : Nat), n + m = 31 →
    RJ (d + 3) kX9_numbersKeeping 68 [none, some (ax_i t), none, none, none, none, some (ax_i k), some (ax_i W), some (ax_i O), some (ax_i (vl g 0 x y)), some (ax_i (vl g 1 x y)), some (ax_l (wre g (9 * t + 3 * i + j) x y k n)), none, some (ax_i (n : Int)), none, none] I Q := by
  intro m
  induction m with
  | zero =>
    intro n hm
    obtain rfl : n = 31 := by omega
    exact vX9_numbersKeeping_68 ⟨by omega, by omega⟩ (by decide) hk ⟨fun _ => h, fun c => absurd (by decide) c⟩
  | succ m ih =>
    intro n hm
    have nx := ih (n + 1) (by omega)
    unfold wre at nx
    have b := md_bd (show 0 ≤ W by omega) (show W ≤ 30 by omega) (show 0 ≤ (n : Int) by omega) (show (n : Int) ≤ 30 by omega)
    have el := vl_lin (g := g) (t := t) (x := x) (y := y) hi hj (n : Int)
    rw [← hW, ← hO] at el
    have eo := fun t' => vl_oth (g := g) (t := t) (t' := t') (x := x) (y := y) (i := i) (j := j) (c := (n : Int))
    have key : ∀ z : Int, z = kp (upg g (9 * t + 3 * i + j) n) x y → ax_R z ∧ ((z ≠ k → RJ (d + 3) kX9_numbersKeeping 68 [none, some (ax_i t), none, none, none, none, some (ax_i k), some (ax_i W), some (ax_i O), some (ax_i (vl g 0 x y)), some (ax_i (vl g 1 x y)), some (ax_l (wre g (9 * t + 3 * i + j) x y k n)), none, some (ax_i ((n : Int) + 1)), none, none] I Q) ∧ (z = k → (0 ≤ (n : Int) ∧ (n : Int) < 63) ∧ RJ (d + 3) kX9_numbersKeeping 68 [none, some (ax_i t), none, none, none, none, some (ax_i k), some (ax_i W), some (ax_i O), some (ax_i (vl g 0 x y)), some (ax_i (vl g 1 x y)), some (ax_l (ax_lor (wre g (9 * t + 3 * i + j) x y k n) (2 ^ ((n : Int)).toNat))), none, some (ax_i ((n : Int) + 1)), none, none] I Q)) := by
      intro z hz
      refine ⟨?_, fun c => ?_, fun c => ⟨by omega, ?_⟩⟩
      · rw [hz]
        rcases @kp_co (upg g (9 * t + 3 * i + j) n) x y with e | e
        · rw [e]; decide
        · exact co_R e
      · rw [if_neg (by rw [← hz]; exact c)] at nx; exact nx
      · rw [if_pos (by rw [← hz]; exact c)] at nx; exact nx
    refine vX9_numbersKeeping_68 ⟨by omega, by omega⟩ ⟨by omega, by omega⟩ hk ⟨fun c => absurd c (by omega), fun _ => ?_⟩
    intro y1 hy1
    subst hy1
    refine ⟨fun c => ?_, fun c => ?_⟩
    · obtain rfl : t = 1 := by omega
      refine c_quotient (nm_R (vl_nm _ _ _ _)) ⟨by omega, by omega⟩ ?_
      rw [nm_self (vl_nm _ _ _ _), el]
      refine key _ ?_
      unfold kp
      rw [eo 0 (by decide) hi hj]
    · subst c
      refine c_quotient ⟨by omega, by omega⟩ (nm_R (vl_nm _ _ _ _)) ?_
      rw [nm_self (vl_nm _ _ _ _), el]
      refine key _ ?_
      unfold kp
      rw [eo 1 (by decide) hi hj]
theorem a_were {d : Nat} {g : Int → Int} {I : ax_H} {Q : Int → ax_H → Prop} {t i j x y k : Int} (hT : tabs I 3 g) (ht : ax_R t) (hi : ax_R i) (hj : ax_R j) (hx : ax_R x) (hy : ax_R y) (hk : ax_R k) (h : Q (r_were g t i j x y k) I) : cJ (d + 4) kX10_were [ax_r 0, ax_i t, ax_i i, ax_i j, ax_i x, ax_i y, ax_i k] I Q := by
  unfold r_were at h
  refine vX10_were_0 ?_
  refine c_isPower ht hi hj (fun hp => b1 ?_) (fun hp => b0 ?_)
  · rw [if_pos hp] at h
    refine c_isSpot hx hy (fun hs => b1 ?_) (fun hs => b0 ?_)
    · rw [if_pos hs] at h
      refine c_isCoordinate hk (fun hc => n1 ?_) (fun hc => n0 ?_)
      · rw [if_pos hc] at h
        obtain ⟨p1, p2, p3⟩ := hp
        have q1 := pw_nm hs.1 p2
        have q2 := pw_nm hs.2 p3
        have b := md_bd q1.1 (show _ ≤ 30 by have := q1.2; omega) q2.1 (show _ ≤ 30 by have := q2.2; omega)
        refine vX9_numbersKeeping_0 isT2 ?_
        refine c_powerAt p2 hs.1 ?_
        refine c_powerAt p3 hs.2 ⟨by omega, ?_⟩
        intro W hW
        refine c_valueAt isT2 hT p1 hs.1 hs.2 ?_
        refine c_numberAt isT2 hT ⟨p1, p2, p3⟩ ?_
        intro O hO
        refine c_valueAt isT2 hT (by decide) hs.1 hs.2 ?_
        refine c_valueAt isT2 hT (by decide) hs.1 hs.2 ?_
        have g1 := hT.gd (9 * t + 3 * i + j) (by omega) (by omega)
        have v1 := vl_nm g t x y
        have b2 := md_bd (show 0 ≤ W by omega) (show W ≤ 30 by omega) g1.1 (show _ ≤ 30 by have := g1.2; omega)
        have := v1.1
        have := v1.2
        exact c_were68 p1 p2 p3 hk hW hO (by omega) h 31 0 (by omega)
      · rw [if_neg hc] at h; exact h
    · rw [if_neg hs] at h; exact h
  · rw [if_neg hp] at h; exact h
theorem z_were54 {d : Nat} {I0 : ax_H} {Q : Int → ax_H → Prop} {x y k a : Int} (hg : gd (I0 86)) (hx : co x) (hy : co y) (hk : ax_R k) (ha : 0 ≤ a ∧ a < 18) (h : Q (wre (I0 86) a x y k 31) I0) : ∀ (m n : Nat) (I : ax_H), n + m = 31 → (∀ b, b ≠ 86 → I b = I0 b) → (∀ j, j ≠ a → I 86 j = I0 86 j) →
    RJ (d + 3) kX11_were 54 [some (ax_r 85), none, none, none, some (ax_i x), some (ax_i y), some (ax_i k), some (ax_i a), some (ax_i (I0 86 a)), some (ax_l (wre (I0 86) a x y k n)), none, some (ax_i (n : Int))] I Q := by
  intro m
  induction m with
  | zero =>
    intro n I hm h1 h2
    obtain rfl : n = 31 := by omega
    have e : ax_st I 86 a (I0 86 a) = I0 := by
      funext b j
      by_cases q : b = 86
      · subst q
        rw [st_at]
        split
        · rename_i e; rw [e]
        · exact h2 j (by assumption)
      · rw [st_cell q, h1 b q]
    refine vX11_were_54 (by decide) hk (nm_R (hg a ha.1 ha.2)) ⟨fun _ => ⟨by omega, ?_⟩, fun c => absurd (by decide) c⟩
    rw [e]; exact h
  | succ m ih =>
    intro n I hm h1 h2
    have e : ∀ v, (ax_st I 86 a v) 86 = upg (I0 86) a v := by
      intro v
      funext j
      rw [st_at]
      unfold upg
      split
      · rfl
      · exact h2 j (by assumption)
    have nx := ih (n + 1) (ax_st I 86 a n) (by omega) (fun b q => by rw [st_cell q, h1 b q]) (fun j q => by rw [st_ne (Or.inr q), h2 j q])
    unfold wre at nx
    refine vX11_were_54 ⟨by omega, by omega⟩ hk (nm_R (hg a ha.1 ha.2)) ⟨fun c => absurd c (by omega), fun _ => ⟨by omega, ?_⟩⟩
    refine m_keptAt (by
      rw [e]
      intro j j0 j1
      unfold upg
      split
      · unfold nm; omega
      · exact hg j j0 j1) hx hy ?_
    rw [e]
    refine ⟨?_, fun c => ?_, fun c => ⟨by omega, ?_⟩⟩
    · rcases @kp_co (upg (I0 86) a n) x y with e | e
      · rw [e]; decide
      · exact co_R e
    · rw [if_neg c] at nx
      rw [lor_0 (wre_R8 _ _ _ _ _ _)]
      exact nx
    · rw [if_pos c] at nx; exact nx
theorem z_were {d : Nat} {I : ax_H} {Q : Int → ax_H → Prop} {t i j x y k : Int} (hg : gd (I 86)) (ht : ax_R t) (hi : ax_R i) (hj : ax_R j) (hx : ax_R x) (hy : ax_R y) (hk : ax_R k) (h : Q (r_were (I 86) t i j x y k) I) : cJ (d + 4) kX11_were [ax_r 85, ax_i t, ax_i i, ax_i j, ax_i x, ax_i y, ax_i k] I Q := by
  unfold r_were at h
  refine vX11_were_0 ?_
  refine m_isPlace ht hi hj (fun hp => b1 ?_) (fun hp => b0 ?_)
  · rw [if_pos hp] at h
    refine m_isSpot hx hy (fun hs => b1 ?_) (fun hs => b0 ?_)
    · rw [if_pos hs] at h
      refine m_isCoordinate hk (fun hc => n1 ?_) (fun hc => n0 ?_)
      · rw [if_pos hc] at h
        refine m_placeOf ⟨by omega, ?_⟩
        exact z_were54 (d := d + 1) hg hs.1 hs.2 hk (by omega) h 31 0 I (by omega) (fun _ _ => rfl) (fun _ _ => rfl)
      · rw [if_neg hc] at h; exact h
    · rw [if_neg hs] at h; exact h
  · rw [if_neg hp] at h; exact h
/-! odds -/
theorem kp_R (g : Int → Int) (x y : Int) : ax_R (kp g x y) := by
  rcases @kp_co g x y with e | e
  · rw [e]; decide
  · exact co_R e
def dx (z : Int) : Int := z % 4294967296 / 65536 % 32
def od (g : Int → Int) (k seed : Int) : Nat → Int
  | 0 => 0
  | n + 1 => od g k seed n + (if kp g (dx ((seed + n) * 1103515245 + 12345)) (dx (((seed + n) * 1103515245 + 12345) * 1103515245 + 12345)) = k then 1 else 0)
theorem od_bd (g : Int → Int) (k seed : Int) : ∀ n, 0 ≤ od g k seed n ∧ od g k seed n ≤ n
  | 0 => by show (0 : Int) ≤ 0 ∧ (0 : Int) ≤ 0; omega
  | n + 1 => by
    have := od_bd g k seed n
    show 0 ≤ od g k seed n + _ ∧ od g k seed n + _ ≤ ((n + 1 : Nat) : Int)
    split <;> omega
def r_odds (g : Int → Int) (k seed m part : Int) : Int := if co k ∧ (1 ≤ m ∧ m ≤ 30) ∧ 0 ≤ part ∧ part ≤ 1 then (if part = 0 then od g k seed m.toNat / ((Nat.gcd (od g k seed m.toNat).toNat m.toNat : Nat) : Int) else m / ((Nat.gcd (od g k seed m.toNat).toNat m.toNat : Nat) : Int)) else -9223372036854775808
theorem c_cd {d : Nat} {I : ax_H} {Q : Int → ax_H → Prop} : ∀ (n a b : Nat) (t : Int), 0 ≤ t → t + n < 64 → b ≤ n → a ≤ 1000 → b ≤ 1000 → (0 < a ∨ 0 < b) → Q ((Nat.gcd a b : Nat) : Int) I →
    RI d kX10_commonDivisor 7 [none, none, some (ax_i (a : Int)), some (ax_i (b : Int)), some (ax_i t), none] I Q := by
  intro n
  induction n with
  | zero =>
    intro a b t t0 ht hb ha _ hp h
    obtain rfl : b = 0 := by omega
    rw [Nat.gcd_zero_right] at h
    exact vX10_commonDivisor_7 ⟨by omega, by omega⟩ (by decide) ⟨by omega, by omega⟩ ⟨fun c => absurd c (by omega), fun _ => ⟨fun _ => ⟨fun c => absurd c (by omega), fun _ => h⟩, fun c => absurd (by decide) c⟩⟩
  | succ n ih =>
    intro a b t t0 ht hb ha hb2 hp h
    refine vX10_commonDivisor_7 ⟨by omega, by omega⟩ ⟨by omega, by omega⟩ ⟨by omega, by omega⟩ ⟨fun c => absurd c (by omega), fun _ => ⟨fun c => ?_, fun c => ⟨by omega, by omega, fun y hy => ?_⟩⟩⟩
    · obtain rfl : b = 0 := by omega
      rw [Nat.gcd_zero_right] at h
      exact ⟨fun c => absurd c (by omega), fun _ => h⟩
    · rw [hy, show (a : Int) % (b : Int) = ((a % b : Nat) : Int) by rw [Int.natCast_emod]]
      have hlt := Nat.mod_lt a (show 0 < b by omega)
      refine ih b (a % b) (t + 1) (by omega) (by omega) (by omega) hb2 (by omega) (by omega) ?_
      rw [Nat.gcd_comm b, ← Nat.gcd_rec, Nat.gcd_comm]; exact h
theorem dv_R {a b : Int} (ha : 0 ≤ a ∧ a ≤ 1000) (hb : 0 < b) : ax_R (a / b) := by
  have h1 := Int.ediv_nonneg ha.1 (Int.le_of_lt hb)
  have h2 := Int.ediv_le_self b ha.1
  exact ⟨by omega, by omega⟩
theorem a_odds39 {d : Nat} {g : Int → Int} {I : ax_H} {Q : Int → ax_H → Prop} {k seed part : Int} {M : Nat} (hT : tabs I 3 g) (hk : co k) (hM : 1 ≤ M ∧ M ≤ 30) (hp : 0 ≤ part ∧ part ≤ 1) (h : Q (if part = 0 then od g k seed M / ((Nat.gcd (od g k seed M).toNat M : Nat) : Int) else M / ((Nat.gcd (od g k seed M).toNat M : Nat) : Int)) I) : ∀ (m n : Nat), n + m = M →
    RJ (d + 4) kX10_odds 39 [some (ax_r 0), some (ax_i k), some (ax_i seed), some (ax_i (M : Int)), some (ax_i part), some (ax_i (od g k seed n)), some (ax_i (n : Int)), none, none] I Q := by
  intro m
  induction m with
  | zero =>
    intro n hm
    obtain rfl : n = M := by omega
    have b := od_bd g k seed n
    have gp := Nat.gcd_pos_of_pos_right (od g k seed n).toNat (show 0 < n by omega)
    have gl := Nat.gcd_le_right (od g k seed n).toNat (show 0 < n by omega)
    refine vX10_odds_39 (co_R hk) ⟨by omega, by omega⟩ ⟨by omega, by omega⟩ ⟨by omega, by omega⟩ ⟨fun _ => ?_, fun c => absurd (Int.le_refl _) c⟩
    refine vX10_commonDivisor_0 ?_
    have := c_cd (d := d + 3) (I := I) (Q := fun w3 I2 => (part ≠ 0 → (0 ≤ (n : Int) ∧ (n : Int) < 2147483648) ∧ ((0 < w3 ∧ w3 < 2147483648) ∧ (ax_R ((n : Int) / w3) ∧ (Q ((n : Int) / w3) I2)))) ∧ (part = 0 → (0 ≤ od g k seed n ∧ od g k seed n < 2147483648) ∧ ((0 < w3 ∧ w3 < 2147483648) ∧ (ax_R (od g k seed n / w3) ∧ (Q (od g k seed n / w3) I2))))) 30 (od g k seed n).toNat n 0 (by omega) (by omega) (by omega) (by omega) (by omega) (by omega) ?_
    · rw [show (((od g k seed n).toNat : Nat) : Int) = od g k seed n by omega] at this
      exact this
    · refine ⟨fun c => ⟨by omega, by omega, dv_R (by omega) (by omega), ?_⟩, fun c => ⟨by omega, by omega, dv_R (by omega) (by omega), ?_⟩⟩
      · rw [if_neg c] at h; exact h
      · rw [if_pos c] at h; exact h
  | succ m ih =>
    intro n hm
    have nx := ih (n + 1) (by omega)
    have b := od_bd g k seed n
    have es : od g k seed (n + 1) = od g k seed n + (if kp g (dx ((seed + n) * 1103515245 + 12345)) (dx (((seed + n) * 1103515245 + 12345) * 1103515245 + 12345)) = k then 1 else 0) := rfl
    rw [es] at nx
    refine vX10_odds_39 (co_R hk) ⟨by omega, by omega⟩ ⟨by omega, by omega⟩ ⟨by omega, by omega⟩ ⟨fun c => absurd c (by omega), fun _ => ?_⟩
    refine vX10_drawn_0 ?_
    refine vX10_drawn_0 ⟨by omega, by omega, ?_⟩
    have cx : ∀ z : Int, co (dx z) := fun z => by unfold dx; exact ⟨by omega, by omega⟩
    refine c_quotientAt isT2 hT (cx _) (cx _) ?_
    unfold dx at nx
    refine ⟨kp_R _ _ _, fun c => ?_, fun c => ?_⟩
    · rw [if_neg c, Int.add_zero] at nx; exact nx
    · rw [if_pos c] at nx; exact nx
theorem a_odds {d : Nat} {g : Int → Int} {I : ax_H} {Q : Int → ax_H → Prop} {k seed m part : Int} (hT : tabs I 3 g) (hk : ax_R k) (hm : ax_R m) (hp : ax_R part) (h : Q (r_odds g k seed m part) I) : cJ (d + 4) kX10_odds [ax_r 0, ax_i k, ax_i seed, ax_i m, ax_i part] I Q := by
  unfold r_odds at h
  refine vX10_odds_0 hm hp ?_
  refine c_isCoordinate hk (fun hc => b1 ⟨fun c => ?_, fun c => ⟨fun c2 => ?_, fun c2 => ⟨fun c3 => ?_, fun c3 => ⟨fun c4 => ?_, fun c4 => ?_⟩⟩⟩⟩) (fun hc => b0 ?_)
  · rw [if_neg (by omega)] at h; exact h
  · rw [if_neg (by omega)] at h; exact h
  · rw [if_neg (by omega)] at h; exact h
  · rw [if_pos (by omega)] at h
    have := a_odds39 (d := d) (Q := Q) (seed := seed) (M := m.toNat) hT hc (by omega) (show 0 ≤ part ∧ part ≤ 1 by omega) (by rw [show ((m.toNat : Nat) : Int) = m by omega]; exact h) m.toNat 0 (by omega)
    rw [show ((m.toNat : Nat) : Int) = m by omega] at this
    exact this
  · rw [if_neg (by omega)] at h; exact h
  · rw [if_neg (fun q => hc q.1)] at h; exact h
def cf : Nat → Nat → Nat → Bool
  | 0, _, b => b == 0
  | n + 1, a, b => b == 0 || cf n b (a % b)
theorem cf_ok : ∀ a b : Fin 31, cf 10 (a : Nat) (b : Nat) = true := by decide +kernel
theorem m_common {I : ax_H} {Q : Int → ax_H → Prop} : ∀ (n d a b : Nat), cf n a b = true → a ≤ 1000 → b ≤ 1000 → Q ((Nat.gcd a b : Nat) : Int) I → cI (d + n + 1) kX11_common [ax_i (a : Int), ax_i (b : Int)] I Q := by
  intro n
  induction n with
  | zero =>
    intro d a b hc ha hb h
    obtain rfl : b = 0 := by simpa [cf] using hc
    rw [Nat.gcd_zero_right] at h
    exact vX11_common_0 (by decide) ⟨fun c => absurd rfl c, fun _ => h⟩
  | succ n ih =>
    intro d a b hc ha hb h
    refine vX11_common_0 ⟨by omega, by omega⟩ ⟨fun c => ⟨by omega, by omega, ?_⟩, fun c => ?_⟩
    · have hb0 : 0 < b := by omega
      have hlt := Nat.mod_lt a hb0
      rw [show (a : Int) % (b : Int) = ((a % b : Nat) : Int) by rw [Int.natCast_emod]]
      have hc2 : cf n b (a % b) = true := by
        unfold cf at hc
        rcases Bool.or_eq_true _ _ ▸ hc with q | q
        · have : b = 0 := by simpa using q
          omega
        · exact q
      refine ih d b (a % b) hc2 hb (by omega) ?_
      rw [Nat.gcd_comm b, ← Nat.gcd_rec, Nat.gcd_comm]; exact h
    · obtain rfl : b = 0 := by omega
      rw [Nat.gcd_zero_right] at h
      exact h
theorem z_odds40 {d : Nat} {I : ax_H} {Q : Int → ax_H → Prop} {k seed part : Int} {M : Nat} (hg : gd (I 86)) (hk : co k) (hM : 1 ≤ M ∧ M ≤ 30) (hp : 0 ≤ part ∧ part ≤ 1) (h : Q (if part = 0 then od (I 86) k seed M / ((Nat.gcd (od (I 86) k seed M).toNat M : Nat) : Int) else M / ((Nat.gcd (od (I 86) k seed M).toNat M : Nat) : Int)) I) : ∀ (m n : Nat), n + m = M →
    RJ (d + 13) kX11_odds 40 [some (ax_r 85), some (ax_i k), some (ax_i seed), some (ax_i (M : Int)), some (ax_i part), some (ax_i (od (I 86) k seed n)), some (ax_i (n : Int)), none, none] I Q := by
  intro m
  induction m with
  | zero =>
    intro n hm
    obtain rfl : n = M := by omega
    have b := od_bd (I 86) k seed n
    have gp := Nat.gcd_pos_of_pos_right (od (I 86) k seed n).toNat (show 0 < n by omega)
    have gl := Nat.gcd_le_right (od (I 86) k seed n).toNat (show 0 < n by omega)
    have hcf := cf_ok ⟨n, by omega⟩ ⟨(od (I 86) k seed n).toNat, by omega⟩
    have run : ∀ Q1 : Int → ax_H → Prop, Q1 ((Nat.gcd (od (I 86) k seed n).toNat n : Nat) : Int) I → cI (d + 12) kX11_common [ax_i (n : Int), ax_i (od (I 86) k seed n)] I Q1 := by
      intro Q1 h1
      have := m_common (I := I) (Q := Q1) 10 (d + 1) n (od (I 86) k seed n).toNat hcf (by omega) (by omega) (by rw [Nat.gcd_comm]; exact h1)
      rw [show (((od (I 86) k seed n).toNat : Nat) : Int) = od (I 86) k seed n by omega] at this
      exact this
    refine vX11_odds_40 (co_R hk) ⟨by omega, by omega⟩ ⟨by omega, by omega⟩ ⟨by omega, by omega⟩ ⟨fun _ => ⟨fun c => run _ ⟨by omega, by omega, dv_R (by omega) (by omega), ?_⟩, fun c => run _ ⟨by omega, by omega, dv_R (by omega) (by omega), ?_⟩⟩, fun c => absurd (Int.le_refl _) c⟩
    · rw [if_neg c] at h; exact h
    · rw [if_pos c] at h; exact h
  | succ m ih =>
    intro n hm
    have nx := ih (n + 1) (by omega)
    have b := od_bd (I 86) k seed n
    have es : od (I 86) k seed (n + 1) = od (I 86) k seed n + (if kp (I 86) (dx ((seed + n) * 1103515245 + 12345)) (dx (((seed + n) * 1103515245 + 12345) * 1103515245 + 12345)) = k then 1 else 0) := rfl
    rw [es] at nx
    have cx : ∀ z : Int, co (dx z) := fun z => by unfold dx; exact ⟨by omega, by omega⟩
    refine vX11_odds_40 (co_R hk) ⟨by omega, by omega⟩ ⟨by omega, by omega⟩ ⟨by omega, by omega⟩ ⟨fun c => absurd c (by omega), fun _ => ?_⟩
    intro z1 h1
    refine ⟨by omega, fun z2 h2 z3 h3 => ⟨by omega, ?_⟩⟩
    subst h1
    subst h3
    rw [h2]
    refine m_keptAt hg (cx ((seed + n) * 1103515245 + 12345)) (cx (((seed + n) * 1103515245 + 12345) * 1103515245 + 12345)) ?_
    unfold dx at nx
    refine ⟨kp_R _ _ _, fun c => ?_, fun c => ?_⟩
    · intro y hy
      rw [if_neg c] at nx
      rw [hy]; exact nx
    · intro y hy
      rw [if_pos c] at nx
      rw [hy]; exact nx
theorem z_odds {d : Nat} {I : ax_H} {Q : Int → ax_H → Prop} {k seed m part : Int} (hg : gd (I 86)) (hk : ax_R k) (hm : ax_R m) (hp : ax_R part) (h : Q (r_odds (I 86) k seed m part) I) : cJ (d + 13) kX11_odds [ax_r 85, ax_i k, ax_i seed, ax_i m, ax_i part] I Q := by
  unfold r_odds at h
  refine vX11_odds_0 hm hp ?_
  refine m_isCoordinate (d := d + 11) hk (fun hc => b1 ?_) (fun hc => b0 ?_)
  · refine m_in (R8_of hm) (by decide) (by decide) (fun h1 => b1 ?_) (fun h1 => b0 ?_)
    · refine m_in (R8_of hp) (by decide) (by decide) (fun h2 => n1 ?_) (fun h2 => n0 ?_)
      · rw [if_pos (by omega)] at h
        have := z_odds40 (d := d) (Q := Q) (seed := seed) (M := m.toNat) hg hc (by omega) h2 (by rw [show ((m.toNat : Nat) : Int) = m by omega]; exact h) m.toNat 0 (by omega)
        rw [show ((m.toNat : Nat) : Int) = m by omega] at this
        exact this
      · rw [if_neg (fun q => h2 q.2.2)] at h; exact h
    · rw [if_neg (fun q => h1 q.2.1)] at h; exact h
  · rw [if_neg (fun q => hc q.1)] at h; exact h
