/-! KEPT at all spots, sizes of fibres, ranks -/
def sm (f : Nat → Int) : Nat → Int
  | 0 => 0
  | n + 1 => sm f n + f n
theorem sm_add (f g : Nat → Int) : ∀ n, sm (fun i => f i + g i) n = sm f n + sm g n
  | 0 => rfl
  | n + 1 => by
    show sm (fun i => f i + g i) n + (f n + g n) = (sm f n + f n) + (sm g n + g n)
    rw [sm_add f g n]; omega
theorem sm_0 : ∀ n, sm (fun _ => 0) n = 0
  | 0 => rfl
  | n + 1 => by show sm (fun _ => 0) n + 0 = 0; rw [sm_0 n]; rfl
theorem sm_swap (f : Nat → Nat → Int) (m : Nat) : ∀ n, sm (fun i => sm (fun j => f i j) m) n = sm (fun j => sm (fun i => f i j) n) m
  | 0 => (sm_0 m).symm
  | n + 1 => by
    show sm (fun i => sm (fun j => f i j) m) n + sm (fun j => f n j) m = _
    rw [sm_swap f m n, ← sm_add]
    rfl
theorem sm_app (f : Nat → Int) (a : Nat) : ∀ b, sm f (a + b) = sm f a + sm (fun j => f (a + j)) b
  | 0 => by show sm f a = sm f a + 0; omega
  | b + 1 => by
    show sm f (a + b) + f (a + b) = sm f a + (sm (fun j => f (a + j)) b + f (a + b))
    rw [sm_app f a b]; omega
theorem sm_mul (f : Nat → Int) (m : Nat) : ∀ n, sm f (n * m) = sm (fun i => sm (fun j => f (i * m + j)) m) n
  | 0 => by rw [Nat.zero_mul]; rfl
  | n + 1 => by
    rw [Nat.succ_mul, sm_app, sm_mul f m n]
    rfl
theorem sm_bd {f : Nat → Int} (h : ∀ i, 0 ≤ f i ∧ f i ≤ 1) : ∀ n, 0 ≤ sm f n ∧ sm f n ≤ n
  | 0 => by show (0 : Int) ≤ 0 ∧ (0 : Int) ≤ 0; omega
  | n + 1 => by
    have := sm_bd h n
    have := h n
    show 0 ≤ sm f n + f n ∧ sm f n + f n ≤ ((n + 1 : Nat) : Int)
    omega
theorem sm_congr {f g : Nat → Int} : ∀ n, (∀ i, i < n → f i = g i) → sm f n = sm g n
  | 0, _ => rfl
  | n + 1, h => by
    show sm f n + f n = sm g n + g n
    rw [sm_congr n (fun i hi => h i (Nat.lt_succ_of_lt hi)), h n (Nat.lt_succ_self n)]
def kq (g : Int → Int) (s : Int) : Int := kp g (s / 32) (s % 32)
theorem kq_co (g : Int → Int) (s : Int) : kq g s = -6 ∨ co (kq g s) := kp_co
theorem kq_R (g : Int → Int) (s : Int) : ax_R (kq g s) := by
  rcases kq_co g s with e | e
  · rw [e]; decide
  · exact co_R e
def ik (g : Int → Int) (k : Int) (s : Nat) : Int := if kq g (s : Int) = k then 1 else 0
theorem ik_bd (g : Int → Int) (k : Int) (s : Nat) : 0 ≤ ik g k s ∧ ik g k s ≤ 1 := by unfold ik; split <;> omega
def fz (g : Int → Int) (k : Int) : Int := sm (ik g k) 1024
theorem fz_cols (g : Int → Int) (k : Int) : sm (fun y => sm (fun x => ik g k (x * 32 + y)) 32) 32 = fz g k := by
  unfold fz
  rw [show 1024 = 32 * 32 from rfl, sm_mul, sm_swap]
def keptOK (I : ax_H) (g : Int → Int) : Prop := (∀ s, spt s → I 5 s = kq g s) ∧ ∀ k, co k → I 6 k = fz g k
def KInv (g : Int → Int) (I : ax_H) : Prop := tabs I 3 g ∧ (I 1 3 = I 1 1 → keptOK I g) ∧ I 1 3 ≤ I 1 1
def Kf (I I' : ax_H) : Prop := (∀ a, a ≠ 1 → a ≠ 5 → a ≠ 6 → I' a = I a) ∧ ∀ k, k ≠ 3 → I' 1 k = I 1 k
theorem Kf.rf (I : ax_H) : Kf I I := ⟨fun _ _ _ _ => rfl, fun _ _ => rfl⟩
theorem Kf.trans {I I' I'' : ax_H} (h : Kf I I') (h' : Kf I' I'') : Kf I I'' := ⟨fun a h1 h2 h3 => (h'.1 a h1 h2 h3).trans (h.1 a h1 h2 h3), fun k h1 => (h'.2 k h1).trans (h.2 k h1)⟩
def KRdy (g : Int → Int) (I : ax_H) : Prop := tabs I 3 g ∧ I 1 3 = I 1 1 ∧ keptOK I g
theorem KRdy.inv {g : Int → Int} {I : ax_H} (h : KRdy g I) : KInv g I := ⟨h.1, fun _ => h.2.2, Int.le_of_eq h.2.1⟩
/-- the partial counts, columns ahead of y and x ahead in it -/
def pc (g : Int → Int) (k : Int) (y x : Nat) : Int := sm (fun y => sm (fun x => ik g k (x * 32 + y)) 32) y + sm (fun x => ik g k (x * 32 + y)) x
theorem pc_bd (g : Int → Int) (k : Int) {y x : Nat} (hx : x ≤ 32) (hy : y ≤ 32) : 0 ≤ pc g k y x ∧ pc g k y x ≤ 2000 := by
  have h1 : ∀ n, 0 ≤ sm (fun y => sm (fun x => ik g k (x * 32 + y)) 32) n ∧ sm (fun y => sm (fun x => ik g k (x * 32 + y)) 32) n ≤ 32 * n := by
    intro n
    induction n with
    | zero => show (0 : Int) ≤ 0 ∧ (0 : Int) ≤ _; omega
    | succ n ih =>
      have := sm_bd (f := fun x => ik g k (x * 32 + n)) (fun i => ik_bd _ _ _) 32
      show 0 ≤ sm _ n + sm (fun x => ik g k (x * 32 + n)) 32 ∧ sm _ n + sm (fun x => ik g k (x * 32 + n)) 32 ≤ _
      omega
  have h2 := h1 y
  have h3 := sm_bd (f := fun x => ik g k (x * 32 + y)) (fun i => ik_bd _ _ _) x
  unfold pc
  omega
theorem pc_next (g : Int → Int) (k : Int) (y : Nat) : pc g k y 32 = pc g k (y + 1) 0 := by
  unfold pc
  show _ + sm (fun x => ik g k (x * 32 + y)) 32 = (sm _ y + sm (fun x => ik g k (x * 32 + y)) 32) + 0
  omega
theorem pc_step (g : Int → Int) (k : Int) (y x : Nat) : pc g k y (x + 1) = pc g k y x + (if kq g (((x * 32 + y : Nat) : Int)) = k then 1 else 0) := by
  unfold pc
  show _ + (sm (fun x => ik g k (x * 32 + y)) x + ik g k (x * 32 + y)) = _
  unfold ik
  omega
theorem c_kept128 {d : Nat} {g : Int → Int} {Q : ax_H → Prop} {y : Nat} (hy : y < 32) : ∀ (n x : Nat) (I : ax_H), x + n = 32 →
    (∀ (x' y' : Nat), x' < 32 → (y' < y ∨ (y' = y ∧ x' < x)) → I 5 ((x' * 32 + y' : Nat) : Int) = kq g ((x' * 32 + y' : Nat) : Int)) →
    (∀ k, co k → I 6 k = pc g k y x) →
    (∀ I', (∀ a, a ≠ 5 → a ≠ 6 → I' a = I a) → (∀ (x' y' : Nat), x' < 32 → y' < y + 1 → I' 5 ((x' * 32 + y' : Nat) : Int) = kq g ((x' * 32 + y' : Nat) : Int)) → (∀ k, co k → I' 6 k = pc g k (y + 1) 0) →
      RV (d + 2) kX1_learnKept 43 [some (ax_r 1), some (ax_i ((y : Int) + 1)), none, none, none, none, none, none, none, none] I' Q) →
    RV (d + 2) kX1_learnKept 128 [some (ax_r 1), some (ax_i (y : Int)), some (ax_i (rw_ g 0 0 0 y)), some (ax_i (rw_ g 0 0 1 y)), some (ax_i (rw_ g 0 0 2 y)), some (ax_i (rw_ g 0 1 0 y)), some (ax_i (rw_ g 0 1 1 y)), some (ax_i (rw_ g 0 1 2 y)), some (ax_i (x : Int)), none] I Q := by
  intro n
  induction n with
  | zero =>
    intro x I hx h5 h6 hQ
    obtain rfl : x = 32 := by omega
    refine vX1_learnKept_128 (by decide) ⟨fun _ => hQ I (fun _ _ _ => rfl) (fun x' y' h1 h2 => h5 x' y' h1 (by omega)) (fun k hk => by rw [h6 k hk, pc_next]), fun c => absurd (by decide) c⟩
  | succ n ih =>
    intro x I hx h5 h6 hQ
    have hxc : co (x : Int) := ⟨by omega, by omega⟩
    have hyc : co (y : Int) := ⟨by omega, by omega⟩
    have R := @rw_nm g 0
    refine vX1_learnKept_128 ⟨by omega, by omega⟩ ⟨fun c => absurd c (by omega), fun _ => ?_⟩
    refine c_quadraticAt (R _ _ _) (R _ _ _) (R _ _ _) hxc ?_
    refine c_quadraticAt (R _ _ _) (R _ _ _) (R _ _ _) hxc ?_
    rw [qd_eq (R _ _ _) hxc, qd_eq (R _ _ _) hxc, ← vl_rows, ← vl_rows]
    refine c_quotient (nm_R (vl_nm _ _ _ _)) (nm_R (vl_nm _ _ _ _)) ?_
    rw [nm_self (vl_nm _ _ _ _), nm_self (vl_nm _ _ _ _)]
    have ek : qb (vl g 0 (x : Int) (y : Int)) (vl g 1 (x : Int) (y : Int)) = kq g ((x * 32 + y : Nat) : Int) := by
      show kp g x y = kp g _ _
      rw [show ((x * 32 + y : Nat) : Int) / 32 = x by omega, show ((x * 32 + y : Nat) : Int) % 32 = y by omega]
    rw [ek]
    have ep : (x : Int) * 32 + (y : Int) = ((x * 32 + y : Nat) : Int) := by omega
    rw [ep]
    have hkc := kq_co g ((x * 32 + y : Nat) : Int)
    -- what holds behind the write of KEPT
    have w5 : ∀ J : ax_H, J 5 = ax_st I 5 ((x * 32 + y : Nat) : Int) (kq g ((x * 32 + y : Nat) : Int)) 5 → ∀ (x' y' : Nat), x' < 32 → (y' < y ∨ (y' = y ∧ x' < x + 1)) → J 5 ((x' * 32 + y' : Nat) : Int) = kq g ((x' * 32 + y' : Nat) : Int) := by
      intro J hJ x' y' h1 h2
      rw [hJ, st_at]
      by_cases e : ((x' * 32 + y' : Nat) : Int) = ((x * 32 + y : Nat) : Int)
      · rw [if_pos e, e]
      · rw [if_neg e]
        exact h5 x' y' h1 (by omega)
    have nx : (x : Int) + 1 = ((x + 1 : Nat) : Int) := by omega
    refine ⟨by omega, kq_R _ _, fun c => ?_, fun c => ⟨fun c2 => ?_, fun c2 => ⟨by omega, ?_, ?_⟩⟩⟩
    · rw [nx]
      refine ih (x + 1) _ (by omega) (w5 _ rfl) (fun k hk => ?_) (fun I' hf a b => hQ I' (fun q h1 h2 => by rw [hf q h1 h2, st_cell h1]) a b)
      rw [st_cell (by decide), h6 k hk, pc_step, if_neg (by omega)]; omega
    · rw [nx]
      refine ih (x + 1) _ (by omega) (w5 _ rfl) (fun k hk => ?_) (fun I' hf a b => hQ I' (fun q h1 h2 => by rw [hf q h1 h2, st_cell h1]) a b)
      rw [st_cell (by decide), h6 k hk, pc_step, if_neg (by omega)]; omega
    · rw [st_cell (by decide), h6 _ (by omega)]
      have := pc_bd g (kq g ((x * 32 + y : Nat) : Int)) (y := y) (x := x) (by omega) (by omega)
      exact ⟨by omega, by omega⟩
    · rw [nx]
      refine ih (x + 1) _ (by omega) (w5 _ (st_cell (by decide))) (fun k hk => ?_) (fun I' hf a b => hQ I' (fun q h1 h2 => by rw [hf q h1 h2, st_cell h2, st_cell h1]) a b)
      rw [st_at, pc_step]
      by_cases e : k = kq g ((x * 32 + y : Nat) : Int)
      · rw [if_pos e, if_pos e.symm, st_cell (by decide), ← e, h6 k hk]
      · rw [if_neg e, if_neg (fun q => e q.symm), st_cell (by decide), h6 k hk]; omega
theorem c_kept43 {d : Nat} {g : Int → Int} {Q : ax_H → Prop} : ∀ (n y : Nat) (I : ax_H), y + n = 32 → tabs I 3 g →
    (∀ (x' y' : Nat), x' < 32 → y' < y → I 5 ((x' * 32 + y' : Nat) : Int) = kq g ((x' * 32 + y' : Nat) : Int)) → (∀ k, co k → I 6 k = pc g k y 0) →
    (∀ I', (∀ a, a ≠ 5 → a ≠ 6 → I' a = I a) → keptOK I' g → Q I') →
    RV (d + 2) kX1_learnKept 43 [some (ax_r 1), some (ax_i (y : Int)), none, none, none, none, none, none, none, none] I Q := by
  intro n
  induction n with
  | zero =>
    intro y I hy hT h5 h6 hQ
    obtain rfl : y = 32 := by omega
    refine vX1_learnKept_43 (by decide) ⟨fun _ => hQ I (fun _ _ _ => rfl) ⟨fun s hs => ?_, fun k hk => ?_⟩, fun c => absurd (by decide) c⟩
    · have := h5 (s.toNat / 32) (s.toNat % 32) (by omega) (by omega)
      rw [show ((s.toNat / 32 * 32 + s.toNat % 32 : Nat) : Int) = s by omega] at this
      exact this
    · rw [h6 k hk, ← fz_cols]
      unfold pc
      show _ + 0 = _
      omega
  | succ n ih =>
    intro y I hy hT h5 h6 hQ
    have hyc : co (y : Int) := ⟨by omega, by omega⟩
    refine vX1_learnKept_43 ⟨by omega, by omega⟩ ⟨fun c => absurd c (by omega), fun _ => ?_⟩
    refine c_sumAt isT2 hT (by decide) (by decide) (by decide) hyc ?_
    refine c_sumAt isT2 hT (by decide) (by decide) (by decide) hyc ?_
    refine c_sumAt isT2 hT (by decide) (by decide) (by decide) hyc ?_
    refine c_sumAt isT2 hT (by decide) (by decide) (by decide) hyc ?_
    refine c_sumAt isT2 hT (by decide) (by decide) (by decide) hyc ?_
    refine c_sumAt isT2 hT (by decide) (by decide) (by decide) hyc ?_
    refine c_kept128 (g := g) (y := y) (by omega) 32 0 I (by omega) (fun x' y' h1 h2 => h5 x' y' h1 (by omega)) h6 (fun I1 hf a b => ?_)
    rw [show (y : Int) + 1 = ((y + 1 : Nat) : Int) by omega]
    exact ih (y + 1) I1 (by omega) (hT.of (hf 3 (by decide) (by decide))) (fun x' y' h1 h2 => a x' y' h1 h2) b (fun I' hf' hk => hQ I' (fun q h1 h2 => by rw [hf' q h1 h2, hf q h1 h2]) hk)
theorem c_kept22 {d : Nat} {Q : ax_H → Prop} : ∀ (n : Nat) (I : ax_H) (k : Int), k = 32 - n → n ≤ 32 → (∀ s, 0 ≤ s → s < k → I 6 s = 0) →
    (∀ I', (∀ a, a ≠ 6 → I' a = I a) → (∀ s, co s → I' 6 s = 0) → RV (d + 2) kX1_learnKept 43 [some (ax_r 1), some (ax_i 0), none, none, none, none, none, none, none, none] I' Q) →
    RV (d + 2) kX1_learnKept 22 [some (ax_r 1), some (ax_i k), none, none, none, none, none, none, none, none] I Q := by
  intro n
  induction n with
  | zero =>
    intro I k hk _ hA hQ
    exact vX1_learnKept_22 ⟨by omega, by omega⟩ ⟨fun _ => hQ I (fun _ _ => rfl) (fun s hs => hA s hs.1 (by omega)), fun c => absurd (by omega) c⟩
  | succ n ih =>
    intro I k hk hn hA hQ
    refine vX1_learnKept_22 ⟨by omega, by omega⟩ ⟨fun c => absurd c (by omega), fun _ => ⟨by omega, ?_⟩⟩
    refine ih _ (k + 1) (by omega) (by omega) (fun s h1 h2 => ?_) (fun I' hf hs => hQ I' (fun a h => by rw [hf a h, st_cell h]) hs)
    rw [st_at]
    split
    · rfl
    · exact hA s h1 (by omega)
theorem c_learnKept {d : Nat} {g : Int → Int} {I : ax_H} {Q : ax_H → Prop} (h : KInv g I) (hQ : ∀ I', Kf I I' → KRdy g I' → Q I') : cV (d + 2) kX1_learnKept [ax_r 1] I Q := by
  refine vX1_learnKept_0 ⟨fun c => ?_, fun c => hQ I (Kf.rf I) ⟨h.1, c, h.2.1 c⟩⟩
  refine c_kept22 32 _ 0 (by omega) (by omega) (fun s h1 h2 => absurd h2 (by omega)) ?_
  intro I1 hf1 hA1
  have e1 : ∀ a, a ≠ 6 → a ≠ 1 → I1 a = I a := fun a h7 h1 => by rw [hf1 a h7, st_cell h1]
  refine c_kept43 (g := g) 32 0 _ (by omega) (h.1.of (e1 3 (by decide) (by decide))) (fun x' y' h1 h2 => absurd h2 (by omega)) (fun k hk => by rw [hA1 k hk]; rfl) ?_
  intro I2 hf2 hK2
  have v2 : I2 1 3 = I 1 1 := by rw [hf2 1 (by decide) (by decide), hf1 1 (by decide), st_same]
  have v1 : I2 1 1 = I 1 1 := by rw [hf2 1 (by decide) (by decide), hf1 1 (by decide), st_ne (Or.inr (by decide))]
  exact hQ I2 ⟨fun a h1 h5 h6 => by rw [hf2 a h5 h6, e1 a h6 h1], fun k hk => by rw [hf2 1 (by decide) (by decide), hf1 1 (by decide), st_ne (Or.inr hk)]⟩ ⟨h.1.of (by rw [hf2 3 (by decide) (by decide), e1 3 (by decide) (by decide)]), v2.trans v1.symm, hK2⟩
theorem c_keeps {d : Nat} {g : Int → Int} {I : ax_H} {Q : Int → ax_H → Prop} {s k : Int} (h : KInv g I) (hs : spt s) (hk : ax_R k) (hQ : ∀ I', Kf I I' → KRdy g I' → Q (if kq g s = k then 1 else 0) I') : cI (d + 3) kX1_keeps [ax_r 1, ax_i s, ax_i k] I Q := by
  refine vX1_keeps_0 ⟨by omega, by omega⟩ hk ?_
  refine c_learnKept h (fun I' hf hr => ?_)
  have e := hr.2.2.1 s hs
  have := hQ I' hf hr
  refine ⟨fun c => absurd c (by omega), fun _ => ⟨fun c => absurd c (by omega), fun _ => ⟨by omega, fun c => ?_, fun c => ?_⟩⟩⟩
  · rw [e] at c; rw [if_neg c] at this; exact this
  · rw [e] at c; rw [if_pos c] at this; exact this
/-- the i-th place at which f is k, or how many -/
def nl (f : Int → Int) (k i : Int) : Nat → Int → Int → Int
  | 0, many, _ => if i = -1 then many else -5
  | n + 1, many, s => if f s = k then (if many = i then s else nl f k i n (many + 1) (s + 1)) else nl f k i n many (s + 1)
def r_nth (g : Int → Int) (k i : Int) : Int := nl (kq g) k i 1024 0 0
theorem c_nth_loop {d : Nat} {g : Int → Int} {I : ax_H} {Q : Int → ax_H → Prop} {k i : Int} (hR : ∀ s, spt s → I 5 s = kq g s) (hk : ax_R k) (hi : ax_R i) : ∀ (n : Nat) (m s : Int), s = 1024 - n → n ≤ 1024 → 0 ≤ m → m ≤ s → Q (nl (kq g) k i n m s) I →
    RI (d + 3) kX1_spotWhereKept 9 [some (ax_r 1), some (ax_i k), some (ax_i i), some (ax_i m), some (ax_i s)] I Q := by
  intro n
  induction n with
  | zero =>
    intro m s hs _ h0 h1 h
    unfold nl at h
    refine vX1_spotWhereKept_9 hk hi ⟨by omega, by omega⟩ ⟨by omega, by omega⟩ ⟨fun _ => ⟨fun c => ?_, fun c => ?_⟩, fun c => absurd (by omega) c⟩
    · rw [if_neg c] at h; exact h
    · rw [if_pos c] at h; exact h
  | succ n ih =>
    intro m s hs hn h0 h1 h
    unfold nl at h
    have e := hR s ⟨by omega, by omega⟩
    refine vX1_spotWhereKept_9 hk hi ⟨by omega, by omega⟩ ⟨by omega, by omega⟩ ⟨fun c => absurd c (by omega), fun _ => ⟨by omega, fun c => ?_, fun c => ⟨fun c2 => ?_, fun c2 => ?_⟩⟩⟩
    · rw [e] at c
      rw [if_neg c] at h
      exact ih m (s + 1) (by omega) (by omega) h0 (by omega) h
    · rw [e] at c
      rw [if_pos c, if_neg c2] at h
      exact ih (m + 1) (s + 1) (by omega) (by omega) (by omega) (by omega) h
    · rw [e] at c
      rw [if_pos c, if_pos c2] at h
      exact h
theorem c_spotWhereKept {d : Nat} {g : Int → Int} {I : ax_H} {Q : Int → ax_H → Prop} {k i : Int} (h : KInv g I) (hk : ax_R k) (hi : ax_R i) (hQ : ∀ I', Kf I I' → KRdy g I' → Q (r_nth g k i) I') : cI (d + 3) kX1_spotWhereKept [ax_r 1, ax_i k, ax_i i] I Q := by
  refine vX1_spotWhereKept_0 ?_
  refine c_learnKept h (fun I' hf hr => ?_)
  exact c_nth_loop hr.2.2.1 hk hi 1024 0 0 (by omega) (by omega) (by omega) (by omega) (hQ I' hf hr)
/-! ranks -/
def ah (z : Int → Int) (k : Int) : Nat → Int
  | 0 => 0
  | n + 1 => ah z k n + (if z k < z n ∨ (z n = z k ∧ (n : Int) < k) then 1 else 0)
theorem ah_bd (z : Int → Int) (k : Int) : ∀ n, 0 ≤ ah z k n ∧ ah z k n ≤ n
  | 0 => by show (0 : Int) ≤ 0 ∧ (0 : Int) ≤ 0; omega
  | n + 1 => by
    have := ah_bd z k n
    show 0 ≤ ah z k n + _ ∧ ah z k n + _ ≤ ((n + 1 : Nat) : Int)
    split <;> omega
def rkl (z : Int → Int) (i : Int) : Nat → Int → Int
  | 0, _ => -1
  | n + 1, k => if ah z k 32 = i then k else rkl z i n (k + 1)
theorem c_rank17 {d : Nat} {z : Int → Int} {I : ax_H} {Q : Int → ax_H → Prop} {i k : Int} (hz : ∀ k, co k → I 6 k = z k) (hi : ax_R i) (hk : 0 ≤ k ∧ k < 32) (he : ah z k 32 = i → Q k I) (hn : ah z k 32 ≠ i → RI (d + 3) kX1_ranked 6 [some (ax_r 1), some (ax_i i), some (ax_i (k + 1)), none, none, none, none] I Q) : ∀ (m n : Nat), n + m = 32 →
    RI (d + 3) kX1_ranked 17 [some (ax_r 1), some (ax_i i), some (ax_i k), some (ax_i (ah z k n)), some (ax_i (n : Int)), none, none] I Q := by
  intro m
  induction m with
  | zero =>
    intro n hm
    obtain rfl : n = 32 := by omega
    have b := ah_bd z k 32
    exact vX1_ranked_17 hi ⟨by omega, by omega⟩ ⟨by omega, by omega⟩ (by decide) ⟨fun _ => ⟨fun c => hn c, fun c => he c⟩, fun c => absurd (by decide) c⟩
  | succ m ih =>
    intro n hm
    have b := ah_bd z k n
    have e1 := hz n ⟨by omega, by omega⟩
    have e2 := hz k ⟨by omega, by omega⟩
    have hnx := ih (n + 1) (by omega)
    have up : (z k < z n ∨ (z n = z k ∧ (n : Int) < k)) → ∀ y, y = ah z k n + 1 → RI (d + 3) kX1_ranked 17 [some (ax_r 1), some (ax_i i), some (ax_i k), some (ax_i y), some (ax_i ((n : Int) + 1)), none, none] I Q := by
      intro h y hy
      have e : ah z k (n + 1) = y := by show ah z k n + _ = y; rw [if_pos h, hy]
      rw [e] at hnx; exact hnx
    have no : ¬ (z k < z n ∨ (z n = z k ∧ (n : Int) < k)) → ∀ y, y = ah z k n + 0 → RI (d + 3) kX1_ranked 17 [some (ax_r 1), some (ax_i i), some (ax_i k), some (ax_i y), some (ax_i ((n : Int) + 1)), none, none] I Q := by
      intro h y hy
      have e : ah z k (n + 1) = y := by show ah z k n + _ = y; rw [if_neg h, hy]
      rw [e] at hnx; exact hnx
    refine vX1_ranked_17 hi ⟨by omega, by omega⟩ ⟨by omega, by omega⟩ ⟨by omega, by omega⟩ ⟨fun c => absurd c (by omega), fun _ => ⟨by omega, by omega, ?_, ?_⟩⟩
    · rw [e1, e2]
      exact fun c => ⟨fun c2 => no (by omega), fun c2 => ⟨fun c3 => no (by omega), fun c3 => up (by omega)⟩⟩
    · rw [e1, e2]
      exact fun c => ⟨fun c2 => up (by omega), fun c2 => up (by omega)⟩
theorem c_rank6 {d : Nat} {z : Int → Int} {I : ax_H} {Q : Int → ax_H → Prop} {i : Int} (hz : ∀ k, co k → I 6 k = z k) (hi : ax_R i) : ∀ (n : Nat) (k : Int), k = 32 - n → n ≤ 32 → Q (rkl z i n k) I →
    RI (d + 3) kX1_ranked 6 [some (ax_r 1), some (ax_i i), some (ax_i k), none, none, none, none] I Q := by
  intro n
  induction n with
  | zero =>
    intro k hk _ h
    exact vX1_ranked_6 ⟨by omega, by omega⟩ ⟨fun _ => h, fun c => absurd (by omega) c⟩
  | succ n ih =>
    intro k hk hn h
    unfold rkl at h
    refine vX1_ranked_6 ⟨by omega, by omega⟩ ⟨fun c => absurd c (by omega), fun _ => ?_⟩
    refine c_rank17 hz hi ⟨by omega, by omega⟩ (fun c => ?_) (fun c => ?_) 32 0 (by omega)
    · rw [if_pos c] at h; exact h
    · rw [if_neg c] at h; exact ih (k + 1) (by omega) (by omega) h
theorem c_ranked {d : Nat} {g : Int → Int} {I : ax_H} {Q : Int → ax_H → Prop} {i : Int} (h : KInv g I) (hi : ax_R i) (hQ : ∀ I', Kf I I' → KRdy g I' → Q (rkl (fz g) i 32 0) I') : cI (d + 3) kX1_ranked [ax_r 1, ax_i i] I Q := by
  refine vX1_ranked_0 ?_
  refine c_learnKept h (fun I' hf hr => ?_)
  exact c_rank6 hr.2.2.2 hi 32 0 (by omega) (by omega) (hQ I' hf hr)
def r_fibre (g : Int → Int) (k i : Int) : Int := if co k then r_nth g k i else -1
def r_rank (g : Int → Int) (i : Int) : Int := if co i then rkl (fz g) i 32 0 else -1
theorem a_fibre {d : Nat} {g : Int → Int} {I : ax_H} {Q : Int → ax_H → Prop} {k i : Int} (hI : KInv g I) (hk : ax_R k) (hi : ax_R i) (h : ∀ I', Kf I I' → KInv g I' → Q (r_fibre g k i) I') : cI (d + 4) kX10_fibre [ax_r 0, ax_i k, ax_i i] I Q := by
  have h0 := h I (Kf.rf I) hI
  unfold r_fibre at h h0
  refine vX10_fibre_0 ?_
  refine c_isCoordinate hk (fun h2 => b1 ?_) (fun h2 => b0 ?_)
  · simp only [if_pos h2] at h
    exact c_spotWhereKept hI hk hi (fun I' hf hr => h I' hf hr.inv)
  · rw [if_neg h2] at h0; exact h0
theorem a_base {d : Nat} {g : Int → Int} {I : ax_H} {Q : Int → ax_H → Prop} {i : Int} (hI : KInv g I) (hi : ax_R i) (h : ∀ I', Kf I I' → KInv g I' → Q (r_nth g (-6) i) I') : cI (d + 4) kX10_base [ax_r 0, ax_i i] I Q :=
  vX10_base_0 (c_spotWhereKept hI (by decide) hi (fun I' hf hr => h I' hf hr.inv))
theorem a_rank {d : Nat} {g : Int → Int} {I : ax_H} {Q : Int → ax_H → Prop} {i : Int} (hI : KInv g I) (hi : ax_R i) (h : ∀ I', Kf I I' → KInv g I' → Q (r_rank g i) I') : cI (d + 4) kX10_rank [ax_r 0, ax_i i] I Q := by
  have h0 := h I (Kf.rf I) hI
  unfold r_rank at h h0
  refine vX10_rank_0 ?_
  refine c_isCoordinate hi (fun h2 => b1 ?_) (fun h2 => b0 ?_)
  · simp only [if_pos h2] at h
    exact c_ranked hI hi (fun I' hf hr => h I' hf hr.inv)
  · rw [if_neg h2] at h0; exact h0
