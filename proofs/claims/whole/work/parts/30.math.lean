/-! numbers modulo 31: what both sides compute -/
theorem md_bd {a b A B : Int} (ha : 0 ≤ a) (ha2 : a ≤ A) (hb : 0 ≤ b) (hb2 : b ≤ B) : 0 ≤ a * b ∧ a * b ≤ A * B :=
  ⟨Int.mul_nonneg ha hb, Int.mul_le_mul ha2 hb2 hb (Int.le_trans ha ha2)⟩
/-- a number, a coordinate -/
abbrev nm (n : Int) : Prop := 0 ≤ n ∧ n < 31
abbrev co (n : Int) : Prop := 0 ≤ n ∧ n ≤ 31
/-- good numbers of both tables -/
def gd (g : Int → Int) : Prop := ∀ k, 0 ≤ k → k < 18 → nm (g k)
def pw (c i : Int) : Int := if c = 31 then (if i = 2 then 1 else 0) else if i = 0 then 1 else if i = 1 then c else c * c % 31
theorem pw_nm {c i : Int} (hc : co c) (hi : 0 ≤ i ∧ i ≤ 2) : nm (pw c i) := by
  obtain ⟨h1, h2⟩ := hc
  unfold pw nm
  split
  · split <;> omega
  · split
    · omega
    · split <;> omega
def trm (g : Int → Int) (t x y i j : Int) : Int := g (9 * t + 3 * i + j) * pw x i % 31 * pw y j % 31
def vl (g : Int → Int) (t x y : Int) : Int := (trm g t x y 0 0 + trm g t x y 0 1 + trm g t x y 0 2 + trm g t x y 1 0 + trm g t x y 1 1 + trm g t x y 1 2 + trm g t x y 2 0 + trm g t x y 2 1 + trm g t x y 2 2) % 31
theorem nm_mod (x : Int) : nm (x % 31) := ⟨by omega, by omega⟩
theorem nm_R {x : Int} (h : nm x) : ax_R x := by unfold nm at h; exact ⟨by omega, by omega⟩
theorem co_R {x : Int} (h : co x) : ax_R x := by unfold co at h; exact ⟨by omega, by omega⟩
theorem vl_nm (g : Int → Int) (t x y : Int) : nm (vl g t x y) := nm_mod _
/-- the number of a table for power k of the coordinate that is swapped, o of the line -/
def nu (g : Int → Int) (which t k o : Int) : Int := if which = 0 then g (9 * t + 3 * k + o) else g (9 * t + 3 * o + k)
def rw_ (g : Int → Int) (which t k c : Int) : Int := (nu g which t k 0 * pw c 0 + nu g which t k 1 * pw c 1 + nu g which t k 2 * pw c 2) % 31
def cr (g : Int → Int) (which c what : Int) : Int :=
  let k := if what = 2 then 1 else 2
  let l := if what = 0 then 1 else 0
  (rw_ g which 0 k c * rw_ g which 1 l c - rw_ g which 0 l c * rw_ g which 1 k c) % 31
theorem cr_nm (g : Int → Int) (which c what : Int) : nm (cr g which c what) := nm_mod _
/-- u by v of numbers -/
def qb (u v : Int) : Int := if v = 0 then (if u = 0 then -6 else 31) else u * ax_inv v % 31
/-- the other coordinate, or -7 -/
def ot (g : Int → Int) (which own c : Int) : Int :=
  let z := if own = 31 then qb ((-(cr g which c 1)) % 31) (cr g which c 0) else qb ((-(cr g which c 1 * own + cr g which c 2)) % 31) ((cr g which c 0 * own + cr g which c 1) % 31)
  if z = -6 then -7 else z
theorem inv_nm : ∀ v : Fin 31, 0 ≤ ax_inv ((v : Nat) : Int) ∧ ax_inv ((v : Nat) : Int) < 31 := by decide +kernel
theorem inv_nm' {v : Int} (h : nm v) : nm (ax_inv v) := by
  unfold nm at h
  have := inv_nm ⟨v.toNat, by omega⟩
  rw [show ((v.toNat : Nat) : Int) = v by omega] at this
  exact this
theorem qb_co {u v : Int} (hu : nm u) (hv : nm v) : qb u v = -6 ∨ co (qb u v) := by
  unfold qb co
  split
  · split
    · exact Or.inl rfl
    · exact Or.inr (by omega)
  · exact Or.inr ⟨by omega, by omega⟩
theorem ot_co (g : Int → Int) (which own c : Int) : ot g which own c = -7 ∨ co (ot g which own c) := by
  unfold ot
  dsimp only
  have h : ∀ z : Int, (z = -6 ∨ co z) → ((if z = -6 then -7 else z) = -7 ∨ co (if z = -6 then -7 else z)) := by
    intro z hz
    split
    · exact Or.inl rfl
    · exact Or.inr (hz.resolve_left (by assumption))
  apply h
  split
  · exact qb_co (nm_mod _) (cr_nm _ _ _ _)
  · exact qb_co (nm_mod _) (nm_mod _)
def kp (g : Int → Int) (x y : Int) : Int := qb (vl g 0 x y) (vl g 1 x y)
/-- a spot behind a swap; -7: lost -/
def swd (g : Int → Int) (s which : Int) : Int :=
  let z := if which = 0 then ot g 0 (s / 32) (s % 32) else ot g 1 (s % 32) (s / 32)
  if z = -7 then -7 else if which = 0 then 32 * z + s % 32 else 32 * (s / 32) + z
def stp (g : Int → Int) (s back : Int) : Int :=
  let h := swd g s (if back = 0 then 0 else 1)
  if h = -7 then -7 else swd g h (if back = 0 then 1 else 0)
abbrev spt (s : Int) : Prop := 0 ≤ s ∧ s < 1024
theorem swd_spt {g : Int → Int} {s which : Int} (h : spt s) : swd g s which = -7 ∨ spt (swd g s which) := by
  unfold spt at *
  unfold swd
  dsimp only
  by_cases hw : which = 0
  · rw [if_pos hw, if_pos hw]
    rcases ot_co g 0 (s / 32) (s % 32) with e | e
    · rw [if_pos e]; exact Or.inl rfl
    · unfold co at e
      rw [if_neg (by omega)]; exact Or.inr (by omega)
  · rw [if_neg hw, if_neg hw]
    rcases ot_co g 1 (s % 32) (s / 32) with e | e
    · rw [if_pos e]; exact Or.inl rfl
    · unfold co at e
      rw [if_neg (by omega)]; exact Or.inr (by omega)
theorem stp_spt {g : Int → Int} {s back : Int} (h : spt s) : stp g s back = -7 ∨ spt (stp g s back) := by
  unfold stp
  dsimp only
  rcases swd_spt (g := g) (which := if back = 0 then 0 else 1) h with e | e
  · rw [if_pos e]; exact Or.inl rfl
  · rw [if_neg (by unfold spt at e; omega)]
    exact swd_spt e
theorem kp_co {g : Int → Int} {x y : Int} : kp g x y = -6 ∨ co (kp g x y) := qb_co (vl_nm _ _ _ _) (vl_nm _ _ _ _)
/-! answers that are 0 or 1 -/
theorem b1 {A B : Prop} (h : B) : ax_R 1 ∧ (((1 : Int) = 0 → A) ∧ (¬ (1 : Int) = 0 → B)) := ⟨by decide, fun c => absurd c (by decide), fun _ => h⟩
theorem b0 {A B : Prop} (h : A) : ax_R 0 ∧ (((0 : Int) = 0 → A) ∧ (¬ (0 : Int) = 0 → B)) := ⟨by decide, fun _ => h, fun c => absurd rfl c⟩
theorem n1 {A B : Prop} (h : A) : ax_R 1 ∧ (((1 : Int) ≠ 0 → A) ∧ ((1 : Int) = 0 → B)) := ⟨by decide, fun _ => h, fun c => absurd c (by decide)⟩
theorem n0 {A B : Prop} (h : B) : ax_R 0 ∧ (((0 : Int) ≠ 0 → A) ∧ ((0 : Int) = 0 → B)) := ⟨by decide, fun c => absurd rfl c, fun _ => h⟩
theorem cmp_lt {x y : Int} : ax_cmp x y < 0 ↔ x < y := by
  unfold ax_cmp
  split
  · constructor <;> intro h <;> omega
  · split <;> constructor <;> intro h <;> omega
theorem cmp_gt {x y : Int} : 0 < ax_cmp x y ↔ y < x := by
  unfold ax_cmp
  split
  · constructor <;> intro h <;> omega
  · split <;> constructor <;> intro h <;> omega
theorem cmp_eq {x y : Int} : ax_cmp x y = 0 ↔ x = y := by
  unfold ax_cmp
  split
  · constructor <;> intro h <;> omega
  · split <;> constructor <;> intro h <;> omega
theorem cmp_R (x y : Int) : ax_R (ax_cmp x y) := by
  unfold ax_cmp
  split
  · decide
  · split <;> decide
theorem R8_of {x : Int} (h : ax_R x) : ax_R8 x := ⟨by omega, by omega⟩
