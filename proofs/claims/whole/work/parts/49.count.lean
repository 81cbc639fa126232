/-! count -/
def nzs (p : Int → Int) (n : Nat) : Int := sm (fun k => if p (k : Int) = 0 then 0 else 1) n
theorem nzs_step (p : Int → Int) (n : Nat) : nzs p (n + 1) = nzs p n + (if p (n : Int) = 0 then 0 else 1) := rfl
theorem c_notZero13 {d a : Nat} {I : ax_H} {Q : Int → ax_H → Prop} {p : Int → Int} (ha : isT a) (hp : ∀ k, 0 ≤ k → k < 18 → I (a + 1) k = p k) (h : Q (nzs p 18) I) : ∀ (m n : Nat), n + m = 18 →
    RI d kX9_notZero 13 [none, some (ax_i (nzs p n)), some (ax_r (a + 1)), some (ax_i 18), some (ax_i (n : Int)), none] I Q := by
  intro m
  induction m with
  | zero =>
    intro n hm
    obtain rfl : n = 18 := by omega
    exact vX9_notZero_13 ha (by decide) (by decide) ⟨fun _ => h, fun c => absurd (by decide) c⟩
  | succ m ih =>
    intro n hm
    have e := hp n (by omega) (by omega)
    have nx := ih (n + 1) (by omega)
    rw [nzs_step] at nx
    refine vX9_notZero_13 ha (by decide) ⟨by omega, by omega⟩ ⟨fun c => absurd c (by omega), fun _ => ⟨by omega, fun c y hy => ?_, fun c y hy => ?_⟩⟩
    · rw [e] at c; rw [if_neg c, ← hy] at nx; exact nx
    · rw [e] at c; rw [if_pos c, ← hy] at nx; exact nx
def r_count (g : Int → Int) (a b c e i : Int) : Int := if i = 0 then a else if i = 1 then nzs g 18 else if i = 2 then b else if i = 3 then c else if i = 4 then e else -2
theorem a_count {d : Nat} {g : Int → Int} {I : ax_H} {Q : Int → ax_H → Prop} {i : Int} (hT : tabs I 3 g) (hi : ax_R i) (h : Q (r_count g (I 63 1) (I 70 1) (I 72 1) (I 67 2) i) I) : cI (d + 1) kX10_count [ax_r 0, ax_i i] I Q := by
  refine vX10_count_0 hi ⟨fun c => ?_, fun c => ?_, fun c => ?_, fun c => ?_, fun c => ?_, fun c => ?_⟩
  · subst c; exact h
  · subst c; exact vX9_notZero_0 isT2 (c_notZero13 (p := g) isT2 (fun k h1 h2 => (hT k h1 h2).1) h 18 0 (by omega))
  · subst c; exact h
  · subst c; exact h
  · subst c; exact h
  · unfold r_count at h
    rw [if_neg (by omega), if_neg (by omega), if_neg (by omega), if_neg (by omega), if_neg (by omega)] at h; exact h
theorem m_count48 {d : Nat} {I : ax_H} {Q : Int → ax_H → Prop} (h : Q (nzs (I 86) 18) I) : ∀ (m n : Nat), n + m = 18 →
    RI d kX11_count 48 [some (ax_r 85), none, some (ax_i (nzs (I 86) n)), some (ax_i (n : Int))] I Q := by
  intro m
  induction m with
  | zero =>
    intro n hm
    obtain rfl : n = 18 := by omega
    exact vX11_count_48 (by decide) ⟨fun _ => h, fun c => absurd (by decide) c⟩
  | succ m ih =>
    intro n hm
    have nx := ih (n + 1) (by omega)
    rw [nzs_step] at nx
    refine vX11_count_48 ⟨by omega, by omega⟩ ⟨fun c => absurd c (by omega), fun _ => ⟨by omega, fun c y hy => ?_, fun c y hy => ?_⟩⟩
    · rw [if_pos c, ← hy] at nx; exact nx
    · rw [if_neg c, ← hy] at nx; exact nx
theorem z_count {d : Nat} {I : ax_H} {Q : Int → ax_H → Prop} {i : Int} (hi : ax_R i) (h : Q (r_count (I 86) (I 86 18) (I 85 23) (I 85 27) (I 86 31) i) I) : cI d kX11_count [ax_r 85, ax_i i] I Q := by
  refine vX11_count_0 hi ⟨fun c => ?_, fun c => ?_, fun c => ?_, fun c => ?_, fun c => ?_, fun c => ?_⟩
  · subst c; exact h
  · subst c; exact m_count48 h 18 0 (by omega)
  · subst c; exact h
  · subst c; exact h
  · subst c; exact h
  · unfold r_count at h
    rw [if_neg (by omega), if_neg (by omega), if_neg (by omega), if_neg (by omega), if_neg (by omega)] at h; exact h
