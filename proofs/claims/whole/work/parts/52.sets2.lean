/-! set, image, undo, move -/
theorem cp_at {I : ax_H} {a b : Nat} {sp dp n j : Int} (h : dp ≤ j ∧ j < dp + n) : ax_cp I a sp b dp n b j = I a (sp + (j - dp)) := by
  unfold ax_cp; rw [if_pos ⟨rfl, h.1, h.2⟩]
theorem cp_cell {I : ax_H} {a b c : Nat} {sp dp n : Int} (h : c ≠ b) : ax_cp I a sp b dp n c = I c := by
  funext j; unfold ax_cp; rw [if_neg (fun q => h q.1)]
theorem a_set {d : Nat} {g : Int → Int} {I : ax_H} {Q : Int → ax_H → Prop} {t i j v : Int} (hT : tabs I 3 g) (hv1 : -2147483648 ≤ I 1 1 ∧ I 1 1 < 2147483647) (ht : ax_R t) (hi : ax_R i) (hj : ax_R j) (hv : ax_R v)
    (h1 : ¬ plc t i j → Q (-1) I) (h2 : plc t i j → ¬ nm v → Q (-2) I) (h : plc t i j → nm v → Q (g (9 * t + 3 * i + j)) (ax_st (ax_st I 3 (9 * t + 3 * i + j) v) 1 1 (I 1 1 + 1))) : cI (d + 2) kX10_set [ax_r 0, ax_i t, ax_i i, ax_i j, ax_i v] I Q := by
  refine vX10_set_0 ?_
  refine c_isPower ht hi hj (fun hp => n1 ?_) (fun hp => n0 (h1 hp))
  refine c_isNumber hv (fun hn => n1 ?_) (fun hn => n0 (h2 hp hn))
  refine c_numberAt isT2 hT hp ?_
  refine vX1_change_0 ?_
  refine vX9_change_0 isT2 hv ?_
  intro y hy
  obtain ⟨p1, p2, p3⟩ := hp
  refine ⟨by omega, fun c => absurd c (by omega), fun _ => ⟨fun c => absurd c (by omega), fun _ => ⟨by omega, ?_⟩⟩⟩
  have := h ⟨p1, p2, p3⟩ hn
  rw [st_ne (Or.inl (by decide)), hy]
  exact ⟨by omega, this⟩
theorem z_set {d : Nat} {I : ax_H} {Q : Int → ax_H → Prop} {t i j v : Int} (ht : ax_R t) (hi : ax_R i) (hj : ax_R j) (hv : ax_R v)
    (h1 : ¬ plc t i j → Q (-1) I) (h2 : plc t i j → ¬ nm v → Q (-2) I) (h : plc t i j → nm v → Q (I 86 (9 * t + 3 * i + j)) (ax_st I 86 (9 * t + 3 * i + j) v)) : cI (d + 2) kX11_set [ax_r 85, ax_i t, ax_i i, ax_i j, ax_i v] I Q := by
  refine vX11_set_0 hv ?_
  refine m_isPlace ht hi hj (fun hp => n1 ?_) (fun hp => n0 (h1 hp))
  refine m_in (R8_of hv) (by decide) (by decide) (fun hn => n1 ?_) (fun hn => n0 (h2 hp (fun q => hn (by unfold nm at q; omega))))
  exact m_placeOf ⟨by omega, h hp (by unfold nm; omega)⟩
theorem c_copyS {d a0 a1 : Nat} {I : ax_H} {Q : ax_H → Prop} (h0 : isSp a0) (h1 : isSp a1) (hd : a0 ≠ a1 ∧ a0 ≠ a1 + 1 ∧ a0 + 1 ≠ a1) (hQ : ∀ I', Sf a0 I I' → I' a0 1 = I a1 1 → (∀ k, 0 ≤ k → k < 12 → I' (a0 + 1) k = I (a1 + 1) k) → Q I') : cV (d + 1) kX8_copyFrom [ax_r a0, ax_r a1] I Q := by
  refine vX8_copyFrom_0 h0 h1 ?_
  refine hQ _ ⟨fun b q1 q2 => by rw [st_cell q1, cp_cell q2], fun k hk => by rw [st_ne (Or.inr hk), cp_cell (by omega)]⟩ ?_ (fun k k0 k1 => ?_)
  · rw [st_same, cp_cell (by omega)]
  · rw [st_cell (by omega), cp_at (by omega), show (0 : Int) + (k - 0) = k by omega]
def Pf (a : Nat) (I I' : ax_H) : Prop := (∀ b, b ≠ a → b ≠ a + 1 → b ≠ a + 2 → I' b = I b) ∧ ∀ k, k ≠ 2 → I' a k = I a k
theorem c_copyP {d a0 a1 : Nat} {I : ax_H} {Q : ax_H → Prop} (h0 : isPn a0) (h1 : isPn a1) (hd : a0 + 2 < a1 ∨ a1 + 2 < a0) (hQ : ∀ I', Pf a0 I I' → I' a0 2 = I a1 2 → (∀ k, 0 ≤ k → k < 8 → I' (a0 + 1) k = I (a1 + 1) k ∧ I' (a0 + 2) k = I (a1 + 2) k) → Q I') : cV (d + 1) kX6_copyFrom [ax_r a0, ax_r a1] I Q := by
  refine vX6_copyFrom_0 h0 h1 ?_
  refine hQ _ ⟨fun b q1 q2 q3 => by rw [st_cell q1, cp_cell q3, cp_cell q2], fun k hk => by rw [st_ne (Or.inr hk), cp_cell (by omega), cp_cell (by omega)]⟩ ?_ (fun k k0 k1 => ⟨?_, ?_⟩)
  · rw [st_same, cp_cell (by omega), cp_cell (by omega)]
  · rw [st_cell (by omega), cp_cell (by omega), cp_at (by omega), show (0 : Int) + (k - 0) = k by omega]
  · rw [st_cell (by omega), cp_at (by omega), show (0 : Int) + (k - 0) = k by omega, cp_cell (by omega)]
theorem c_copyT {d a0 a1 : Nat} {I : ax_H} {Q : ax_H → Prop} (h0 : isT a0) (h1 : isT a1) (hQ : ∀ I', Mf [a0 + 1] I I' → (∀ k, 0 ≤ k → k < 18 → I' (a0 + 1) k = I (a1 + 1) k) → Q I') : cV (d + 1) kX9_copyFrom [ax_r a0, ax_r a1] I Q := by
  refine vX9_copyFrom_0 h0 h1 ?_
  refine hQ _ (fun b q => cp_cell (fun e => q (by rw [e]; exact List.mem_singleton.2 rfl))) (fun k k0 k1 => ?_)
  rw [cp_at (by omega), show (0 : Int) + (k - 0) = k by omega]
theorem isSp63 : isSp 63 := ⟨rfl, rfl⟩
theorem isSp65 : isSp 65 := ⟨rfl, rfl⟩
theorem isSp80 : isSp 80 := ⟨rfl, rfl⟩
theorem isPn67 : isPn 67 := ⟨rfl, rfl, rfl⟩
theorem isPn82 : isPn 82 := ⟨rfl, rfl, rfl⟩
theorem isT78 : isT 78 := ⟨rfl, rfl⟩
theorem a_image {d : Nat} {I : ax_H} {Q : Int → ax_H → Prop}
    (hQ : ∀ I', Mf [0, 79, 80, 81, 82, 83, 84] I I' → I' 0 13 = 1 → (∀ k, 0 ≤ k → k < 18 → I' 79 k = I 3 k) → I' 80 1 = I 63 1 → (∀ k, 0 ≤ k → k < 12 → I' 81 k = I 64 k) → I' 82 2 = I 67 2 → (∀ k, 0 ≤ k → k < 8 → I' 83 k = I 68 k ∧ I' 84 k = I 69 k) → Q (I 63 1) I') : cI (d + 2) kX10_image [ax_r 0] I Q := by
  refine vX10_image_0 ?_
  refine c_copyT (a0 := 78) (a1 := 2) isT78 isT2 (fun I1 f1 k1 => ?_)
  refine c_copyS (a0 := 80) (a1 := 63) isSp80 isSp63 (by decide) (fun I2 f2 s2 k2 => ?_)
  refine c_copyP (a0 := 82) (a1 := 67) isPn82 isPn67 (by decide) (fun I3 f3 s3 k3 => ?_)
  have e1 : ∀ b, b ≠ 79 → I1 b = I b := fun b h => f1 b (fun q => h (List.mem_singleton.1 q))
  have e63 : (ax_st I3 0 13 1) 63 1 = I 63 1 := by
    rw [st_cell (by decide), f3.1 63 (by decide) (by decide) (by decide), f2.1 63 (by decide) (by decide), e1 63 (by decide)]
  rw [e63]
  refine hQ _ (fun b hb => ?_) (st_same _ _ _ _) (fun k k0 k1' => ?_) ?_ (fun k k0 k1' => ?_) ?_ (fun k k0 k1' => ⟨?_, ?_⟩)
  · simp only [List.mem_cons, List.not_mem_nil, or_false, not_or] at hb
    rw [st_cell (by omega), f3.1 b (by omega) (by omega) (by omega), f2.1 b (by omega) (by omega), e1 b (by omega)]
  · rw [st_cell (by decide), f3.1 79 (by decide) (by decide) (by decide), f2.1 79 (by decide) (by decide), k1 k k0 k1']
  · rw [st_cell (by decide), f3.1 80 (by decide) (by decide) (by decide), s2, e1 63 (by decide)]
  · rw [st_cell (by decide), f3.1 81 (by decide) (by decide) (by decide), k2 k k0 k1', e1 64 (by decide)]
  · rw [st_cell (by decide), s3, f2.1 67 (by decide) (by decide), e1 67 (by decide)]
  · rw [st_cell (by decide), (k3 k k0 k1').1, f2.1 68 (by decide) (by decide), e1 68 (by decide)]
  · rw [st_cell (by decide), (k3 k k0 k1').2, f2.1 69 (by decide) (by decide), e1 69 (by decide)]
theorem a_undo {d : Nat} {I : ax_H} {Q : Int → ax_H → Prop} (hv1 : -2147483648 ≤ I 1 1 ∧ I 1 1 < 2147483647) (h0 : I 0 13 = 0 → Q (-3) I)
    (hQ : ∀ I', I 0 13 ≠ 0 → Mf [1, 3, 63, 64, 67, 68, 69] I I' → I' 1 1 = I 1 1 + 1 → (∀ k, k ≠ 1 → I' 1 k = I 1 k) → (∀ k, 0 ≤ k → k < 18 → I' 3 k = I 79 k) → I' 63 1 = I 80 1 → (∀ k, 0 ≤ k → k < 12 → I' 64 k = I 81 k) → I' 67 2 = I 82 2 → (∀ k, 0 ≤ k → k < 8 → I' 68 k = I 83 k ∧ I' 69 k = I 84 k) → Q (I 80 1) I') : cI (d + 3) kX10_undo [ax_r 0] I Q := by
  refine vX10_undo_0 ⟨fun c => ?_, fun c => h0 c⟩
  refine vX1_changeBack_0 isT78 ?_
  refine c_copyT (a0 := 2) (a1 := 78) isT2 isT78 (fun I1 f1 k1 => ?_)
  have e1 : ∀ b, b ≠ 3 → I1 b = I b := fun b h => f1 b (fun q => h (List.mem_singleton.1 q))
  rw [e1 1 (by decide)]
  refine ⟨by omega, ?_⟩
  refine c_copyS (a0 := 63) (a1 := 80) isSp63 isSp80 (by decide) (fun I2 f2 s2 k2 => ?_)
  refine c_copyP (a0 := 67) (a1 := 82) isPn67 isPn82 (by decide) (fun I3 f3 s3 k3 => ?_)
  have w : ∀ b, b ≠ 1 → b ≠ 3 → (ax_st I1 1 1 (I 1 1 + 1)) b = I b := fun b q1 q2 => by rw [st_cell q1, e1 b q2]
  have e63 : I3 63 1 = I 80 1 := by
    rw [f3.1 63 (by decide) (by decide) (by decide), s2, w 80 (by decide) (by decide)]
  rw [e63]
  refine hQ _ c (fun b hb => ?_) ?_ (fun k hk => ?_) (fun k k0 k1' => ?_) e63 (fun k k0 k1' => ?_) ?_ (fun k k0 k1' => ⟨?_, ?_⟩)
  · simp only [List.mem_cons, List.not_mem_nil, or_false, not_or] at hb
    rw [f3.1 b (by omega) (by omega) (by omega), f2.1 b (by omega) (by omega), w b (by omega) (by omega)]
  · rw [f3.1 1 (by decide) (by decide) (by decide), f2.1 1 (by decide) (by decide), st_same]
  · rw [f3.1 1 (by decide) (by decide) (by decide), f2.1 1 (by decide) (by decide), st_ne (Or.inr hk), e1 1 (by decide)]
  · rw [f3.1 3 (by decide) (by decide) (by decide), f2.1 3 (by decide) (by decide), st_cell (by decide), k1 k k0 k1']
  · rw [f3.1 64 (by decide) (by decide) (by decide), k2 k k0 k1', w 81 (by decide) (by decide)]
  · rw [s3, f2.1 82 (by decide) (by decide), w 82 (by decide) (by decide)]
  · rw [(k3 k k0 k1').1, f2.1 83 (by decide) (by decide), w 83 (by decide) (by decide)]
  · rw [(k3 k k0 k1').2, f2.1 84 (by decide) (by decide), w 84 (by decide) (by decide)]
theorem z_image_loop {d : Nat} {I0 : ax_H} {Q : Int → ax_H → Prop} (hQ : ∀ I', Mf [85, 87] I0 I' → I' 85 2 = 1 → (∀ k, k ≠ 2 → I' 85 k = I0 85 k) → (∀ k, 0 ≤ k → k < 48 → I' 87 k = I0 86 k) → Q (I0 86 18) I') : ∀ (n : Nat) (k : Int) (I : ax_H), k = 48 - n → n ≤ 48 → Mf [87] I0 I → (∀ j, 0 ≤ j → j < k → I 87 j = I0 86 j) →
    RI d kX11_image 2 [some (ax_r 85), some (ax_i k)] I Q := by
  intro n
  induction n with
  | zero =>
    intro k I hk _ hf hA
    have w : ∀ b, b ≠ 87 → I b = I0 b := fun b h => hf b (fun q => h (List.mem_singleton.1 q))
    refine vX11_image_2 ⟨by omega, by omega⟩ ⟨fun _ => ?_, fun c => absurd (by omega) c⟩
    have e : (ax_st I 85 2 1) 86 18 = I0 86 18 := by rw [st_cell (by decide), w 86 (by decide)]
    rw [e]
    refine hQ _ (fun b hb => ?_) (st_same _ _ _ _) (fun k hk => by rw [st_ne (Or.inr hk), w 85 (by decide)]) (fun j j0 j1 => by rw [st_cell (by decide), hA j j0 (by omega)])
    simp only [List.mem_cons, List.not_mem_nil, or_false, not_or] at hb
    rw [st_cell hb.1, w b hb.2]
  | succ n ih =>
    intro k I hk hn hf hA
    have w : ∀ b, b ≠ 87 → I b = I0 b := fun b h => hf b (fun q => h (List.mem_singleton.1 q))
    refine vX11_image_2 ⟨by omega, by omega⟩ ⟨fun c => absurd c (by omega), fun _ => ⟨by omega, ?_⟩⟩
    refine ih (k + 1) _ (by omega) (by omega) (hf.trans (Mf.st (by decide))) (fun j j0 j1 => ?_)
    rw [st_at, w 86 (by decide)]
    split
    · rename_i e; rw [e]
    · exact hA j j0 (by omega)
theorem z_image {d : Nat} {I : ax_H} {Q : Int → ax_H → Prop} (hQ : ∀ I', Mf [85, 87] I I' → I' 85 2 = 1 → (∀ k, k ≠ 2 → I' 85 k = I 85 k) → (∀ k, 0 ≤ k → k < 48 → I' 87 k = I 86 k) → Q (I 86 18) I') : cI d kX11_image [ax_r 85] I Q :=
  vX11_image_0 (z_image_loop hQ 48 0 I (by omega) (by omega) (Mf.rf _ _) (fun j j0 j1 => absurd j1 (by omega)))
theorem z_undo_loop {d : Nat} {I0 : ax_H} {Q : Int → ax_H → Prop} (hQ : ∀ I', Mf [86] I0 I' → (∀ k, 0 ≤ k → k < 48 → I' 86 k = I0 87 k) → Q (I0 87 18) I') : ∀ (n : Nat) (k : Int) (I : ax_H), k = 48 - n → n ≤ 48 → Mf [86] I0 I → (∀ j, 0 ≤ j → j < k → I 86 j = I0 87 j) →
    RI d kX11_undo 12 [some (ax_r 85), some (ax_i k)] I Q := by
  intro n
  induction n with
  | zero =>
    intro k I hk _ hf hA
    refine vX11_undo_12 ⟨by omega, by omega⟩ ⟨fun _ => ?_, fun c => absurd (by omega) c⟩
    rw [hA 18 (by omega) (by omega)]
    exact hQ _ hf (fun j j0 j1 => hA j j0 (by omega))
  | succ n ih =>
    intro k I hk hn hf hA
    have w : ∀ b, b ≠ 86 → I b = I0 b := fun b h => hf b (fun q => h (List.mem_singleton.1 q))
    refine vX11_undo_12 ⟨by omega, by omega⟩ ⟨fun c => absurd c (by omega), fun _ => ⟨by omega, ?_⟩⟩
    refine ih (k + 1) _ (by omega) (by omega) (hf.trans (Mf.st (by decide))) (fun j j0 j1 => ?_)
    rw [st_at, w 87 (by decide)]
    split
    · rename_i e; rw [e]
    · exact hA j j0 (by omega)
theorem z_undo {d : Nat} {I : ax_H} {Q : Int → ax_H → Prop} (h0 : I 85 2 = 0 → Q (-3) I) (hQ : ∀ I', I 85 2 ≠ 0 → Mf [86] I I' → (∀ k, 0 ≤ k → k < 48 → I' 86 k = I 87 k) → Q (I 87 18) I') : cI d kX11_undo [ax_r 85] I Q :=
  vX11_undo_0 ⟨fun c => z_undo_loop (fun I' => hQ I' c) 48 0 I (by omega) (by omega) (Mf.rf _ _) (fun j j0 j1 => absurd j1 (by omega)), h0⟩
theorem a_move {d : Nat} {g : Int → Int} {I : ax_H} {Q : Int → ax_H → Prop} (hR : RInv g I) (hok : okS (I 64) (I 63 1))
    (hQ : ∀ I', Mf [1, 4, 7, 63, 64, 65, 66] I I' → (∀ k, k ≠ 2 → I' 1 k = I 1 k) → RInv g I' → okS (I' 64) (I' 63 1) → (∀ t, mem (I' 64) (I' 63 1) t ↔ mvd g (I 64) (I 63 1) t) → Q (I' 63 1) I') : cI (d + 5) kX10_move [ax_r 0] I Q := by
  refine vX10_move_0 ?_
  refine c_becomeSteps (a0 := 65) (a1 := 63) isSp65 isSp63 (by decide) hR hok (fun I1 f r o m => ?_)
  refine c_copyS (a0 := 63) (a1 := 65) isSp63 isSp65 (by decide) (fun I2 f2 s2 k2 => ?_)
  have ek : ∀ k, 0 ≤ k → k < I1 65 1 → I2 64 k = I1 66 k := fun k k0 k1 => k2 k k0 (by have := o.1; omega)
  refine hQ I2 (fun b hb => ?_) (fun k hk => ?_) (r.of (f2.1 1 (by decide) (by decide)) (f2.1 3 (by decide) (by decide)) (f2.1 4 (by decide) (by decide)) (f2.1 7 (by decide) (by decide))) ?_ (fun t => ?_)
  · simp only [List.mem_cons, List.not_mem_nil, or_false, not_or] at hb
    rw [f2.1 b (by omega) (by omega), f.1 b (by omega) (by omega) (by omega) (by omega) (by omega)]
  · rw [f2.1 1 (by decide) (by decide), f.2.1 k hk]
  · rw [s2]
    refine ⟨o.1, fun i j i0 i1 i2 => ?_, fun k k0 k1 => ?_⟩
    · rw [ek i i0 (by omega), ek j (by omega) i2]; exact o.2.1 i j i0 i1 i2
    · rw [ek k k0 k1]; exact o.2.2 k k0 k1
  · rw [s2, mem_congr ek]; exact m t
/-- the reference's move: the flags become the ordered set -/
theorem okS_push {p q : Int → Int} {n s : Int} (h : okS p n) (hn : n < 12) (hs : spt s) (hlo : ∀ k, 0 ≤ k → k < n → p k < s) (hq : ∀ k, 0 ≤ k → k < n → q k = p k) (hqn : q n = s) : okS q (n + 1) ∧ ∀ x, mem q (n + 1) x ↔ mem p n x ∨ x = s := by
  have b := h.1
  refine okS_ins h hn hs (c := n) (by omega) hlo (fun k k0 k1 => absurd k1 (by omega)) (fun k k0 k1 => ?_)
  unfold insAt
  rcases Int.lt_or_le k n with q1 | q1
  · rw [if_pos q1]; exact hq k k0 q1
  · rw [if_neg (by omega), if_pos (by omega), show k = n by omega]; exact hqn
