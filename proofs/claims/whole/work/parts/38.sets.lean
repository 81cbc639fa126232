/-! sets of spots, in ascending order -/
def srt (p : Int → Int) (n : Int) : Prop := ∀ i j, 0 ≤ i → i < j → j < n → p i < p j
def mem (p : Int → Int) (n s : Int) : Prop := ∃ k, 0 ≤ k ∧ k < n ∧ p k = s
theorem set_eq {p q : Int → Int} {n m : Int} (hp : srt p n) (hq : srt q m) (h : ∀ s, mem p n s ↔ mem q m s) : ∀ (c : Nat), (c : Int) < n → (c : Int) < m → p c = q c := by
  intro c
  induction c using Nat.strongRecOn with
  | ind c ih =>
    intro hn hm
    obtain ⟨j, j0, j1, j2⟩ := (h (p c)).1 ⟨c, by omega, hn, rfl⟩
    obtain ⟨i, i0, i1, i2⟩ := (h (q c)).2 ⟨c, by omega, hm, rfl⟩
    have hj : (c : Int) ≤ j := by
      rcases Int.lt_or_le j c with hlt | hle
      · have e := ih j.toNat (by omega) (by omega) (by omega)
        rw [show ((j.toNat : Nat) : Int) = j by omega] at e
        have := hp j c j0 hlt hn
        omega
      · exact hle
    have hi : (c : Int) ≤ i := by
      rcases Int.lt_or_le i c with hlt | hle
      · have e := ih i.toNat (by omega) (by omega) (by omega)
        rw [show ((i.toNat : Nat) : Int) = i by omega] at e
        have := hq i c i0 hlt hm
        omega
      · exact hle
    have a : q c ≤ q j := by
      rcases Int.lt_or_le (c : Int) j with hlt | hle
      · have := hq c j (by omega) hlt j1; omega
      · obtain rfl : j = c := by omega
        omega
    have b : p c ≤ p i := by
      rcases Int.lt_or_le (c : Int) i with hlt | hle
      · have := hp c i (by omega) hlt i1; omega
      · obtain rfl : i = c := by omega
        omega
    omega
theorem set_le {p q : Int → Int} {n m : Int} (hm0 : 0 ≤ m) (hp : srt p n) (hq : srt q m) (h : ∀ s, mem p n s ↔ mem q m s) : n ≤ m := by
  rcases Int.lt_or_le m n with hlt | hle
  · obtain ⟨j, j0, j1, j2⟩ := (h (p m)).1 ⟨m, hm0, hlt, rfl⟩
    have e := set_eq hp hq h j.toNat (by omega) (by omega)
    rw [show ((j.toNat : Nat) : Int) = j by omega] at e
    have := hp j m j0 j1 hlt
    omega
  · exact hle
theorem set_uniq {p q : Int → Int} {n m : Int} (hn0 : 0 ≤ n) (hm0 : 0 ≤ m) (hp : srt p n) (hq : srt q m) (h : ∀ s, mem p n s ↔ mem q m s) : n = m ∧ ∀ k, 0 ≤ k → k < n → p k = q k := by
  have a := set_le hm0 hp hq h
  have b := set_le hn0 hq hp (fun s => (h s).symm)
  refine ⟨by omega, fun k k0 k1 => ?_⟩
  have e := set_eq hp hq h k.toNat (by omega) (by omega)
  rwa [show ((k.toNat : Nat) : Int) = k by omega] at e
theorem mem_congr {p q : Int → Int} {n s : Int} (h : ∀ k, 0 ≤ k → k < n → p k = q k) : mem p n s ↔ mem q n s :=
  ⟨fun ⟨k, a, b, c⟩ => ⟨k, a, b, (h k a b) ▸ c⟩, fun ⟨k, a, b, c⟩ => ⟨k, a, b, (h k a b).trans c⟩⟩
theorem c_isFull {d a : Nat} {I : ax_H} {Q : Int → ax_H → Prop} (ha : isSp a) (hn : 0 ≤ I a 1 ∧ I a 1 ≤ 12) (h1 : I a 1 = 12 → Q 1 I) (h0 : I a 1 < 12 → Q 0 I) : cI d kX8_isFull [ax_r a] I Q :=
  vX8_isFull_0 ha ⟨fun c => h0 c, fun c => h1 (by omega)⟩
theorem c_holds_loop {d a : Nat} {I : ax_H} {Q : Int → ax_H → Prop} {s : Int} (ha : isSp a) (hs : ax_R s) (hn : 0 ≤ I a 1 ∧ I a 1 ≤ 12) (h1 : mem (I (a + 1)) (I a 1) s → Q 1 I) (h0 : ¬ mem (I (a + 1)) (I a 1) s → Q 0 I) : ∀ (n : Nat) (k : Int), k = I a 1 - n → n ≤ I a 1 → (∀ i, 0 ≤ i → i < k → I (a + 1) i ≠ s) →
    RI d kX8_holds 2 [some (ax_r a), some (ax_i s), some (ax_i k)] I Q := by
  intro n
  induction n with
  | zero =>
    intro k hk _ hA
    exact vX8_holds_2 ha hs ⟨by omega, by omega⟩ ⟨fun _ => h0 (fun ⟨i, a, b, c⟩ => hA i a (by omega) c), fun c => absurd (by omega) c⟩
  | succ n ih =>
    intro k hk hn2 hA
    refine vX8_holds_2 ha hs ⟨by omega, by omega⟩ ⟨fun c => absurd c (by omega), fun _ => ⟨fun c => absurd c (by omega), fun _ => ⟨by omega, fun c => ?_, fun c => h1 ⟨k, by omega, by omega, c⟩⟩⟩⟩
    refine ih (k + 1) (by omega) (by omega) (fun i i0 i1 => ?_)
    rcases Int.lt_or_le i k with hlt | hle
    · exact hA i i0 hlt
    · rw [show i = k by omega]; exact c
theorem c_holds {d a : Nat} {I : ax_H} {Q : Int → ax_H → Prop} {s : Int} (ha : isSp a) (hs : ax_R s) (hn : 0 ≤ I a 1 ∧ I a 1 ≤ 12) (h1 : mem (I (a + 1)) (I a 1) s → Q 1 I) (h0 : ¬ mem (I (a + 1)) (I a 1) s → Q 0 I) : cI d kX8_holds [ax_r a, ax_i s] I Q :=
  vX8_holds_0 ha (c_holds_loop ha hs hn h1 h0 (I a 1).toNat 0 (by omega) (by omega) (fun i i0 i1 => absurd i1 (by omega)))
theorem c_spotAt {d a : Nat} {I : ax_H} {Q : Int → ax_H → Prop} {i : Int} (ha : isSp a) (hi : ax_R i) (hn : 0 ≤ I a 1 ∧ I a 1 ≤ 12) (h : Q (if 0 ≤ i ∧ i < I a 1 then I (a + 1) i else -5) I) : cI d kX8_spotAt [ax_r a, ax_i i] I Q := by
  refine vX8_spotAt_0 ha hi ⟨fun c => ?_, fun c => ⟨fun c2 => ?_, fun c2 => ⟨fun c3 => ?_, fun c3 => ⟨by omega, ?_⟩⟩⟩⟩
  · rw [if_neg (by omega)] at h; exact h
  · rw [if_neg (by omega)] at h; exact h
  · rw [if_neg (by omega)] at h; exact h
  · rw [if_pos (by omega)] at h; exact h
/-- the row p with s put in at place c -/
def insAt (p : Int → Int) (c s k : Int) : Int := if k < c then p k else if k = c then s else p (k - 1)
theorem ins_srt {p : Int → Int} {n c s : Int} (hp : srt p n) (hc : 0 ≤ c ∧ c ≤ n) (hlo : ∀ k, 0 ≤ k → k < c → p k < s) (hhi : ∀ k, c ≤ k → k < n → s < p k) : srt (insAt p c s) (n + 1) := by
  intro i j h0 h1 h2
  unfold insAt
  have a1 := hp i j h0 h1
  have a2 := hp i (j - 1) h0
  have a3 := hp (i - 1) (j - 1)
  have b1 := hlo i h0
  have b2 := hhi (j - 1)
  by_cases e1 : i < c <;> by_cases e2 : j < c <;> by_cases e3 : i = c <;> by_cases e4 : j = c <;> simp only [e1, e2, e3, e4, if_true, if_false] <;> first | omega | (exact a1 (by omega)) | (exact b1 e1) | (exact a3 (by omega) (by omega) (by omega)) | skip
  all_goals first | omega | (exact hhi _ (by omega) (by omega)) | (rcases Int.lt_or_le i (j - 1) with q | q <;> first | exact a2 q (by omega) | omega) | skip
theorem ins_mem {p : Int → Int} {n c s x : Int} (hc : 0 ≤ c ∧ c ≤ n) : mem (insAt p c s) (n + 1) x ↔ mem p n x ∨ x = s := by
  constructor
  · rintro ⟨k, k0, k1, k2⟩
    unfold insAt at k2
    split at k2
    · exact Or.inl ⟨k, k0, by omega, k2⟩
    · split at k2
      · exact Or.inr k2.symm
      · exact Or.inl ⟨k - 1, by omega, by omega, k2⟩
  · rintro (⟨k, k0, k1, k2⟩ | e)
    · rcases Int.lt_or_le k c with q | q
      · exact ⟨k, k0, by omega, by unfold insAt; rw [if_pos q]; exact k2⟩
      · refine ⟨k + 1, by omega, by omega, ?_⟩
        unfold insAt
        rw [if_neg (by omega), if_neg (by omega), show k + 1 - 1 = k by omega]
        exact k2
    · refine ⟨c, hc.1, by omega, ?_⟩
      unfold insAt
      rw [if_neg (by omega), if_pos rfl, e]
