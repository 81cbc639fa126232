/-! put, get -/
def szs (I : ax_H) (a : Nat) : Prop := ∀ k, 0 ≤ k → k < 4 → -1 ≤ I a k ∧ I a k ≤ 12
theorem c_isList {d : Nat} {I : ax_H} {Q : Int → ax_H → Prop} {k : Int} (hk : ax_R k) (h1 : 0 ≤ k ∧ k < 4 → Q 1 I) (h0 : ¬ (0 ≤ k ∧ k < 4) → Q 0 I) : cI d kX4_isList [ax_r 74, ax_i k] I Q :=
  vX4_isList_0 hk ⟨fun c => h0 (by omega), fun c => ⟨fun c2 => h0 (by omega), fun c2 => ⟨fun c3 => h0 (by omega), fun _ => h1 (by omega)⟩⟩⟩
theorem c_sizeOf {d : Nat} {I : ax_H} {Q : Int → ax_H → Prop} {k : Int} (hk : ax_R k) (h : Q (if 0 ≤ k ∧ k < 4 then I 75 k else -1) I) : cI (d + 1) kX4_sizeOf [ax_r 74, ax_i k] I Q := by
  refine vX4_sizeOf_0 ?_
  refine c_isList hk (fun q => b1 ⟨by omega, ?_⟩) (fun q => b0 ?_)
  · rw [if_pos q] at h; exact h
  · rw [if_neg q] at h; exact h
abbrev plcL (I : ax_H) (a : Nat) (k i : Int) : Prop := (0 ≤ k ∧ k < 4) ∧ 0 ≤ i ∧ i < I a k
theorem c_hasPlace {d : Nat} {I : ax_H} {Q : Int → ax_H → Prop} {k i : Int} (hz : szs I 75) (hk : ax_R k) (hi : ax_R i) (h1 : plcL I 75 k i → Q 1 I) (h0 : ¬ plcL I 75 k i → Q 0 I) : cI (d + 2) kX4_hasPlace [ax_r 74, ax_i k, ax_i i] I Q := by
  refine vX4_hasPlace_0 hi ⟨fun c => h0 (by omega), fun c => ⟨fun c2 => h0 (fun q => ?_), fun c2 => ?_⟩⟩
  · have := hz k q.1.1 q.1.2; omega
  · refine c_sizeOf hk ?_
    by_cases q : 0 ≤ k ∧ k < 4
    · have := hz k q.1 q.2
      rw [if_pos q]
      exact ⟨⟨by omega, by omega⟩, fun r => h0 (by omega), fun r => h1 (by omega)⟩
    · rw [if_neg q]
      exact ⟨by decide, fun r => h0 (by omega), fun r => absurd r (by omega)⟩
theorem c_numberAt' {d : Nat} {I : ax_H} {Q : Int → ax_H → Prop} {k i : Int} (hz : szs I 75) (hk : ax_R k) (hi : ax_R i) (hp : plcL I 75 k i) (h : Q (I 76 (k * 12 + i)) I) : cI (d + 3) kX4_numberAt [ax_r 74, ax_i k, ax_i i] I Q := by
  refine vX4_numberAt_0 ?_
  have := hz k hp.1.1 hp.1.2
  exact c_hasPlace hz hk hi (fun _ => b1 ⟨by omega, h⟩) (fun q => absurd hp q)
theorem c_changeL {d : Nat} {I : ax_H} {Q : ax_H → Prop} {k i v : Int} (hz : szs I 75) (hk : ax_R k) (hi : ax_R i) (hv : ax_R v) (hp : plcL I 75 k i) (h : Q (ax_st I 76 (k * 12 + i) v)) : cV (d + 3) kX4_change [ax_r 74, ax_i k, ax_i i, ax_i v] I Q := by
  refine vX4_change_0 hv ?_
  have := hz k hp.1.1 hp.1.2
  exact c_hasPlace hz hk hi (fun _ => b1 ⟨by omega, h⟩) (fun q => absurd hp q)
theorem a_get {d : Nat} {I : ax_H} {Q : Int → ax_H → Prop} {k i : Int} (hz : szs I 75) (hk : ax_R k) (hi : ax_R i) (h1 : plcL I 75 k i → ax_R (I 76 (k * 12 + i)) ∧ Q (I 76 (k * 12 + i)) I) (h0 : ¬ plcL I 75 k i → Q (-9223372036854775808) I) : cJ (d + 4) kX10_get [ax_r 0, ax_i k, ax_i i] I Q := by
  refine vX10_get_0 ?_
  exact c_hasPlace hz hk hi (fun q => b1 (c_numberAt' hz hk hi q (h1 q))) (fun q => b0 (h0 q))
