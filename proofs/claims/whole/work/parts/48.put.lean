theorem a_put {d : Nat} {I : ax_H} {Q : Int → ax_H → Prop} {k i v : Int} (hz : szs I 75) (hk : ax_R k) (hi : ax_R i) (hv : ax_R v) (h1 : plcL I 75 k i → Q 1 (ax_st I 76 (k * 12 + i) v)) (h2 : ¬ (0 ≤ k ∧ k < 4) → Q (-1) I) (h3 : 0 ≤ k ∧ k < 4 → I 75 k < 0 → Q (-11) I) (h4 : 0 ≤ k ∧ k < 4 → 0 ≤ I 75 k → ¬ plcL I 75 k i → Q (-13) I) : cI (d + 4) kX10_put [ax_r 0, ax_i k, ax_i i, ax_i v] I Q := by
  refine vX10_put_0 ?_
  refine c_isList hk (fun q => n1 ?_) (fun q => n0 (h2 q))
  refine c_sizeOf hk ?_
  rw [if_pos q]
  have := hz k q.1 q.2
  refine ⟨⟨by omega, by omega⟩, fun r => ?_, fun r => h3 q (by omega)⟩
  exact c_hasPlace hz hk hi (fun p => n1 (c_changeL hz hk hi hv p (h1 p))) (fun p => n0 (h4 q r p))
theorem m_isList {d : Nat} {I : ax_H} {Q : Int → ax_H → Prop} {k : Int} (hk : ax_R k) (h1 : 0 ≤ k ∧ k < 4 → Q 1 I) (h0 : ¬ (0 ≤ k ∧ k < 4) → Q 0 I) : cI (d + 1) kX11_isList [ax_i k] I Q := by
  refine vX11_isList_0 hk ?_
  exact m_in (R8_of hk) (by decide) (by decide) (fun h => ⟨by decide, h1 (by omega)⟩) (fun h => ⟨by decide, h0 (by omega)⟩)
theorem z_get {d : Nat} {I : ax_H} {Q : Int → ax_H → Prop} {k i : Int} (hz : szs I 116) (hk : ax_R k) (hi : ax_R i) (h1 : plcL I 116 k i → Q (I (118 + k.toNat) i) I) (h0 : ¬ plcL I 116 k i → Q (-9223372036854775808) I) : cJ (d + 2) kX11_get [ax_r 85, ax_i k, ax_i i] I Q := by
  refine vX11_get_0 hi ?_
  refine m_isList hk (fun q => b1 ⟨by omega, ?_⟩) (fun q => b0 (h0 (fun p => q p.1)))
  have := hz k q.1 q.2
  refine ⟨⟨by omega, by omega⟩, ?_⟩
  refine m_in (R8_of hi) (by decide) (R8_of ⟨by omega, by omega⟩) (fun p => b1 ?_) (fun p => b0 (h0 (fun r => p ⟨by omega, by omega⟩)))
  intro b hb _
  subst hb
  exact ⟨by omega, h1 ⟨q, by omega, by omega⟩⟩
theorem z_put {d : Nat} {I : ax_H} {Q : Int → ax_H → Prop} {k i v : Int} (hz : szs I 116) (hk : ax_R k) (hi : ax_R i) (hv : ax_R v) (h1 : plcL I 116 k i → Q 1 (ax_st I (118 + k.toNat) i v)) (h2 : ¬ (0 ≤ k ∧ k < 4) → Q (-1) I) (h3 : 0 ≤ k ∧ k < 4 → I 116 k < 0 → Q (-11) I) (h4 : 0 ≤ k ∧ k < 4 → 0 ≤ I 116 k → ¬ plcL I 116 k i → Q (-13) I) : cI (d + 2) kX11_put [ax_r 85, ax_i k, ax_i i, ax_i v] I Q := by
  refine vX11_put_0 hi hv ?_
  refine m_isList hk (fun q => n1 ⟨by omega, ?_⟩) (fun q => n0 (h2 q))
  have := hz k q.1 q.2
  refine ⟨fun r => ⟨⟨by omega, by omega⟩, ?_⟩, fun r => h3 q (by omega)⟩
  refine m_in (R8_of hi) (by decide) (R8_of ⟨by omega, by omega⟩) (fun p => n1 ?_) (fun p => n0 (h4 q r (fun t => p ⟨by omega, by omega⟩)))
  intro b hb _
  subst hb
  exact ⟨by omega, h1 ⟨q, by omega, by omega⟩⟩
