/-! the tape, and what it tells -/
def byt (p : Int → Int) (n i : Int) : Int := if 0 ≤ i ∧ i < n then p i else 0
def okT (p : Int → Int) (n : Int) : Prop := (0 ≤ n ∧ n ≤ 60) ∧ ∀ k, 0 ≤ k → k < n → 1 ≤ p k ∧ p k ≤ 127
theorem byt_bd {p : Int → Int} {n : Int} (h : okT p n) (i : Int) : (0 ≤ byt p n i ∧ byt p n i ≤ 127) ∧ (byt p n i ≠ 0 → 0 ≤ i ∧ i < n) := by
  unfold byt
  split
  · rename_i c; have := h.2 i c.1 c.2; exact ⟨by omega, fun _ => c⟩
  · exact ⟨by omega, fun q => absurd rfl q⟩
theorem isBy70 : isBy 70 := ⟨rfl, rfl⟩
theorem isBy72 : isBy 72 := ⟨rfl, rfl⟩
theorem c_byteAt {d a : Nat} {I : ax_H} {Q : Int → ax_H → Prop} {i : Int} (ha : isBy a) (hi : ax_R i) (hn : 0 ≤ I a 1 ∧ I a 1 ≤ 60) (h : Q (byt (I (a + 1)) (I a 1) i) I) : cI d kX0_byteAt [ax_r a, ax_i i] I Q := by
  unfold byt at h
  refine vX0_byteAt_0 ha hi ⟨fun c => ?_, fun c => ⟨fun c2 => ?_, fun c2 => ⟨fun c3 => ?_, fun c3 => ⟨by omega, ?_⟩⟩⟩⟩
  · rw [if_neg (by omega)] at h; exact h
  · rw [if_neg (by omega)] at h; exact h
  · rw [if_neg (by omega)] at h; exact h
  · rw [if_pos (by omega)] at h; exact h
theorem c_append {d a : Nat} {I : ax_H} {Q : ax_H → Prop} {s : Int} (ha : isBy a) (hs : ax_R s) (hn : 0 ≤ I a 1 ∧ I a 1 < 60) (h : Q (ax_st (ax_st I (a + 1) (I a 1) s) a 1 (I a 1 + 1))) : cV d kX0_append [ax_r a, ax_i s] I Q := by
  have e : (ax_st I (a + 1) (I a 1) s) a 1 = I a 1 := by rw [st_cell (by omega)]
  refine vX0_append_0 ha hs ⟨fun c => absurd c (by omega), fun _ => ⟨fun c => absurd c (by omega), fun _ => ⟨by omega, ?_⟩⟩⟩
  rw [e]
  exact ⟨⟨by omega, by omega⟩, h⟩
theorem a_feed {d : Nat} {I : ax_H} {Q : Int → ax_H → Prop} {x : Int} (hx : ax_R x) (hn : 0 ≤ I 70 1 ∧ I 70 1 ≤ 60) (h1 : ¬ (1 ≤ x ∧ x ≤ 127) → Q (-2) I) (h2 : 1 ≤ x ∧ x ≤ 127 → I 70 1 = 60 → Q (-4) I) (h3 : 1 ≤ x ∧ x ≤ 127 → I 70 1 < 60 → Q (I 70 1 + 1) (ax_st (ax_st I 71 (I 70 1) x) 70 1 (I 70 1 + 1))) : cI (d + 1) kX10_feed [ax_r 0, ax_i x] I Q := by
  refine vX10_feed_0 hx ⟨fun c => h1 (by omega), fun c => ⟨fun c2 => ⟨fun c3 => ?_, fun c3 => h2 (by omega) (by omega)⟩, fun c2 => h1 (by omega)⟩⟩
  refine c_append (a := 70) isBy70 hx ⟨hn.1, c3⟩ ?_
  rw [st_same]
  exact h3 (by omega) c3
theorem z_feed {d : Nat} {I : ax_H} {Q : Int → ax_H → Prop} {x : Int} (hx : ax_R x) (hn : 0 ≤ I 85 23 ∧ I 85 23 ≤ 60) (h1 : ¬ (1 ≤ x ∧ x ≤ 127) → Q (-2) I) (h2 : 1 ≤ x ∧ x ≤ 127 → I 85 23 = 60 → Q (-4) I) (h3 : 1 ≤ x ∧ x ≤ 127 → I 85 23 < 60 → Q (I 85 23 + 1) (ax_st (ax_st I 113 (I 85 23) x) 85 23 (I 85 23 + 1))) : cI (d + 1) kX11_feed [ax_r 85, ax_i x] I Q := by
  refine vX11_feed_0 hx ?_
  have e : (ax_st I 113 (I 85 23) x) 85 23 = I 85 23 := by rw [st_cell (by decide)]
  refine m_in (R8_of hx) (by decide) (by decide) (fun c => n1 ⟨fun c2 => ?_, fun c2 => h2 c c2⟩) (fun c => n0 (h1 c))
  rw [e, st_same]
  exact ⟨by omega, ⟨by omega, by omega⟩, h3 c (by omega)⟩
def alk (bt : Int → Int) (pl s : Int) : Int := if bt pl = s then (if bt (pl + 1) = s then 2 else 1) else 0
theorem alk_bd (bt : Int → Int) (pl s : Int) : 0 ≤ alk bt pl s ∧ alk bt pl s ≤ 2 := by
  unfold alk; split
  · split <;> omega
  · omega
theorem c_alike {d : Nat} {I : ax_H} {Q : Int → ax_H → Prop} {pl s : Int} (hs : ax_R s) (hp : 0 ≤ pl ∧ pl ≤ 1000) (hok : okT (I 71) (I 70 1)) (h : Q (alk (byt (I 71) (I 70 1)) pl s) I) : cI (d + 1) kX0_alikeFrom [ax_r 70, ax_i pl, ax_i s] I Q := by
  unfold alk at h
  have bR : ∀ i, ax_R (byt (I 71) (I 70 1) i) := fun i => ⟨by have := (byt_bd hok i).1; omega, by have := (byt_bd hok i).1; omega⟩
  refine vX0_alikeFrom_0 isBy70 hs ?_
  refine c_byteAt (a := 70) isBy70 ⟨by omega, by omega⟩ hok.1 ⟨bR pl, fun c => ?_, fun c => ?_⟩
  · change byt (I 71) (I 70 1) pl = s at c
    rw [if_pos c] at h
    refine c_byteAt (a := 70) isBy70 ⟨by omega, by omega⟩ hok.1 ⟨bR (pl + 1), fun c2 => ?_, fun c2 => ?_⟩
    · change byt (I 71) (I 70 1) (pl + 1) ≠ s at c2
      rw [if_neg c2] at h; exact h
    · change byt (I 71) (I 70 1) (pl + 1) = s at c2
      rw [if_pos c2] at h; exact h
  · change ¬ byt (I 71) (I 70 1) pl = s at c
    rw [if_neg c] at h; exact h
/-- what follows behind a term's number -/
def ptt (bt : Int → Int) (n : Int) (K : Int → (Int → Int) → Int × (Int → Int)) (tm : Int) (S : Int → Int) (pl num : Int) : Int × (Int → Int) :=
  let i := alk bt pl 120
  let j := alk bt (pl + i) 121
  let p2 := pl + i + j
  let S2 := upg S (3 * i + j) ((S (3 * i + j) + num) % 31)
  if n ≤ p2 then (tm, S2) else if bt p2 = 43 then K (p2 + 1) S2 else (-100 - p2, S2)
def pt (bt : Int → Int) (n : Int) : Nat → Int → Int → (Int → Int) → Int × (Int → Int)
  | 0, pl, _, S => (-100 - pl, S)
  | f + 1, pl, tm, S =>
    if ¬ (1 ≤ bt pl - 48 ∧ bt pl - 48 ≤ 9) then (-100 - pl, S)
    else if 0 ≤ bt (pl + 1) - 48 ∧ bt (pl + 1) - 48 ≤ 9 then
      (if 30 < 10 * (bt pl - 48) + (bt (pl + 1) - 48) then (-100 - (pl + 1), S)
      else ptt bt n (fun p S2 => pt bt n f p (tm + 1) S2) tm S (pl + 1 + 1) (10 * (bt pl - 48) + (bt (pl + 1) - 48)))
    else ptt bt n (fun p S2 => pt bt n f p (tm + 1) S2) tm S (pl + 1) (bt pl - 48)
theorem ptt_nm {bt : Int → Int} {n : Int} {K : Int → (Int → Int) → Int × (Int → Int)} {tm : Int} {S : Int → Int} {pl num : Int} (hS : ∀ k, nm (S k)) (hK : ∀ p S, (∀ k, nm (S k)) → ∀ k, nm ((K p S).2 k)) : ∀ k, nm ((ptt bt n K tm S pl num).2 k) := by
  have h2 : ∀ k, nm (upg S (3 * alk bt pl 120 + alk bt (pl + alk bt pl 120) 121) ((S (3 * alk bt pl 120 + alk bt (pl + alk bt pl 120) 121) + num) % 31) k) := by
    intro k
    unfold upg
    split
    · exact nm_mod _
    · exact hS k
  unfold ptt
  dsimp only
  split
  · exact h2
  · split
    · exact hK _ _ h2
    · exact h2
theorem pt_nm {bt : Int → Int} {n : Int} : ∀ (f : Nat) (pl tm : Int) (S : Int → Int), (∀ k, nm (S k)) → ∀ k, nm ((pt bt n f pl tm S).2 k)
  | 0, _, _, _, h => h
  | f + 1, pl, tm, S, h => by
    unfold pt
    split
    · exact h
    · split
      · split
        · exact h
        · exact ptt_nm h (fun p S2 h2 => pt_nm f p (tm + 1) S2 h2)
      · exact ptt_nm h (fun p S2 h2 => pt_nm f p (tm + 1) S2 h2)
theorem c_addTo {d : Nat} {I : ax_H} {Q : ax_H → Prop} {k v : Int} (hk : 0 ≤ k ∧ k < 9) (hv : ax_R (I 77 k + v)) (h : Q (ax_st I 77 k ((I 77 k + v) % 31))) : cV (d + 2) kX0_addTo [ax_r 77, ax_i k, ax_i v] I Q := by
  refine vX0_addTo_0 ⟨by omega, by omega⟩ ⟨fun c => absurd c (by omega), fun _ => ⟨fun c => absurd c (by omega), fun _ => ⟨hk, ?_⟩⟩⟩
  exact c_modulo hv ⟨ax_mod31 _, h⟩
theorem c_rt_tail {d : Nat} {I : ax_H} {Q : Int → ax_H → Prop} {x3 pl num i j p2 : Int} (hpl : 0 ≤ pl ∧ pl ≤ 100) (hnum : 0 ≤ num ∧ num ≤ 99) (hok : okT (I 71) (I 70 1)) (hS : ∀ k, 0 ≤ k → k < 9 → nm (I 77 k)) (hi : i = alk (byt (I 71) (I 70 1)) pl 120) (hj : j = alk (byt (I 71) (I 70 1)) (pl + i) 121) (hp2 : p2 = pl + i + j)
    (H : ∀ I', Mf [77] I I' → (∀ k, I' 77 k = upg (I 77) (3 * i + j) ((I 77 (3 * i + j) + num) % 31) k) → (I 70 1 ≤ p2 → Q x3 I') ∧ (p2 < I 70 1 → byt (I 71) (I 70 1) p2 = 43 → RI (d + 3) kX0_readTerms 22 [some (ax_r 70), some (ax_r 77), some (ax_i (p2 + 1)), some (ax_i (x3 + 1)), none, none, none, none] I' Q) ∧ (p2 < I 70 1 → byt (I 71) (I 70 1) p2 ≠ 43 → Q (-100 - p2) I')) :
    cI (d + 2) kX0_alikeFrom [ax_r 70, ax_i pl, ax_i 120] I (fun w14 I13 =>
          ∀ y2_120, y2_120 = (pl + w14) →
          (cI (d + 2) kX0_alikeFrom [ax_r 70, ax_i y2_120, ax_i 121] I13 (fun w17 I16 =>
          ∀ y2_134, y2_134 = (y2_120 + w17) →
          (cV (d + 2) kX0_addTo [ax_r 77, ax_i ((3 * w14) + w17), ax_i num] I16 (fun I19 =>
          ax_R y2_134 ∧
          ((y2_134 < (I19 70 1) →
            cI (d + 2) kX0_byteAt [ax_r 70, ax_i y2_134] I19 (fun w24 I23 =>
            ax_R w24 ∧
            ((w24 = 43 →
              RI (d + 3) kX0_readTerms 22 [some (ax_r 70), some (ax_r 77), some (ax_i (y2_134 + 1)), some (ax_i (x3 + 1)), none, none, none, none] I23 Q) ∧
            (¬ w24 = 43 →
              Q ((-100) - y2_134) I23)))) ∧
          (¬ y2_134 < (I19 70 1) →
            Q x3 I19))))))) := by
  have bi := alk_bd (byt (I 71) (I 70 1)) pl 120
  have bj := alk_bd (byt (I 71) (I 70 1)) (pl + i) 121
  refine c_alike (by decide) (by omega) hok ?_
  rw [← hi] at bi ⊢
  intro y hy
  subst hy
  refine c_alike (by decide) (by omega) hok ?_
  rw [← hj] at bj ⊢
  intro y hy
  rw [← hp2] at hy
  rw [hy]
  have n77 := hS (3 * i + j) (by omega) (by omega)
  have := n77.1
  have := n77.2
  refine c_addTo (by omega) ⟨by omega, by omega⟩ ⟨⟨by omega, by omega⟩, ?_⟩
  have h := H (ax_st I 77 (3 * i + j) ((I 77 (3 * i + j) + num) % 31)) (Mf.st (by decide)) (fun k => st_at)
  have e70 : (ax_st I 77 (3 * i + j) ((I 77 (3 * i + j) + num) % 31)) 70 = I 70 := st_cell (by decide)
  have e71 : (ax_st I 77 (3 * i + j) ((I 77 (3 * i + j) + num) % 31)) 71 = I 71 := st_cell (by decide)
  have bp := (byt_bd hok p2).1
  refine ⟨fun c => ?_, fun c => ?_⟩
  · rw [e70] at c
    refine c_byteAt (a := 70) isBy70 ⟨by omega, by omega⟩ (by rw [e70]; exact hok.1) ?_
    rw [e70, show (ax_st I 77 (3 * i + j) ((I 77 (3 * i + j) + num) % 31)) (70 + 1) = I 71 from e71]
    exact ⟨⟨by omega, by omega⟩, fun q => h.2.1 c q, fun q => h.2.2 c q⟩
  · rw [e70] at c
    exact h.1 (by omega)
theorem c_rt22 {d : Nat} {p : Int → Int} {n : Int} {I0 : ax_H} {Q : Int → ax_H → Prop} (hok : okT p n) (hp : I0 71 = p) (hn : I0 70 1 = n) : ∀ (f : Nat) (pl tm : Int) (S : Int → Int) (I : ax_H), tm = 61 - f → f ≤ 60 → 0 ≤ pl → pl ≤ n → (∀ k, nm (S k)) → Mf [77] I0 I → (∀ k, 0 ≤ k → k < 9 → I 77 k = S k) →
    (∀ I', Mf [77] I0 I' → (0 ≤ (pt (byt p n) n f pl tm S).1 → ∀ k, 0 ≤ k → k < 9 → I' 77 k = (pt (byt p n) n f pl tm S).2 k) → Q (pt (byt p n) n f pl tm S).1 I') →
    RI (d + 3) kX0_readTerms 22 [some (ax_r 70), some (ax_r 77), some (ax_i pl), some (ax_i tm), none, none, none, none] I Q := by
  have hb := hok.1
  intro f
  induction f with
  | zero =>
    intro pl tm S I htm _ p0 p1 hS hf h7 hQ
    unfold pt at hQ
    refine vX0_readTerms_22 isBy70 ⟨by omega, by omega⟩ ⟨fun _ => hQ I hf (fun q => absurd q (by show ¬ 0 ≤ -100 - pl; omega)), fun c => absurd (by omega) c⟩
  | succ f ih =>
    intro pl tm S I htm hf60 p0 p1 hS hf h7 hQ
    have e70 : I 70 = I0 70 := hf 70 (by decide)
    have e71 : I 71 = p := by rw [hf 71 (by decide), hp]
    have en : I 70 1 = n := by rw [e70, hn]
    have b0 := byt_bd hok pl
    have b1' := byt_bd hok (pl + 1)
    have hokI : okT (I 71) (I 70 1) := by rw [e71, en]; exact hok
    have h7n : ∀ k, 0 ≤ k → k < 9 → nm (I 77 k) := fun k k0 k1 => by rw [h7 k k0 k1]; exact hS k
    have bad : ∀ q : Int, 0 ≤ q → pt (byt p n) n (f + 1) pl tm S = (-100 - q, S) → Q (-100 - q) I := by
      intro q q0 e
      have := hQ I hf
      rw [e] at this
      exact this (fun r => absurd r (by show ¬ 0 ≤ -100 - q; omega))
    have tail : ∀ (pl2 num : Int), 0 ≤ pl2 → pl2 ≤ 100 → pl2 = pl + 1 ∨ pl2 = pl + 1 + 1 → 0 ≤ num → num ≤ 99 → pt (byt p n) n (f + 1) pl tm S = ptt (byt p n) n (fun p' S2 => pt (byt p n) n f p' (tm + 1) S2) tm S pl2 num →
        cI (d + 2) kX0_alikeFrom [ax_r 70, ax_i pl2, ax_i 120] I (fun w14 I13 =>
          ∀ y2_120, y2_120 = (pl2 + w14) →
          (cI (d + 2) kX0_alikeFrom [ax_r 70, ax_i y2_120, ax_i 121] I13 (fun w17 I16 =>
          ∀ y2_134, y2_134 = (y2_120 + w17) →
          (cV (d + 2) kX0_addTo [ax_r 77, ax_i ((3 * w14) + w17), ax_i num] I16 (fun I19 =>
          ax_R y2_134 ∧
          ((y2_134 < (I19 70 1) →
            cI (d + 2) kX0_byteAt [ax_r 70, ax_i y2_134] I19 (fun w24 I23 =>
            ax_R w24 ∧
            ((w24 = 43 →
              RI (d + 3) kX0_readTerms 22 [some (ax_r 70), some (ax_r 77), some (ax_i (y2_134 + 1)), some (ax_i (tm + 1)), none, none, none, none] I23 Q) ∧
            (¬ w24 = 43 →
              Q ((-100) - y2_134) I23)))) ∧
          (¬ y2_134 < (I19 70 1) →
            Q tm I19))))))) := by
      intro pl2 num q0 q1 q2 n0' n1' e
      rw [e] at hQ
      refine c_rt_tail ⟨q0, q1⟩ ⟨n0', n1'⟩ hokI h7n rfl rfl rfl (fun I' f' s' => ?_)
      rw [e71, en] at s' ⊢
      unfold ptt at hQ
      dsimp only at hQ
      have bi := alk_bd (byt p n) pl2 120
      have bj := alk_bd (byt p n) (pl2 + alk (byt p n) pl2 120) 121
      generalize alk (byt p n) pl2 120 = i at s' hQ bi bj ⊢
      generalize alk (byt p n) (pl2 + i) 121 = j at s' hQ bj ⊢
      have s2 : ∀ k, 0 ≤ k → k < 9 → I' 77 k = upg S (3 * i + j) ((S (3 * i + j) + num) % 31) k := by
        intro k k0 k1
        rw [s' k]
        unfold upg
        rw [h7 (3 * i + j) (by omega) (by omega)]
        split
        · rfl
        · exact h7 k k0 k1
      refine ⟨fun c => ?_, fun c c2 => ?_, fun c c2 => ?_⟩
      · rw [if_pos c] at hQ
        exact hQ I' (hf.trans f') (fun _ => s2)
      · rw [if_neg (by omega), if_pos c2] at hQ
        refine ih _ (tm + 1) _ I' (by omega) (by omega) (by omega) (by omega) (fun k => ?_) (hf.trans f') s2 hQ
        unfold upg
        split
        · exact nm_mod _
        · exact hS k
      · rw [if_neg (by omega), if_neg c2] at hQ
        exact hQ I' (hf.trans f') (fun r => absurd r (by show ¬ 0 ≤ -100 - (pl2 + i + j); omega))
    refine vX0_readTerms_22 isBy70 ⟨by omega, by omega⟩ ⟨fun c => absurd c (by omega), fun _ => ?_⟩
    refine c_byteAt (a := 70) isBy70 ⟨by omega, by omega⟩ hokI.1 ?_
    rw [show I (70 + 1) = p from e71, en]
    intro y4 hy4
    have bad1 : ¬ (1 ≤ y4 ∧ y4 ≤ 9) → Q (-100 - pl) I := fun c => bad pl p0 (by
      show (if _ then _ else _) = _
      rw [if_pos (by omega)])
    refine ⟨⟨by omega, by omega⟩, fun c => bad1 (by omega), fun c => ⟨fun c2 => ?_, fun c2 => bad1 (by omega)⟩⟩
    refine c_byteAt (a := 70) isBy70 ⟨by omega, by omega⟩ hokI.1 ?_
    rw [show I (70 + 1) = p from e71, en]
    intro y5 hy5
    have one : ¬ (0 ≤ y5 ∧ y5 ≤ 9) → pt (byt p n) n (f + 1) pl tm S = ptt (byt p n) n (fun p' S2 => pt (byt p n) n f p' (tm + 1) S2) tm S (pl + 1) y4 := fun q => by
      show (if _ then _ else _) = _
      rw [if_neg (by omega), if_neg (by omega), ← hy4]
    refine ⟨⟨by omega, by omega⟩, fun c3 => ?_, fun c3 => ⟨fun c4 => ?_, fun c4 => ⟨⟨by omega, by omega⟩, fun c5 => ?_, fun c5 => ?_⟩⟩⟩
    · exact tail (pl + 1) y4 (by omega) (by omega) (Or.inl rfl) (by omega) (by omega) (one (by omega))
    · exact tail (pl + 1) y4 (by omega) (by omega) (Or.inl rfl) (by omega) (by omega) (one (by omega))
    · have hin := b1'.2 (by omega)
      have a0 : alk (byt (I 71) (I 70 1)) (pl + 1) 120 = 0 := by unfold alk; rw [e71, en, if_neg (by omega)]
      have a1 : alk (byt (I 71) (I 70 1)) (pl + 1 + 0) 121 = 0 := by unfold alk; rw [e71, en, Int.add_zero, if_neg (by omega)]
      refine c_rt_tail (i := 0) (j := 0) (p2 := pl + 1) ⟨by omega, by omega⟩ ⟨by omega, by omega⟩ hokI h7n a0.symm a1.symm (by omega) (fun I' f' s' => ?_)
      rw [e71, en]
      refine ⟨fun q => absurd q (by omega), fun _ q => absurd q (by omega), fun _ _ => ?_⟩
      have e : pt (byt p n) n (f + 1) pl tm S = (-100 - (pl + 1), S) := by
        show (if _ then _ else _) = _
        rw [if_neg (by omega), if_pos (by omega), if_pos (by omega)]
      rw [e] at hQ
      exact hQ I' (hf.trans f') (fun r => absurd r (by show ¬ 0 ≤ -100 - (pl + 1); omega))
    · intro y6 hy6
      refine tail (pl + 1 + 1) y6 (by omega) (by omega) (Or.inr rfl) (by omega) (by omega) ?_
      show (if _ then _ else _) = _
      rw [if_neg (by omega), if_pos (by omega), if_neg (by omega), ← hy4, ← hy5, ← hy6]
theorem c_rt2 {d : Nat} {Q : Int → ax_H → Prop} : ∀ (m : Nat) (k : Int) (I : ax_H), k = 9 - m → m ≤ 9 → (∀ j, 0 ≤ j → j < k → I 77 j = 0) →
    (∀ I', Mf [77] I I' → (∀ j, 0 ≤ j → j < 9 → I' 77 j = 0) → RI (d + 3) kX0_readTerms 22 [some (ax_r 70), some (ax_r 77), some (ax_i 0), some (ax_i 1), none, none, none, none] I' Q) →
    RI (d + 3) kX0_readTerms 2 [some (ax_r 70), some (ax_r 77), some (ax_i k), none, none, none, none, none] I Q := by
  intro m
  induction m with
  | zero =>
    intro k I hk _ hA hQ
    exact vX0_readTerms_2 isBy70 ⟨by omega, by omega⟩ ⟨fun _ => hQ I (Mf.rf _ I) (fun j j0 j1 => hA j j0 (by omega)), fun c => absurd (by omega) c⟩
  | succ m ih =>
    intro k I hk hm hA hQ
    refine vX0_readTerms_2 isBy70 ⟨by omega, by omega⟩ ⟨fun c => absurd c (by omega), fun _ => ⟨by omega, ?_⟩⟩
    refine ih (k + 1) _ (by omega) (by omega) (fun j j0 j1 => ?_) (fun I' f' h' => hQ I' ((Mf.st (by decide)).trans f') h')
    rw [st_at]
    split
    · rfl
    · exact hA j j0 (by omega)
/-- what a tape tells: terms or the fault, and the numbers -/
def tld (p : Int → Int) (n : Int) : Int × (Int → Int) := pt (byt p n) n 60 0 1 (fun _ => 0)
theorem pt_bd {p : Int → Int} {n : Int} (hok : okT p n) : ∀ (f : Nat) (pl tm : Int) (S : Int → Int), 0 ≤ pl → pl ≤ n → 0 ≤ tm → -300 ≤ (pt (byt p n) n f pl tm S).1 ∧ (pt (byt p n) n f pl tm S).1 ≤ tm + f
  | 0, pl, tm, S, h0, h1, h2 => by
    have := hok.1
    show -300 ≤ -100 - pl ∧ -100 - pl ≤ tm + ((0 : Nat) : Int)
    omega
  | f + 1, pl, tm, S, h0, h1, h2 => by
    have := hok.1
    have key : ∀ pl2 num : Int, 0 ≤ pl2 → pl2 ≤ pl + 2 → -300 ≤ (ptt (byt p n) n (fun p' S2 => pt (byt p n) n f p' (tm + 1) S2) tm S pl2 num).1 ∧ (ptt (byt p n) n (fun p' S2 => pt (byt p n) n f p' (tm + 1) S2) tm S pl2 num).1 ≤ tm + ((f + 1 : Nat) : Int) := by
      intro pl2 num q0 q1
      have bi := alk_bd (byt p n) pl2 120
      have bj := alk_bd (byt p n) (pl2 + alk (byt p n) pl2 120) 121
      unfold ptt
      dsimp only
      split
      · show -300 ≤ tm ∧ tm ≤ _; omega
      · split
        · rename_i c1 c2
          have b2 := pt_bd hok f (pl2 + alk (byt p n) pl2 120 + alk (byt p n) (pl2 + alk (byt p n) pl2 120) 121 + 1) (tm + 1) (upg S (3 * alk (byt p n) pl2 120 + alk (byt p n) (pl2 + alk (byt p n) pl2 120) 121) ((S (3 * alk (byt p n) pl2 120 + alk (byt p n) (pl2 + alk (byt p n) pl2 120) 121) + num) % 31)) (by omega) (by omega) (by omega)
          omega
        · show -300 ≤ -100 - (_ + _ + _) ∧ -100 - (_ + _ + _) ≤ _; omega
    unfold pt
    split
    · show -300 ≤ -100 - pl ∧ -100 - pl ≤ _; omega
    · split
      · split
        · show -300 ≤ -100 - (pl + 1) ∧ -100 - (pl + 1) ≤ _; omega
        · exact key _ _ (by omega) (by omega)
      · exact key _ _ (by omega) (by omega)
theorem tld_R {p : Int → Int} {n : Int} (hok : okT p n) : ax_R (tld p n).1 := by
  have := pt_bd hok 60 0 1 (fun _ => 0) (by omega) hok.1.1 (by omega)
  unfold tld
  exact ⟨by omega, by omega⟩
theorem c_readTerms {d : Nat} {I : ax_H} {Q : Int → ax_H → Prop} (hok : okT (I 71) (I 70 1)) (hQ : ∀ I', Mf [77] I I' → (0 ≤ (tld (I 71) (I 70 1)).1 → ∀ k, 0 ≤ k → k < 9 → I' 77 k = (tld (I 71) (I 70 1)).2 k) → Q (tld (I 71) (I 70 1)).1 I') : cI (d + 3) kX0_readTerms [ax_r 70, ax_r 77] I Q := by
  refine vX0_readTerms_0 isBy70 ?_
  refine c_rt2 9 0 I (by omega) (by omega) (fun j j0 j1 => absurd j1 (by omega)) (fun I1 f1 k1 => ?_)
  exact c_rt22 (p := I 71) (n := I 70 1) (I0 := I) hok rfl rfl 60 0 1 (fun _ => 0) I1 (by omega) (by omega) (by omega) hok.1.1 (fun _ => ⟨by decide, by decide⟩) f1 k1 hQ
theorem c_chAll {d : Nat} {t : Int} {S : Int → Int} {I0 : ax_H} {Q : ax_H → Prop} (ht : 0 ≤ t ∧ t ≤ 1) (hS : ∀ k, 0 ≤ k → k < 9 → I0 77 k = S k ∧ nm (S k)) (hv : -2147483648 ≤ I0 1 1 ∧ I0 1 1 < 2147483647)
    (hQ : ∀ I', Mf [1, 3] I0 I' → I' 1 1 = I0 1 1 + 1 → (∀ k, k ≠ 1 → I' 1 k = I0 1 k) → (∀ k, 0 ≤ k → k < 9 → I' 3 (9 * t + k) = S k) → (∀ k, (k < 9 * t ∨ 9 * t + 9 ≤ k) → I' 3 k = I0 3 k) → Q I') : ∀ (m : Nat) (k : Int) (I : ax_H), k = 9 - m → m ≤ 9 → Mf [3] I0 I → (∀ j, 0 ≤ j → j < k → I 3 (9 * t + j) = S j) → (∀ j, (j < 9 * t ∨ 9 * t + 9 ≤ j) → I 3 j = I0 3 j) →
    RV (d + 1) kX1_changeAll 2 [some (ax_r 1), some (ax_i t), some (ax_r 77), some (ax_i k)] I Q := by
  intro m
  induction m with
  | zero =>
    intro k I hk _ hf hA hB
    have e1 : I 1 = I0 1 := hf 1 (by decide)
    refine vX1_changeAll_2 ⟨by omega, by omega⟩ ⟨fun _ => ⟨⟨by rw [e1]; omega, by rw [e1]; omega⟩, ?_⟩, fun c => absurd (by omega) c⟩
    refine hQ _ ((hf.mono (by decide)).trans (Mf.st (by decide))) (by rw [st_same, e1]) (fun j hj => by rw [st_ne (Or.inr hj), e1]) (fun j j0 j1 => by rw [st_cell (by decide)]; exact hA j j0 (by omega)) (fun j hj => by rw [st_cell (by decide)]; exact hB j hj)
  | succ m ih =>
    intro k I hk hm hf hA hB
    have e77 : I 77 = I0 77 := hf 77 (by decide)
    have hs := hS k (by omega) (by omega)
    refine vX1_changeAll_2 ⟨by omega, by omega⟩ ⟨fun c => absurd c (by omega), fun _ => ⟨fun c => absurd c (by omega), fun _ => ⟨by omega, by omega, ?_⟩⟩⟩
    rw [e77, hs.1]
    refine vX9_change_0 isT2 (nm_R hs.2) ?_
    intro y hy
    refine ⟨by omega, fun c => absurd c (by omega), fun _ => ⟨fun c => absurd c (by omega), fun _ => ⟨by omega, ?_⟩⟩⟩
    refine ih (k + 1) _ (by omega) (by omega) (hf.trans (Mf.st (by decide))) (fun j j0 j1 => ?_) (fun j hj => ?_)
    · show (ax_st I 3 y (S k)) 3 (9 * t + j) = S j
      rw [st_at]
      split
      · rw [show j = k by omega]
      · exact hA j j0 (by omega)
    · show (ax_st I 3 y (S k)) 3 j = I0 3 j
      rw [st_ne (Or.inr (by omega))]; exact hB j hj
theorem a_table {d : Nat} {I : ax_H} {Q : Int → ax_H → Prop} {t : Int} (ht : ax_R t) (hok : okT (I 71) (I 70 1)) (hv : -2147483648 ≤ I 1 1 ∧ I 1 1 < 2147483647) (h1 : ¬ (0 ≤ t ∧ t ≤ 1) → Q (-1) I)
    (hbad : ∀ I', 0 ≤ t ∧ t ≤ 1 → (tld (I 71) (I 70 1)).1 < 0 → Mf [70, 77] I I' → I' 70 1 = 0 → Q (tld (I 71) (I 70 1)).1 I')
    (hgood : ∀ I', 0 ≤ t ∧ t ≤ 1 → 0 ≤ (tld (I 71) (I 70 1)).1 → Mf [1, 3, 70, 77] I I' → I' 70 1 = 0 → I' 1 1 = I 1 1 + 1 → (∀ k, k ≠ 1 → I' 1 k = I 1 k) → (∀ k, 0 ≤ k → k < 9 → I' 3 (9 * t + k) = (tld (I 71) (I 70 1)).2 k) → (∀ k, (k < 9 * t ∨ 9 * t + 9 ≤ k) → I' 3 k = I 3 k) → Q (tld (I 71) (I 70 1)).1 I') : cI (d + 4) kX10_table [ax_r 0, ax_i t] I Q := by
  refine vX10_table_0 ?_
  refine c_isTable ht (fun hc => n1 ?_) (fun hc => n0 (h1 hc))
  refine c_readTerms hok (fun I1 f1 k1 => ⟨tld_R hok, fun c => ?_, fun c => ?_⟩)
  · exact hbad _ hc c ((f1.mono (by decide)).trans (Mf.st (by decide))) (st_same _ _ _ _)
  · have w : ∀ b, b ≠ 70 → b ≠ 77 → (ax_st I1 70 1 0) b = I b := fun b q1 q2 => by rw [st_cell q1, f1 b (by simp [q2])]
    refine vX1_changeAll_0 ?_
    refine c_chAll (S := (tld (I 71) (I 70 1)).2) (I0 := ax_st I1 70 1 0) hc (fun k k0 k1' => ⟨by rw [st_cell (by decide)]; exact k1 (by omega) k k0 k1', pt_nm 60 0 1 _ (fun _ => ⟨by decide, by decide⟩) k⟩) (by rw [w 1 (by decide) (by decide)]; exact hv) (fun I' f' v' u' s' o' => ?_) 9 0 _ (by omega) (by omega) (Mf.rf _ _) (fun j j0 j1 => absurd j1 (by omega)) (fun _ _ => rfl)
    rw [w 1 (by decide) (by decide)] at v' u'
    refine hgood I' hc (by omega) (fun b hb => ?_) (by rw [f' 70 (by decide), st_same]) v' u' s' (fun k hk => by rw [o' k hk, w 3 (by decide) (by decide)])
    simp only [List.mem_cons, List.not_mem_nil, or_false, not_or] at hb
    rw [f' b (by simp [hb]), w b hb.2.2.1 hb.2.2.2]
/-! the reference's -/
theorem m_here {d : Nat} {I : ax_H} {Q : Int → ax_H → Prop} {p : Int → Int} {n a : Int} (hok : okT p n) (hp : I 113 = p) (hn : I 85 23 = n) (ha : I 85 24 = a) (h0 : 0 ≤ a) (h : Q (byt p n a) I) : cI d kX11_here [ax_r 85] I Q := by
  have hb := hok.1
  unfold byt at h
  refine vX11_here_0 ?_
  rw [hn, ha, hp]
  refine ⟨fun c => ?_, fun c => ⟨by omega, ?_⟩⟩
  · rw [if_neg (by omega)] at h; exact h
  · rw [if_pos (by omega)] at h; exact h
theorem m_often {d : Nat} {I : ax_H} {Q : Int → ax_H → Prop} {p : Int → Int} {n a s : Int} (hok : okT p n) (hp : I 113 = p) (hn : I 85 23 = n) (ha : I 85 24 = a) (h0 : 0 ≤ a ∧ a ≤ 1000) (hs : ax_R s) (h : ∀ I', Mf [85] I I' → (∀ k, k ≠ 24 → I' 85 k = I 85 k) → I' 85 24 = a + alk (byt p n) a s → Q (alk (byt p n) a s) I') : cI (d + 1) kX11_often [ax_r 85, ax_i s] I Q := by
  have b := fun i => (byt_bd hok i).1
  have bR : ∀ i, ax_R (byt p n i) := fun i => ⟨by have := b i; omega, by have := b i; omega⟩
  unfold alk at h
  refine vX11_often_0 ?_
  refine vX11_often_2 hs (by decide) ⟨fun c => absurd c (by decide), fun _ => ?_⟩
  refine m_here hok hp hn ha h0.1 ⟨bR a, fun c => ?_, fun c => ⟨⟨by omega, by omega⟩, ?_⟩⟩
  · rw [if_neg c] at h
    exact h I (Mf.rf _ _) (fun _ _ => rfl) (by omega)
  · rw [if_pos c] at h
    rw [ha]
    refine vX11_often_2 hs (by decide) ⟨fun c => absurd c (by decide), fun _ => ?_⟩
    refine m_here (a := a + 1) hok (by rw [st_cell (by decide)]; exact hp) (by rw [st_ne (Or.inr (by decide))]; exact hn) (st_same _ _ _ _) (by omega) ⟨bR _, fun c2 => ?_, fun c2 => ?_⟩
    · rw [if_neg c2] at h
      exact h _ (Mf.st (by decide)) (fun k hk => st_ne (Or.inr hk)) (st_same _ _ _ _)
    · rw [if_pos c2] at h
      rw [st_same]
      refine ⟨⟨by omega, by omega⟩, ?_⟩
      refine vX11_often_2 hs (by decide) ⟨fun _ => ?_, fun c => absurd (by decide) c⟩
      exact h _ ((Mf.st (by decide)).trans (Mf.st (by decide))) (fun k hk => by rw [st_ne (Or.inr hk), st_ne (Or.inr hk)]) (by rw [st_same]; omega)
theorem m_isTerm {d : Nat} {I : ax_H} {Q : Int → ax_H → Prop} {p : Int → Int} {n a : Int} (hok : okT p n) (hp : I 113 = p) (hn : I 85 23 = n) (ha : I 85 24 = a) (h0 : 0 ≤ a ∧ a ≤ 60) (hS : ∀ k, 0 ≤ k → k < 9 → nm (I 114 k))
    (hb1 : ¬ (1 ≤ byt p n a - 48 ∧ byt p n a - 48 ≤ 9) → Q 0 I)
    (hb2 : 1 ≤ byt p n a - 48 ∧ byt p n a - 48 ≤ 9 → 0 ≤ byt p n (a + 1) - 48 ∧ byt p n (a + 1) - 48 ≤ 9 → 30 < 10 * (byt p n a - 48) + (byt p n (a + 1) - 48) → Q 0 (ax_st I 85 24 (a + 1)))
    (hgo : ∀ pl num i j I', 1 ≤ byt p n a - 48 ∧ byt p n a - 48 ≤ 9 → ((¬ (0 ≤ byt p n (a + 1) - 48 ∧ byt p n (a + 1) - 48 ≤ 9) ∧ pl = a + 1 ∧ num = byt p n a - 48) ∨ ((0 ≤ byt p n (a + 1) - 48 ∧ byt p n (a + 1) - 48 ≤ 9) ∧ ¬ 30 < 10 * (byt p n a - 48) + (byt p n (a + 1) - 48) ∧ pl = a + 1 + 1 ∧ num = 10 * (byt p n a - 48) + (byt p n (a + 1) - 48))) → i = alk (byt p n) pl 120 → j = alk (byt p n) (pl + i) 121 → Mf [85, 114] I I' → (∀ k, k ≠ 24 → I' 85 k = I 85 k) → I' 85 24 = pl + i + j → (∀ k, I' 114 k = upg (I 114) (3 * i + j) ((I 114 (3 * i + j) + num) % 31) k) → Q 1 I') : cI (d + 2) kX11_isTerm [ax_r 85] I Q := by
  have b := fun i => (byt_bd hok i).1
  have bR : ∀ i, ax_R (byt p n i) := fun i => ⟨by have := b i; omega, by have := b i; omega⟩
  have ba := b a
  have ba1 := b (a + 1)
  -- the letters behind the number
  have tail : ∀ (pl num : Int) (I1 : ax_H), 0 ≤ pl → pl ≤ 100 → 0 ≤ num → num ≤ 30 → 1 ≤ byt p n a - 48 ∧ byt p n a - 48 ≤ 9 → ((¬ (0 ≤ byt p n (a + 1) - 48 ∧ byt p n (a + 1) - 48 ≤ 9) ∧ pl = a + 1 ∧ num = byt p n a - 48) ∨ ((0 ≤ byt p n (a + 1) - 48 ∧ byt p n (a + 1) - 48 ≤ 9) ∧ ¬ 30 < 10 * (byt p n a - 48) + (byt p n (a + 1) - 48) ∧ pl = a + 1 + 1 ∧ num = 10 * (byt p n a - 48) + (byt p n (a + 1) - 48))) → Mf [85] I I1 → (∀ k, k ≠ 24 → I1 85 k = I 85 k) → I1 85 24 = pl →
      cI (d + 1) kX11_often [ax_r 85, ax_i 120] I1 (fun w20 I19 =>
      cI (d + 1) kX11_often [ax_r 85, ax_i 121] I19 (fun w22 I21 =>
      (0 ≤ ((3 * w20) + w22) ∧ ((3 * w20) + w22) < 9) ∧
      ((0 ≤ ((I21 114 ((3 * w20) + w22)) + num) ∧ ((I21 114 ((3 * w20) + w22)) + num) < 2147483648) ∧
      (Q 1 (ax_st I21 114 ((3 * w20) + w22) (((I21 114 ((3 * w20) + w22)) + num) % 31)))))) := by
    intro pl num I1 q0 q1 m0 m1 hd hw f1 g1 a1
    have w1 : ∀ b, b ≠ 85 → I1 b = I b := fun b h => f1 b (by simp [h])
    refine m_often hok (by rw [w1 113 (by decide)]; exact hp) (by rw [g1 23 (by decide)]; exact hn) a1 ⟨q0, by omega⟩ (by decide) (fun I2 f2 g2 a2 => ?_)
    have bi := alk_bd (byt p n) pl 120
    have w2 : ∀ b, b ≠ 85 → I2 b = I1 b := fun b h => f2 b (by simp [h])
    refine m_often hok (by rw [w2 113 (by decide), w1 113 (by decide)]; exact hp) (by rw [g2 23 (by decide), g1 23 (by decide)]; exact hn) a2 ⟨by omega, by omega⟩ (by decide) (fun I3 f3 g3 a3 => ?_)
    have bj := alk_bd (byt p n) (pl + alk (byt p n) pl 120) 121
    have w3 : ∀ b, b ≠ 85 → I3 b = I2 b := fun b h => f3 b (by simp [h])
    have e114 : I3 114 = I 114 := by rw [w3 114 (by decide), w2 114 (by decide), w1 114 (by decide)]
    have hn := hS (3 * alk (byt p n) pl 120 + alk (byt p n) (pl + alk (byt p n) pl 120) 121) (by omega) (by omega)
    have := hn.1
    have := hn.2
    rw [e114]
    refine ⟨by omega, by omega, ?_⟩
    refine hgo pl num _ _ _ hd hw rfl rfl (fun b hb => ?_) (fun k hk => ?_) ?_ (fun k => ?_)
    · simp only [List.mem_cons, List.not_mem_nil, or_false, not_or] at hb
      rw [st_cell hb.2, w3 b hb.1, w2 b hb.1, w1 b hb.1]
    · rw [st_cell (by decide), g3 k hk, g2 k hk, g1 k hk]
    · rw [st_cell (by decide), a3]
    · rw [st_at, e114]; rfl
  refine vX11_isTerm_0 ?_
  refine m_here hok hp hn ha h0.1 ⟨bR a, ?_⟩
  refine m_in (R8_of (bR a)) (by decide) (by decide) (fun c => n1 ?_) (fun c => n0 (hb1 (by omega)))
  refine m_here hok hp hn ha h0.1 ?_
  intro y1 hy1
  rw [ha]
  refine ⟨⟨by omega, by omega⟩, ?_⟩
  have v113 : (ax_st I 85 24 (a + 1)) 113 = p := by rw [st_cell (by decide)]; exact hp
  have v23 : (ax_st I 85 24 (a + 1)) 85 23 = n := by rw [st_ne (Or.inr (by decide))]; exact hn
  refine m_here (a := a + 1) hok v113 v23 (st_same _ _ _ _) (by omega) ⟨bR _, ?_⟩
  refine m_in (R8_of (bR _)) (by decide) (by decide) (fun c2 => b1 ?_) (fun c2 => b0 ?_)
  · refine m_here (a := a + 1) hok v113 v23 (st_same _ _ _ _) (by omega) ?_
    intro y2 hy2
    refine ⟨⟨by omega, by omega⟩, fun c3 => ?_, fun c3 => hb2 (by omega) (by omega) (by omega)⟩
    rw [st_same]
    refine ⟨⟨by omega, by omega⟩, ?_⟩
    exact tail (a + 1 + 1) y2 _ (by omega) (by omega) (by omega) (by omega) (by omega) (Or.inr ⟨by omega, by omega, rfl, by omega⟩) ((Mf.st (by decide)).trans (Mf.st (by decide))) (fun k hk => by rw [st_ne (Or.inr hk), st_ne (Or.inr hk)]) (st_same _ _ _ _)
  · exact tail (a + 1) y1 _ (by omega) (by omega) (by omega) (by omega) (by omega) (Or.inl ⟨by omega, rfl, hy1⟩) (Mf.st (by decide)) (fun k hk => by rw [st_ne (Or.inr hk)]) (st_same _ _ _ _)
def Zf (I I' : ax_H) : Prop := Mf [85, 114] I I' ∧ ∀ k, k ≠ 24 → I' 85 k = I 85 k
theorem Zf.trans {I I' I'' : ax_H} (h : Zf I I') (h' : Zf I' I'') : Zf I I'' := ⟨h.1.trans h'.1, fun k hk => (h'.2 k hk).trans (h.2 k hk)⟩
theorem Zf.at (I : ax_H) (v : Int) : Zf I (ax_st I 85 24 v) := ⟨Mf.st (by decide), fun k hk => st_ne (Or.inr hk)⟩
theorem m_terms {d : Nat} {p : Int → Int} {n t : Int} {I0 : ax_H} {Q : Int → ax_H → Prop} (hok : okT p n) (hp : I0 113 = p) (hn : I0 85 23 = n)
    (hbad : ∀ I' q, Zf I0 I' → 0 ≤ q → I' 85 24 = q → (tld p n).1 = -100 - q → Q (-100 - q) (ax_st I' 85 23 0))
    (hend : ∀ I', Zf I0 I' → 0 < (tld p n).1 → (∀ k, 0 ≤ k → k < 9 → I' 114 k = (tld p n).2 k) → RI (d + 3) kX11_table 141 [some (ax_r 85), some (ax_i t), some (ax_i (tld p n).1), none, some (ax_i 0)] (ax_st I' 85 23 0) Q) : ∀ (f : Nat) (pl x2 : Int) (S : Int → Int) (I : ax_H), x2 = 60 - f → f ≤ 60 → 0 ≤ pl → pl ≤ n → 2 * x2 ≤ pl → (∀ k, nm (S k)) → Zf I0 I → I 85 24 = pl → (∀ k, 0 ≤ k → k < 9 → I 114 k = S k) → pt (byt p n) n f pl (x2 + 1) S = tld p n →
    cI (d + 2) kX11_isTerm [ax_r 85] I (fun w7 I6 =>
        ax_R w7 ∧
        ((w7 = 0 →
          RI (d + 3) kX11_table 42 [some (ax_r 85), some (ax_i t), some (ax_i (x2 + 1)), some (ax_i 0), none] I6 Q) ∧
        (¬ w7 = 0 →
          RI (d + 3) kX11_table 42 [some (ax_r 85), some (ax_i t), some (ax_i (x2 + 1)), some (ax_i 1), none] I6 Q))) := by
  have hb := hok.1
  intro f
  have lost : ∀ (x2 q : Int) (I : ax_H), ax_R (x2 + 1) → Zf I0 I → 0 ≤ q → I 85 24 = q → (tld p n).1 = -100 - q → RI (d + 3) kX11_table 42 [some (ax_r 85), some (ax_i t), some (ax_i (x2 + 1)), some (ax_i 0), none] I Q := by
    intro x2 q I hx hf q0 hq e
    refine vX11_table_42 hx (by decide) ⟨fun _ => ?_, fun c => absurd rfl c⟩
    rw [st_ne (Or.inr (by decide)), hq]
    exact hbad I q hf q0 hq e
  induction f with
  | zero => intro pl x2 S I hx _ p0 p1 p2; omega
  | succ f ih =>
    intro pl x2 S I hx hf60 p0 p1 p2 hS hf ha h4 hT
    have hxR : ax_R (x2 + 1) := ⟨by omega, by omega⟩
    have e113 : I 113 = p := by rw [hf.1 113 (by decide), hp]
    have e23 : I 85 23 = n := by rw [hf.2 23 (by decide), hn]
    refine m_isTerm hok e113 e23 ha ⟨p0, by omega⟩ (fun k k0 k1 => by rw [h4 k k0 k1]; exact hS k) (fun c => ?_) (fun c c2 c3 => ?_) (fun pl2 num i j I1 hd hw hi hj f1 g1 a1 s1 => ?_)
    · refine b0 (lost x2 pl I hxR hf p0 ha ?_)
      rw [← hT]
      show (if _ then _ else _ : Int × (Int → Int)).1 = _
      rw [if_pos c]
    · refine b0 (lost x2 (pl + 1) _ hxR (hf.trans (Zf.at I _)) (by omega) (st_same _ _ _ _) ?_)
      rw [← hT]
      show (if _ then _ else _ : Int × (Int → Int)).1 = _
      rw [if_neg (fun q => q c), if_pos c2, if_pos c3]
    · refine b1 ?_
      have hb2 : pl + 1 ≤ pl2 ∧ pl2 ≤ pl + 2 ∧ 0 ≤ num ∧ num ≤ 30 := by omega
      have eT : ptt (byt p n) n (fun p' S2 => pt (byt p n) n f p' (x2 + 1 + 1) S2) (x2 + 1) S pl2 num = tld p n := by
        rw [← hT]
        show _ = (if _ then _ else _ : Int × (Int → Int))
        rw [if_neg (fun q => q hd)]
        rcases hw with ⟨w1, w2, w3⟩ | ⟨w1, w2, w3, w4⟩
        · rw [if_neg w1, w2, w3]
        · rw [if_pos w1, if_neg w2, w3, w4]
      have bi := alk_bd (byt p n) pl2 120
      have bj := alk_bd (byt p n) (pl2 + alk (byt p n) pl2 120) 121
      unfold ptt at eT
      dsimp only at eT
      rw [← hi] at eT bi bj
      rw [← hj] at eT bj
      have hf1 : Zf I0 I1 := hf.trans ⟨f1, g1⟩
      have e23' : I1 85 23 = n := by rw [hf1.2 23 (by decide), hn]
      have e113' : I1 113 = p := by rw [hf1.1 113 (by decide), hp]
      have s2 : ∀ k, 0 ≤ k → k < 9 → I1 114 k = upg S (3 * i + j) ((S (3 * i + j) + num) % 31) k := by
        intro k k0 k1
        rw [s1 k]
        unfold upg
        rw [h4 (3 * i + j) (by omega) (by omega)]
        split
        · rfl
        · exact h4 k k0 k1
      have nS : ∀ k, nm (upg S (3 * i + j) ((S (3 * i + j) + num) % 31) k) := by
        intro k
        unfold upg
        split
        · exact nm_mod _
        · exact hS k
      refine vX11_table_42 hxR (by decide) ⟨fun c => absurd c (by decide), fun _ => ⟨fun c => absurd c (by omega), fun _ => ?_⟩⟩
      rw [e23', a1]
      refine ⟨fun c => ?_, fun c => ⟨fun c2 => absurd c2 (by omega), fun _ => ?_⟩⟩
      · rw [if_pos c] at eT
        have := hend I1 hf1 (by rw [← eT]; show 0 < x2 + 1; omega) (fun k k0 k1 => by rw [← eT]; exact s2 k k0 k1)
        rw [← eT] at this
        exact this
      · rw [if_neg c] at eT
        have bp := (byt_bd hok (pl2 + i + j)).1
        refine m_here hok e113' e23' a1 (by omega) ⟨⟨by omega, by omega⟩, fun c2 => ?_, fun c2 => ?_⟩
        · rw [if_neg c2] at eT
          rw [a1, Int.add_zero]
          refine ⟨⟨by omega, by omega⟩, ?_⟩
          exact lost (x2 + 1) (pl2 + i + j) _ ⟨by omega, by omega⟩ (hf1.trans (Zf.at I1 _)) (by omega) (st_same _ _ _ _) (by rw [← eT])
        · rw [if_pos c2] at eT
          rw [a1]
          refine ⟨⟨by omega, by omega⟩, ?_⟩
          exact ih (pl2 + i + j + 1) (x2 + 1) _ _ (by omega) (by omega) (by omega) (by omega) (by omega) nS (hf1.trans (Zf.at I1 _)) (st_same _ _ _ _) (fun k k0 k1 => by rw [st_cell (by decide)]; exact s2 k k0 k1) eT
theorem m_table141 {d : Nat} {t x2 : Int} {S : Int → Int} {I0 : ax_H} {Q : Int → ax_H → Prop} (ht : 0 ≤ t ∧ t ≤ 1) (hS : ∀ k, 0 ≤ k → k < 9 → I0 114 k = S k) (hQ : ∀ I', Mf [86] I0 I' → (∀ k, 0 ≤ k → k < 9 → I' 86 (9 * t + k) = S k) → (∀ k, (k < 9 * t ∨ 9 * t + 9 ≤ k) → I' 86 k = I0 86 k) → Q x2 I') : ∀ (m : Nat) (k : Int) (I : ax_H), k = 9 - m → m ≤ 9 → Mf [86] I0 I → (∀ j, 0 ≤ j → j < k → I 86 (9 * t + j) = S j) → (∀ j, (j < 9 * t ∨ 9 * t + 9 ≤ j) → I 86 j = I0 86 j) →
    RI (d + 3) kX11_table 141 [some (ax_r 85), some (ax_i t), some (ax_i x2), none, some (ax_i k)] I Q := by
  intro m
  induction m with
  | zero =>
    intro k I hk _ hf hA hB
    exact vX11_table_141 ⟨by omega, by omega⟩ ⟨fun _ => hQ I hf (fun j j0 j1 => hA j j0 (by omega)) hB, fun c => absurd (by omega) c⟩
  | succ m ih =>
    intro k I hk hm hf hA hB
    refine vX11_table_141 ⟨by omega, by omega⟩ ⟨fun c => absurd c (by omega), fun _ => ⟨by omega, by omega, ?_⟩⟩
    rw [hf 114 (by decide), hS k (by omega) (by omega)]
    refine ih (k + 1) _ (by omega) (by omega) (hf.trans (Mf.st (by decide))) (fun j j0 j1 => ?_) (fun j hj => by rw [st_ne (Or.inr (by omega))]; exact hB j hj)
    rw [st_at]
    split
    · rw [show j = k by omega]
    · exact hA j j0 (by omega)
theorem m_table14 {d : Nat} {t : Int} {Q : Int → ax_H → Prop} : ∀ (m : Nat) (k : Int) (I : ax_H), k = 9 - m → m ≤ 9 → (∀ j, 0 ≤ j → j < k → I 114 j = 0) →
    (∀ I', Mf [114] I I' → (∀ j, 0 ≤ j → j < 9 → I' 114 j = 0) → RI (d + 3) kX11_table 42 [some (ax_r 85), some (ax_i t), some (ax_i 0), some (ax_i 1), none] (ax_st I' 85 24 0) Q) →
    RI (d + 3) kX11_table 14 [some (ax_r 85), some (ax_i t), some (ax_i k), none, none] I Q := by
  intro m
  induction m with
  | zero =>
    intro k I hk _ hA hQ
    exact vX11_table_14 ⟨by omega, by omega⟩ ⟨fun _ => hQ I (Mf.rf _ I) (fun j j0 j1 => hA j j0 (by omega)), fun c => absurd (by omega) c⟩
  | succ m ih =>
    intro k I hk hm hA hQ
    refine vX11_table_14 ⟨by omega, by omega⟩ ⟨fun c => absurd c (by omega), fun _ => ⟨by omega, ?_⟩⟩
    refine ih (k + 1) _ (by omega) (by omega) (fun j j0 j1 => ?_) (fun I' f' h' => hQ I' ((Mf.st (by decide)).trans f') h')
    rw [st_at]
    split
    · rfl
    · exact hA j j0 (by omega)
theorem z_table {d : Nat} {I : ax_H} {Q : Int → ax_H → Prop} {t : Int} (ht : ax_R t) (hok : okT (I 113) (I 85 23)) (h1 : ¬ (0 ≤ t ∧ t ≤ 1) → Q (-1) I)
    (hbad : ∀ I', 0 ≤ t ∧ t ≤ 1 → (tld (I 113) (I 85 23)).1 < 0 → Mf [85, 114] I I' → I' 85 23 = 0 → (∀ k, k ≠ 23 → k ≠ 24 → I' 85 k = I 85 k) → Q (tld (I 113) (I 85 23)).1 I')
    (hgood : ∀ I', 0 ≤ t ∧ t ≤ 1 → 0 ≤ (tld (I 113) (I 85 23)).1 → Mf [85, 86, 114] I I' → I' 85 23 = 0 → (∀ k, k ≠ 23 → k ≠ 24 → I' 85 k = I 85 k) → (∀ k, 0 ≤ k → k < 9 → I' 86 (9 * t + k) = (tld (I 113) (I 85 23)).2 k) → (∀ k, (k < 9 * t ∨ 9 * t + 9 ≤ k) → I' 86 k = I 86 k) → Q (tld (I 113) (I 85 23)).1 I') : cI (d + 3) kX11_table [ax_r 85, ax_i t] I Q := by
  have hb := hok.1
  refine vX11_table_0 ht ?_
  refine m_in (R8_of ht) (by decide) (by decide) (fun hc => n1 ?_) (fun hc => n0 (h1 hc))
  refine m_table14 9 0 I (by omega) (by omega) (fun j j0 j1 => absurd j1 (by omega)) (fun I1 f1 k1 => ?_)
  have w1 : ∀ b, b ≠ 114 → I1 b = I b := fun b h => f1 b (by simp [h])
  have zf0 : Zf I (ax_st I1 85 24 0) := ⟨fun b hb => by
      simp only [List.mem_cons, List.not_mem_nil, or_false, not_or] at hb
      rw [st_cell hb.1, w1 b hb.2], fun k hk => by rw [st_ne (Or.inr hk), w1 85 (by decide)]⟩
  refine vX11_table_42 (by decide) (by decide) ⟨fun c => absurd c (by decide), fun _ => ⟨fun _ => ⟨fun _ => ?_, fun c => absurd (by decide) c⟩, fun c => absurd rfl c⟩⟩
  refine m_terms (p := I 113) (n := I 85 23) (I0 := I) hok rfl rfl (fun I' q f' q0 a' e => ?_) (fun I' f' hp' s' => ?_) 60 0 0 (fun _ => 0) _ (by omega) (by omega) (by omega) hb.1 (by omega) (fun _ => ⟨by decide, by decide⟩) zf0 (st_same _ _ _ _) (fun k k0 k1' => by rw [st_cell (by decide)]; exact k1 k k0 k1') rfl
  · have := hbad (ax_st I' 85 23 0) hc (by omega) (f'.1.trans (Mf.st (by decide))) (st_same _ _ _ _) (fun k h3 h4 => by rw [st_ne (Or.inr h3), f'.2 k h4])
    rw [e] at this
    exact this
  · refine m_table141 (S := (tld (I 113) (I 85 23)).2) hc (fun k k0 k1' => by rw [st_cell (by decide)]; exact s' k k0 k1') (fun I2 f2 a2 b2 => ?_) 9 0 _ (by omega) (by omega) (Mf.rf _ _) (fun j j0 j1 => absurd j1 (by omega)) (fun _ _ => rfl)
    refine hgood I2 hc (by omega) (fun b hb => ?_) (by rw [f2 85 (by decide), st_same]) (fun k h3 h4 => by rw [f2 85 (by decide), st_ne (Or.inr h3), f'.2 k h4]) a2 (fun k hk => by rw [b2 k hk, st_cell (by decide), f'.1 86 (by decide)])
    simp only [List.mem_cons, List.not_mem_nil, or_false, not_or] at hb
    rw [f2 b (by simp [hb]), st_cell hb.1, f'.1 b (by simp [hb])]
