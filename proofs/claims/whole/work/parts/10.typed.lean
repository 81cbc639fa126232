/-! methods over the shape S0, by what they answer; n: the depth of calls -/
def RI (n : Nat) (k : ax_K) (pc : Nat) (ls : ax_L) (I : ax_H) (Q : Int → ax_H → Prop) : Prop := Rn (n, 0, 0, none) k pc ls [] S0 I (fun v S' I' => S' = S0 ∧ ∃ x, v = some (ax_i x) ∧ Q x I')
def RJ (n : Nat) (k : ax_K) (pc : Nat) (ls : ax_L) (I : ax_H) (Q : Int → ax_H → Prop) : Prop := Rn (n, 0, 0, none) k pc ls [] S0 I (fun v S' I' => S' = S0 ∧ ∃ x, v = some (ax_l x) ∧ Q x I')
def RA (n : Nat) (k : ax_K) (pc : Nat) (ls : ax_L) (I : ax_H) (Q : Nat → ax_H → Prop) : Prop := Rn (n, 0, 0, none) k pc ls [] S0 I (fun v S' I' => S' = S0 ∧ ∃ x, v = some (ax_r x) ∧ Q x I')
def RV (n : Nat) (k : ax_K) (pc : Nat) (ls : ax_L) (I : ax_H) (Q : ax_H → Prop) : Prop := Rn (n, 0, 0, none) k pc ls [] S0 I (fun v S' I' => S' = S0 ∧ v = none ∧ Q I')
abbrev cI (n : Nat) (k : ax_K) (as : List ax_V) (I : ax_H) (Q : Int → ax_H → Prop) : Prop := RI n k 0 (ax_pad k.2.2.1 (ax_ent as)) I Q
abbrev cJ (n : Nat) (k : ax_K) (as : List ax_V) (I : ax_H) (Q : Int → ax_H → Prop) : Prop := RJ n k 0 (ax_pad k.2.2.1 (ax_ent as)) I Q
abbrev cA (n : Nat) (k : ax_K) (as : List ax_V) (I : ax_H) (Q : Nat → ax_H → Prop) : Prop := RA n k 0 (ax_pad k.2.2.1 (ax_ent as)) I Q
abbrev cV (n : Nat) (k : ax_K) (as : List ax_V) (I : ax_H) (Q : ax_H → Prop) : Prop := RV n k 0 (ax_pad k.2.2.1 (ax_ent as)) I Q
section
variable {dd : ax_D} {k j : ax_K} {pc idx n d : Nat} {ls : ax_L} {as st st0 : List ax_V} {I : ax_H} {Q : Option ax_V → ax_Sh → ax_H → Prop}
theorem r_cI {Q1 : Int → ax_H → Prop} (how : ax_how k j idx as n S0 (fun _ _ => True) pc) (hst : st0 = as.reverse ++ st) (hd1 : d + 1 ≤ dd.1) (hen : (ax_ent as).length ≤ j.2.2.1) (hrest : ∀ ad : Nat → Nat, ((st.map (ax_tr ad)).map fun v => v.category).sum ≤ 8) (K : cI d j as I Q1)
    (K2 : ∀ r I1, Q1 r I1 → Rn dd k (pc + 3) ls (ax_i r :: st) S0 I1 Q) : Rn dd k pc ls st0 S0 I Q :=
  r_call how hst hd1 hen hrest K (fun v S' I' h => by obtain ⟨rfl, r, rfl, h⟩ := h; exact ⟨rfl, K2 r I' h⟩)
theorem r_cJ {Q1 : Int → ax_H → Prop} (how : ax_how k j idx as n S0 (fun _ _ => True) pc) (hst : st0 = as.reverse ++ st) (hd1 : d + 1 ≤ dd.1) (hen : (ax_ent as).length ≤ j.2.2.1) (hrest : ∀ ad : Nat → Nat, ((st.map (ax_tr ad)).map fun v => v.category).sum ≤ 8) (K : cJ d j as I Q1)
    (K2 : ∀ r I1, Q1 r I1 → Rn dd k (pc + 3) ls (ax_l r :: st) S0 I1 Q) : Rn dd k pc ls st0 S0 I Q :=
  r_call how hst hd1 hen hrest K (fun v S' I' h => by obtain ⟨rfl, r, rfl, h⟩ := h; exact ⟨rfl, K2 r I' h⟩)
theorem r_cA {Q1 : Nat → ax_H → Prop} (how : ax_how k j idx as n S0 (fun _ _ => True) pc) (hst : st0 = as.reverse ++ st) (hd1 : d + 1 ≤ dd.1) (hen : (ax_ent as).length ≤ j.2.2.1) (hrest : ∀ ad : Nat → Nat, ((st.map (ax_tr ad)).map fun v => v.category).sum ≤ 8) (K : cA d j as I Q1)
    (K2 : ∀ r I1, Q1 r I1 → Rn dd k (pc + 3) ls (ax_r r :: st) S0 I1 Q) : Rn dd k pc ls st0 S0 I Q :=
  r_call how hst hd1 hen hrest K (fun v S' I' h => by obtain ⟨rfl, r, rfl, h⟩ := h; exact ⟨rfl, K2 r I' h⟩)
theorem r_cV {Q1 : ax_H → Prop} (how : ax_how k j idx as n S0 (fun _ _ => True) pc) (hst : st0 = as.reverse ++ st) (hd1 : d + 1 ≤ dd.1) (hen : (ax_ent as).length ≤ j.2.2.1) (hrest : ∀ ad : Nat → Nat, ((st.map (ax_tr ad)).map fun v => v.category).sum ≤ 8) (K : cV d j as I Q1)
    (K2 : ∀ I1, Q1 I1 → Rn dd k (pc + 3) ls st S0 I1 Q) : Rn dd k pc ls st0 S0 I Q :=
  r_call how hst hd1 hen hrest K (fun v S' I' h => by obtain ⟨rfl, rfl, h⟩ := h; exact ⟨rfl, K2 I' h⟩)
end
theorem how_V {k j : ax_K} {pc idx n b ci : Nat} {as' : List ax_V} {S : ax_Sh} {q : vw_C} {rs : List (Option Nat)} (hj : ax_J j n) (h1 : Cond.instanceMethod j.1 ∈ ax_tb) (h2 : Cond.selects j.1.cls j.1 j.1 ∈ ax_tb) (hn : as'.length = n) (hS : S[b]? = some (ci, q.2.2, rs)) (hci : ci < 100) (hq : vwCl[ci]? = some q) (hqc : q.1 = j.1.cls) (hw : Cond.methodLink k.1.cls idx j.1 ∈ ax_tb) (hd : decode k.2.1 pc = .ok (.invokevirtual idx, 3)) : ax_how k j idx (ax_r b :: as') n S (fun _ _ => True) pc :=
  ⟨hj, trivial, Or.inl ⟨b, as', ci, q, rs, rfl, hn, hS, hci, hq, hqc, hw, h1, h2, hd⟩⟩
theorem how_S {k j : ax_K} {pc idx n : Nat} {as : List ax_V} {S : ax_Sh} (hj : ax_J j n) (h1 : Cond.static j.1 ∈ ax_tb) (hn : as.length = n) (hw : Cond.methodLink k.1.cls idx j.1 ∈ ax_tb) (hd : decode k.2.1 pc = .ok (.invokestatic idx, 3)) : ax_how k j idx as n S (fun _ _ => True) pc :=
  ⟨hj, trivial, Or.inr (Or.inl ⟨hn, hw, h1, hd⟩)⟩
theorem how_SN {k j : ax_K} {pc idx n : Nat} {as : List ax_V} {S : ax_Sh} {host : String} (hj : ax_J j n) (h1 : Cond.static j.1 ∈ ax_tb) (hn : as.length = n) (hw : Cond.methodLinkNest k.1.cls idx j.1 host ∈ ax_nst) (hd : decode k.2.1 pc = .ok (.invokestatic idx, 3)) : ax_how k j idx as n S (fun _ _ => True) pc :=
  ⟨hj, trivial, Or.inr (Or.inr (Or.inl ⟨hn, ⟨host, hw⟩, h1, hd⟩))⟩
theorem how_I {k j : ax_K} {pc idx n b : Nat} {as' : List ax_V} {S : ax_Sh} (hj : ax_J j n) (h1 : Cond.instanceMethod j.1 ∈ ax_tb) (hn : as'.length = n) (hnm : j.1.name = "<init>") (hr : j.2.2.2 = none) (hw : Cond.methodLink k.1.cls idx j.1 ∈ ax_tb) (hd : decode k.2.1 pc = .ok (.invokespecial idx, 3)) : ax_how k j idx (ax_r b :: as') n S (fun _ _ => True) pc :=
  ⟨hj, trivial, Or.inr (Or.inr (Or.inr (Or.inl ⟨b, as', rfl, hn, hw, h1, hnm, hr, hd⟩)))⟩
theorem how_IN {k j : ax_K} {pc idx n b : Nat} {as' : List ax_V} {S : ax_Sh} {host : String} (hj : ax_J j n) (h1 : Cond.instanceMethod j.1 ∈ ax_tb) (hn : as'.length = n) (hnm : j.1.name = "<init>") (hr : j.2.2.2 = none) (hw : Cond.methodLinkNest k.1.cls idx j.1 host ∈ ax_nst) (hd : decode k.2.1 pc = .ok (.invokespecial idx, 3)) : ax_how k j idx (ax_r b :: as') n S (fun _ _ => True) pc :=
  ⟨hj, trivial, Or.inr (Or.inr (Or.inr (Or.inr ⟨b, as', rfl, hn, ⟨host, hw⟩, h1, hnm, hr, hd⟩)))⟩
/-! the classes of which there are several objects: where their rows lie -/
def isT (a : Nat) : Prop := S0[a]? = some (9, 1, [some (a + 1)]) ∧ S0[a + 1]? = some (100, 18, [])
def isSp (a : Nat) : Prop := S0[a]? = some (8, 2, [some (a + 1), none]) ∧ S0[a + 1]? = some (100, 12, [])
def isPn (a : Nat) : Prop := S0[a]? = some (6, 3, [some (a + 1), some (a + 2), none]) ∧ S0[a + 1]? = some (100, 8, []) ∧ S0[a + 2]? = some (100, 8, [])
def isBy (a : Nat) : Prop := S0[a]? = some (0, 2, [some (a + 1), none]) ∧ S0[a + 1]? = some (100, 60, [])
def isPo (a : Nat) : Prop := S0[a]? = some (7, 2, [some (a + 1), none]) ∧ S0[a + 1]? = some (100, 1300, [])
def isFr (a : Nat) : Prop := S0[a]? = some (3, 2, [some (a + 1), some (a + 3)]) ∧ isPo (a + 1) ∧ isPo (a + 3)
def isAr (a : Nat) : Prop := S0[a]? = some (100, 2500, [])
theorem el_26 {i : Int} (h : 0 ≤ i ∧ i < 3) : ([some 27, some 29, some 31] : List (Option Nat))[i.toNat]? = some (some (27 + 2 * i.toNat)) ∧ isPo (27 + 2 * i.toNat) := by
  have : i = 0 ∨ i = 1 ∨ i = 2 := by omega
  rcases this with rfl | rfl | rfl <;> exact ⟨rfl, rfl, rfl⟩
theorem el_33 {i : Int} (h : 0 ≤ i ∧ i < 3) : ([some 34, some 36, some 38] : List (Option Nat))[i.toNat]? = some (some (34 + 2 * i.toNat)) ∧ isPo (34 + 2 * i.toNat) := by
  have : i = 0 ∨ i = 1 ∨ i = 2 := by omega
  rcases this with rfl | rfl | rfl <;> exact ⟨rfl, rfl, rfl⟩
theorem el_40 {i : Int} (h : 0 ≤ i ∧ i < 3) : ([some 41, some 43, some 45] : List (Option Nat))[i.toNat]? = some (some (41 + 2 * i.toNat)) ∧ isPo (41 + 2 * i.toNat) := by
  have : i = 0 ∨ i = 1 ∨ i = 2 := by omega
  rcases this with rfl | rfl | rfl <;> exact ⟨rfl, rfl, rfl⟩
theorem el_97 {i : Int} (h : 0 ≤ i ∧ i < 6) : ([some 98, some 99, some 100, some 101, some 102, some 103] : List (Option Nat))[i.toNat]? = some (some (98 + i.toNat)) ∧ isAr (98 + i.toNat) := by
  have : i = 0 ∨ i = 1 ∨ i = 2 ∨ i = 3 ∨ i = 4 ∨ i = 5 := by omega
  rcases this with rfl | rfl | rfl | rfl | rfl | rfl <;> exact ⟨rfl, rfl⟩
theorem el_117 {i : Int} (h : 0 ≤ i ∧ i < 4) : ([some 118, some 119, some 120, some 121] : List (Option Nat))[i.toNat]? = some (some (118 + i.toNat)) ∧ S0[118 + i.toNat]? = some (100, 12, []) := by
  have : i = 0 ∨ i = 1 ∨ i = 2 ∨ i = 3 := by omega
  rcases this with rfl | rfl | rfl | rfl <;> exact ⟨rfl, rfl⟩
theorem ax_mod31 (x : Int) : ax_R (x % 31) := ⟨by omega, by omega⟩
