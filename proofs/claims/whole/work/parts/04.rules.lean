theorem ax_to {n : Int} (h : ax_R n) : (Int32.ofInt n).toInt = n := by
  rw [Int32.toInt_ofInt]
  have : (Int32.size : Int) = 4294967296 := by decide
  unfold Int.bmod
  obtain ⟨h1, h2⟩ := h
  have e : Int32.size = 4294967296 := by decide
  simp only [e]
  split <;> omega
theorem ax_to8 {n : Int} (h : ax_R8 n) : (Int64.ofInt n).toInt = n := by
  rw [Int64.toInt_ofInt]
  unfold Int.bmod
  obtain ⟨h1, h2⟩ := h
  have e : Int64.size = 18446744073709551616 := by decide
  simp only [e]
  split <;> omega
theorem ax_lt {x y : Int} (hx : ax_R x) (hy : ax_R y) : Int32.ofInt x < Int32.ofInt y ↔ x < y := by
  rw [Int32.lt_iff_toInt_lt, ax_to hx, ax_to hy]
theorem ax_lei {x y : Int} (hx : ax_R x) (hy : ax_R y) : Int32.ofInt x ≤ Int32.ofInt y ↔ x ≤ y := by
  rw [Int32.le_iff_toInt_le, ax_to hx, ax_to hy]
theorem ax_eq {x y : Int} (hx : ax_R x) (hy : ax_R y) : Int32.ofInt x = Int32.ofInt y ↔ x = y := by
  rw [← Int32.toInt_inj, ax_to hx, ax_to hy]
theorem ax_R0 : ax_R 0 := by decide
theorem ax_nat {n : Int} (h0 : 0 ≤ n) (h1 : n < 2147483648) : (Int32.ofInt n).toNatClampNeg = n.toNat := by
  have : (Int32.ofInt n).toInt = n := ax_to ⟨by omega, h1⟩
  show (Int32.ofInt n).toInt.toNat = n.toNat
  rw [this]
theorem ax_in {n : Int} {N : Nat} (h0 : 0 ≤ n) (h1 : n < (N : Int)) (hN : N < 2147483648) : vp_in (Int32.ofInt n) N := by
  unfold vp_in
  rw [ax_nat h0 (by omega)]
  intro h
  rcases h with h | h
  · have := (ax_lt (x := n) (y := 0) ⟨by omega, by omega⟩ ax_R0).mp h
    omega
  · omega
section
variable {dd : ax_D} {k : ax_K} {pc : Nat} {ls : ax_L} {st : List ax_V} {S : ax_Sh} {I : ax_H} {Q : Option ax_V → ax_Sh → ax_H → Prop}
theorem r_iconst {n : Int} (hd : decode k.2.1 pc = .ok (.iconst n, 1)) (K : Rn dd k (pc + 1) ls (ax_i n :: st) S I Q) : Rn dd k pc ls st S I Q :=
  ax_pure K fun _ _ _ _ _ _ _ _ _ _ _ _ _ _ _ _ _ _ _ ls' C _ hl _ _ w => lv_iconst C.1 C.2.1 hd rfl (w ls' hl)
theorem r_bipush {n v : Int} (hd : decode k.2.1 pc = .ok (.bipush n, 2)) (hv : (Int8.ofInt n).toInt32 = Int32.ofInt v) (K : Rn dd k (pc + 2) ls (ax_i v :: st) S I Q) : Rn dd k pc ls st S I Q :=
  ax_pure K fun _ _ _ _ _ _ _ _ _ _ _ _ _ _ _ _ _ _ _ ls' C _ hl _ _ w => lv_bipush C.1 C.2.1 hd hv (w ls' hl)
theorem r_sipush {n v : Int} (hd : decode k.2.1 pc = .ok (.sipush n, 3)) (hv : (Int16.ofInt n).toInt32 = Int32.ofInt v) (K : Rn dd k (pc + 3) ls (ax_i v :: st) S I Q) : Rn dd k pc ls st S I Q :=
  ax_pure K fun _ _ _ _ _ _ _ _ _ _ _ _ _ _ _ _ _ _ _ ls' C _ hl _ _ w => lv_sipush C.1 C.2.1 hd hv (w ls' hl)
theorem r_lconst {n : Fin 2} {v : Int} (hd : decode k.2.1 pc = .ok (.lconst n, 1)) (hv : Int64.ofNat (n : Nat) = Int64.ofInt v) (K : Rn dd k (pc + 1) ls (ax_l v :: st) S I Q) : Rn dd k pc ls st S I Q :=
  ax_pure K fun _ _ _ _ _ _ _ _ _ _ _ _ _ _ _ _ _ _ _ ls' C _ hl _ _ w => lv_lconst C.1 C.2.1 hd hv (w ls' hl)
theorem r_iload_n {i : Fin 4} {x : Int} (hd : decode k.2.1 pc = .ok (.iload_n i, 1)) (hv : ls[(i : Nat)]? = some (some (ax_i x))) (K : Rn dd k (pc + 1) ls (ax_i x :: st) S I Q) : Rn dd k pc ls st S I Q :=
  ax_pure K fun _ _ _ _ _ _ _ _ _ _ _ _ _ _ _ _ _ _ _ ls' C _ hl _ _ w => lv_iload_n C.1 C.2.1 hd rfl (ax_lat hl hv) (w ls' hl)
theorem r_iload {i : Nat} {x : Int} (hd : decode k.2.1 pc = .ok (.iload i, 2)) (hv : ls[i]? = some (some (ax_i x))) (K : Rn dd k (pc + 2) ls (ax_i x :: st) S I Q) : Rn dd k pc ls st S I Q :=
  ax_pure K fun _ _ _ _ _ _ _ _ _ _ _ _ _ _ _ _ _ _ _ ls' C _ hl _ _ w => lv_iload C.1 C.2.1 hd (ax_lat hl hv) (w ls' hl)
theorem r_lload_n {i : Fin 4} {x : Int} (hd : decode k.2.1 pc = .ok (.lload_n i, 1)) (hv : ls[(i : Nat)]? = some (some (ax_l x))) (K : Rn dd k (pc + 1) ls (ax_l x :: st) S I Q) : Rn dd k pc ls st S I Q :=
  ax_pure K fun _ _ _ _ _ _ _ _ _ _ _ _ _ _ _ _ _ _ _ ls' C _ hl _ _ w => lv_lload_n C.1 C.2.1 hd rfl (ax_lat hl hv) (w ls' hl)
theorem r_lload {i : Nat} {x : Int} (hd : decode k.2.1 pc = .ok (.lload i, 2)) (hv : ls[i]? = some (some (ax_l x))) (K : Rn dd k (pc + 2) ls (ax_l x :: st) S I Q) : Rn dd k pc ls st S I Q :=
  ax_pure K fun _ _ _ _ _ _ _ _ _ _ _ _ _ _ _ _ _ _ _ ls' C _ hl _ _ w => lv_lload C.1 C.2.1 hd (ax_lat hl hv) (w ls' hl)
theorem r_aload_n {i : Fin 4} {x : Nat} (hd : decode k.2.1 pc = .ok (.aload_n i, 1)) (hv : ls[(i : Nat)]? = some (some (ax_r x))) (K : Rn dd k (pc + 1) ls (ax_r x :: st) S I Q) : Rn dd k pc ls st S I Q :=
  ax_pure K fun _ _ _ _ _ _ _ _ _ _ _ _ _ _ _ _ _ _ _ ls' C _ hl _ _ w => lv_aload_n C.1 C.2.1 hd rfl (ax_lat hl hv) (w ls' hl)
theorem r_aload {i : Nat} {x : Nat} (hd : decode k.2.1 pc = .ok (.aload i, 2)) (hv : ls[i]? = some (some (ax_r x))) (K : Rn dd k (pc + 2) ls (ax_r x :: st) S I Q) : Rn dd k pc ls st S I Q :=
  ax_pure K fun _ _ _ _ _ _ _ _ _ _ _ _ _ _ _ _ _ _ _ ls' C _ hl _ _ w => lv_aload C.1 C.2.1 hd (ax_lat hl hv) (w ls' hl)
theorem r_istore_n {i : Fin 4} {x : Int} (hd : decode k.2.1 pc = .ok (.istore_n i, 1)) (hn : (i : Nat) < k.2.2.1) (ho : ax_ok1 ls i = true) (K : Rn dd k (pc + 1) (ls.set i (some (ax_i x))) st S I Q) : Rn dd k pc ls (ax_i x :: st) S I Q :=
  ax_pure K fun _ _ _ _ _ _ _ _ _ _ _ _ _ _ _ _ _ _ _ ls' C _ hl _ _ w => lv_istore_n C.1 C.2.1 hd rfl hl hn rfl fun l2 h2 => w l2 (ax_lsub h2 (ax_set1 ho))
theorem r_istore {i : Nat} {x : Int} (hd : decode k.2.1 pc = .ok (.istore i, 2)) (hn : i < k.2.2.1) (ho : ax_ok1 ls i = true) (K : Rn dd k (pc + 2) (ls.set i (some (ax_i x))) st S I Q) : Rn dd k pc ls (ax_i x :: st) S I Q :=
  ax_pure K fun _ _ _ _ _ _ _ _ _ _ _ _ _ _ _ _ _ _ _ ls' C _ hl _ _ w => lv_istore C.1 C.2.1 hd hl hn rfl fun l2 h2 => w l2 (ax_lsub h2 (ax_set1 ho))
theorem r_astore_n {i : Fin 4} {x : Nat} (hd : decode k.2.1 pc = .ok (.astore_n i, 1)) (hn : (i : Nat) < k.2.2.1) (ho : ax_ok1 ls i = true) (K : Rn dd k (pc + 1) (ls.set i (some (ax_r x))) st S I Q) : Rn dd k pc ls (ax_r x :: st) S I Q :=
  ax_pure K fun _ _ _ _ _ _ _ _ _ _ _ _ _ _ _ _ _ _ _ ls' C _ hl _ _ w => lv_astore_n C.1 C.2.1 hd rfl hl hn rfl fun l2 h2 => w l2 (ax_lsub h2 (ax_set1 ho))
theorem r_astore {i : Nat} {x : Nat} (hd : decode k.2.1 pc = .ok (.astore i, 2)) (hn : i < k.2.2.1) (ho : ax_ok1 ls i = true) (K : Rn dd k (pc + 2) (ls.set i (some (ax_r x))) st S I Q) : Rn dd k pc ls (ax_r x :: st) S I Q :=
  ax_pure K fun _ _ _ _ _ _ _ _ _ _ _ _ _ _ _ _ _ _ _ ls' C _ hl _ _ w => lv_astore C.1 C.2.1 hd hl hn rfl fun l2 h2 => w l2 (ax_lsub h2 (ax_set1 ho))
theorem r_lstore_n {i : Fin 4} {x : Int} (hd : decode k.2.1 pc = .ok (.lstore_n i, 1)) (hn : (i : Nat) + 1 < k.2.2.1) (ho : ax_ok2 ls i = true) (K : Rn dd k (pc + 1) ((ls.set i (some (ax_l x))).set (i + 1) none) st S I Q) : Rn dd k pc ls (ax_l x :: st) S I Q :=
  ax_pure K fun _ _ _ _ _ _ _ _ _ _ _ _ _ _ _ _ _ _ _ ls' C _ hl _ _ w => lv_lstore_n C.1 C.2.1 hd rfl hl hn rfl fun l2 h2 => w l2 (ax_lsub h2 (ax_set2 ho))
theorem r_lstore {i : Nat} {x : Int} (hd : decode k.2.1 pc = .ok (.lstore i, 2)) (hn : i + 1 < k.2.2.1) (ho : ax_ok2 ls i = true) (K : Rn dd k (pc + 2) ((ls.set i (some (ax_l x))).set (i + 1) none) st S I Q) : Rn dd k pc ls (ax_l x :: st) S I Q :=
  ax_pure K fun _ _ _ _ _ _ _ _ _ _ _ _ _ _ _ _ _ _ _ ls' C _ hl _ _ w => lv_lstore C.1 C.2.1 hd hl hn rfl fun l2 h2 => w l2 (ax_lsub h2 (ax_set2 ho))
theorem ax_lv_at {ad : Nat → Nat} {ls : ax_L} {i : Nat} {v : ax_V} (hv : ls[i]? = some (some v)) : ∃ q : Nat, (ax_lv ad 0 ls)[q]? = some (i, ax_tr ad v) := by
  have := ax_lv_get (ad := ad) ls 0 i v hv
  rw [Nat.zero_add] at this
  exact List.mem_iff_getElem?.mp this
theorem r_iinc {i : Nat} {n x : Int} (hd : decode k.2.1 pc = .ok (.iinc i n, 3)) (hn : i < k.2.2.1) (hv : ls[i]? = some (some (ax_i x))) (ho : ax_ok1 ls i = true) (K : Rn dd k (pc + 3) (ls.set i (some (ax_i (x + n)))) st S I Q) : Rn dd k pc ls st S I Q :=
  ax_pure K fun _ _ _ _ _ _ _ _ _ _ _ _ _ _ _ _ _ _ ad ls' C _ hl _ _ w => by
    obtain ⟨q, hq⟩ := ax_lv_at (ad := ad) hv
    exact lv_iinc C.1 C.2.1 hd hl hq (by rw [← Int32.ofInt_add]) hn rfl fun l2 h2 => w l2 (ax_lsub h2 (ax_set1 ho))
theorem r_iadd {x y : Int} (hd : decode k.2.1 pc = .ok (.iadd, 1)) (K : Rn dd k (pc + 1) ls (ax_i (x + y) :: st) S I Q) : Rn dd k pc ls (ax_i y :: ax_i x :: st) S I Q :=
  ax_pure K fun _ _ _ _ _ _ _ _ _ _ _ _ _ _ _ _ _ _ _ ls' C _ hl _ _ w => lv_iadd C.1 C.2.1 hd (by rw [← Int32.ofInt_add]; exact w ls' hl)
theorem r_isub {x y : Int} (hd : decode k.2.1 pc = .ok (.isub, 1)) (K : Rn dd k (pc + 1) ls (ax_i (x - y) :: st) S I Q) : Rn dd k pc ls (ax_i y :: ax_i x :: st) S I Q :=
  ax_pure K fun _ _ _ _ _ _ _ _ _ _ _ _ _ _ _ _ _ _ _ ls' C _ hl _ _ w => lv_isub C.1 C.2.1 hd (by rw [← Int32.ofInt_sub]; exact w ls' hl)
theorem r_imul {x y : Int} (hd : decode k.2.1 pc = .ok (.imul, 1)) (K : Rn dd k (pc + 1) ls (ax_i (x * y) :: st) S I Q) : Rn dd k pc ls (ax_i y :: ax_i x :: st) S I Q :=
  ax_pure K fun _ _ _ _ _ _ _ _ _ _ _ _ _ _ _ _ _ _ _ ls' C _ hl _ _ w => lv_imul C.1 C.2.1 hd (by rw [← Int32.ofInt_mul]; exact w ls' hl)
theorem r_ineg {x : Int} (hd : decode k.2.1 pc = .ok (.ineg, 1)) (K : Rn dd k (pc + 1) ls (ax_i (-x) :: st) S I Q) : Rn dd k pc ls (ax_i x :: st) S I Q :=
  ax_pure K fun _ _ _ _ _ _ _ _ _ _ _ _ _ _ _ _ _ _ _ ls' C _ hl _ _ w => lv_ineg C.1 C.2.1 hd (by rw [← Int32.ofInt_neg]; exact w ls' hl)
theorem ax_div {x y : Int} (hx : ax_R x) (hy : ax_R y) : Int32.ofInt x / Int32.ofInt y = Int32.ofInt (x.tdiv y) := by
  rw [← Int32.toInt_inj, Int32.toInt_div, ax_to hx, ax_to hy, Int32.toInt_ofInt]
theorem r_idiv {x y : Int} (hd : decode k.2.1 pc = .ok (.idiv, 1)) (hx : ax_R x) (hy : ax_R y) (hne : y ≠ 0) (K : Rn dd k (pc + 1) ls (ax_i (x.tdiv y) :: st) S I Q) : Rn dd k pc ls (ax_i y :: ax_i x :: st) S I Q :=
  ax_pure K fun _ _ _ _ _ _ _ _ _ _ _ _ _ _ _ _ _ _ _ ls' C _ hl _ _ w => lv_idiv C.1 C.2.1 hd (fun h => hne ((ax_eq hy ax_R0).mp h)) (by rw [ax_div hx hy]; exact w ls' hl)
theorem r_irem {x y : Int} (hd : decode k.2.1 pc = .ok (.irem, 1)) (hx : ax_R x) (hy : ax_R y) (hne : y ≠ 0) (K : Rn dd k (pc + 1) ls (ax_i (x.tmod y) :: st) S I Q) : Rn dd k pc ls (ax_i y :: ax_i x :: st) S I Q :=
  ax_pure K fun _ _ _ _ _ _ _ _ _ _ _ _ _ _ _ _ _ _ _ ls' C _ hl _ _ w => lv_irem C.1 C.2.1 hd (fun h => hne ((ax_eq hy ax_R0).mp h)) (by
    rw [ax_div hx hy, ← Int32.ofInt_mul, ← Int32.ofInt_sub, show x - x.tdiv y * y = x.tmod y by have := Int.tmod_add_mul_tdiv x y; rw [Int.mul_comm] at this; omega]
    exact w ls' hl)
theorem r_idivp {x y : Int} (hd : decode k.2.1 pc = .ok (.idiv, 1)) (hx : 0 ≤ x ∧ x < 2147483648) (hy : 0 < y ∧ y < 2147483648) (K : Rn dd k (pc + 1) ls (ax_i (x / y) :: st) S I Q) : Rn dd k pc ls (ax_i y :: ax_i x :: st) S I Q :=
  r_idiv hd ⟨by omega, hx.2⟩ ⟨by omega, hy.2⟩ (by omega) (by rw [Int.tdiv_eq_ediv_of_nonneg hx.1]; exact K)
theorem r_iremp {x y : Int} (hd : decode k.2.1 pc = .ok (.irem, 1)) (hx : 0 ≤ x ∧ x < 2147483648) (hy : 0 < y ∧ y < 2147483648) (K : Rn dd k (pc + 1) ls (ax_i (x % y) :: st) S I Q) : Rn dd k pc ls (ax_i y :: ax_i x :: st) S I Q :=
  r_irem hd ⟨by omega, hx.2⟩ ⟨by omega, hy.2⟩ (by omega) (by rw [Int.tmod_eq_emod_of_nonneg hx.1]; exact K)
theorem r_dup {v : ax_V} (hd : decode k.2.1 pc = .ok (.dup, 1)) (hv : ∀ ad : Nat → Nat, (ax_tr ad v).category = 1) (K : Rn dd k (pc + 1) ls (v :: v :: st) S I Q) : Rn dd k pc ls (v :: st) S I Q :=
  ax_pure K fun _ _ _ _ _ _ _ _ _ _ _ _ _ _ _ _ _ _ ad ls' C _ hl _ _ w => lv_dup C.1 C.2.1 hd (hv ad) (w ls' hl)
theorem r_dup2 {v u : ax_V} (hd : decode k.2.1 pc = .ok (.dup2, 1)) (hv : ∀ ad : Nat → Nat, (ax_tr ad v).category = 1) (hu : ∀ ad : Nat → Nat, (ax_tr ad u).category = 1) (K : Rn dd k (pc + 1) ls (v :: u :: v :: u :: st) S I Q) : Rn dd k pc ls (v :: u :: st) S I Q :=
  ax_pure K fun _ _ _ _ _ _ _ _ _ _ _ _ _ _ _ _ _ _ ad ls' C _ hl _ _ w => lv_dup2_11 C.1 C.2.1 hd (hv ad) (hu ad) (w ls' hl)
theorem r_goto {off : Int} {tgt : Nat} (hd : decode k.2.1 pc = .ok (.goto off, 3)) (ht : (pc : Int) + off = (tgt : Int)) (K : Rn dd k tgt ls st S I Q) : Rn dd k pc ls st S I Q :=
  ax_pure K fun _ _ _ _ _ _ _ _ _ _ _ _ _ _ _ _ _ _ _ ls' C _ hl _ _ w => lv_goto C.1 C.2.1 hd ht (w ls' hl)
end
section
variable {dd : ax_D} {k : ax_K} {pc : Nat} {ls : ax_L} {st : List ax_V} {S : ax_Sh} {I : ax_H} {Q : Option ax_V → ax_Sh → ax_H → Prop}
theorem r_if_eq {x : Int} {off : Int} {tgt : Nat} (hd : decode k.2.1 pc = .ok (.ifCond .eq off, 3)) (ht : (pc : Int) + off = (tgt : Int)) (hx : ax_R x) (kt : x = 0 → Rn dd k tgt ls st S I Q) (kf : ¬ x = 0 → Rn dd k (pc + 3) ls st S I Q) : Rn dd k pc ls (ax_i x :: st) S I Q := by
  by_cases h : x = 0
  · exact ax_pure (kt h) fun _ _ _ _ _ _ _ _ _ _ _ _ _ _ _ _ _ _ _ ls' C _ hl _ _ w => lv_if_eq C.1 C.2.1 hd ht (fun _ => w ls' hl) (fun h2 => absurd h (fun h => h2 ((ax_eq hx ax_R0).mpr h)))
  · exact ax_pure (kf h) fun _ _ _ _ _ _ _ _ _ _ _ _ _ _ _ _ _ _ _ ls' C _ hl _ _ w => lv_if_eq C.1 C.2.1 hd ht (fun h2 => absurd ((ax_eq hx ax_R0).mp h2) h) (fun _ => w ls' hl)
theorem r_icmp_eq {x y : Int} {off : Int} {tgt : Nat} (hd : decode k.2.1 pc = .ok (.if_icmp .eq off, 3)) (ht : (pc : Int) + off = (tgt : Int)) (hx : ax_R x) (hy : ax_R y) (kt : x = y → Rn dd k tgt ls st S I Q) (kf : ¬ x = y → Rn dd k (pc + 3) ls st S I Q) : Rn dd k pc ls (ax_i y :: ax_i x :: st) S I Q := by
  by_cases h : x = y
  · exact ax_pure (kt h) fun _ _ _ _ _ _ _ _ _ _ _ _ _ _ _ _ _ _ _ ls' C _ hl _ _ w => lv_icmp_eq C.1 C.2.1 hd ht (fun _ => w ls' hl) (fun h2 => absurd h (fun h => h2 ((ax_eq hx hy).mpr h)))
  · exact ax_pure (kf h) fun _ _ _ _ _ _ _ _ _ _ _ _ _ _ _ _ _ _ _ ls' C _ hl _ _ w => lv_icmp_eq C.1 C.2.1 hd ht (fun h2 => absurd ((ax_eq hx hy).mp h2) h) (fun _ => w ls' hl)
theorem r_if_ne {x : Int} {off : Int} {tgt : Nat} (hd : decode k.2.1 pc = .ok (.ifCond .ne off, 3)) (ht : (pc : Int) + off = (tgt : Int)) (hx : ax_R x) (kt : x ≠ 0 → Rn dd k tgt ls st S I Q) (kf : x = 0 → Rn dd k (pc + 3) ls st S I Q) : Rn dd k pc ls (ax_i x :: st) S I Q := by
  by_cases h : x = 0
  · exact ax_pure (kf h) fun _ _ _ _ _ _ _ _ _ _ _ _ _ _ _ _ _ _ _ ls' C _ hl _ _ w => lv_if_ne C.1 C.2.1 hd ht (fun h2 => absurd ((ax_eq hx ax_R0).mpr h) h2) (fun _ => w ls' hl)
  · exact ax_pure (kt h) fun _ _ _ _ _ _ _ _ _ _ _ _ _ _ _ _ _ _ _ ls' C _ hl _ _ w => lv_if_ne C.1 C.2.1 hd ht (fun _ => w ls' hl) (fun h2 => absurd ((ax_eq hx ax_R0).mp h2) h)
theorem r_icmp_ne {x y : Int} {off : Int} {tgt : Nat} (hd : decode k.2.1 pc = .ok (.if_icmp .ne off, 3)) (ht : (pc : Int) + off = (tgt : Int)) (hx : ax_R x) (hy : ax_R y) (kt : x ≠ y → Rn dd k tgt ls st S I Q) (kf : x = y → Rn dd k (pc + 3) ls st S I Q) : Rn dd k pc ls (ax_i y :: ax_i x :: st) S I Q := by
  by_cases h : x = y
  · exact ax_pure (kf h) fun _ _ _ _ _ _ _ _ _ _ _ _ _ _ _ _ _ _ _ ls' C _ hl _ _ w => lv_icmp_ne C.1 C.2.1 hd ht (fun h2 => absurd ((ax_eq hx hy).mpr h) h2) (fun _ => w ls' hl)
  · exact ax_pure (kt h) fun _ _ _ _ _ _ _ _ _ _ _ _ _ _ _ _ _ _ _ ls' C _ hl _ _ w => lv_icmp_ne C.1 C.2.1 hd ht (fun _ => w ls' hl) (fun h2 => absurd ((ax_eq hx hy).mp h2) h)
theorem r_if_lt {x : Int} {off : Int} {tgt : Nat} (hd : decode k.2.1 pc = .ok (.ifCond .lt off, 3)) (ht : (pc : Int) + off = (tgt : Int)) (hx : ax_R x) (kt : x < 0 → Rn dd k tgt ls st S I Q) (kf : ¬ x < 0 → Rn dd k (pc + 3) ls st S I Q) : Rn dd k pc ls (ax_i x :: st) S I Q := by
  by_cases h : x < 0
  · exact ax_pure (kt h) fun _ _ _ _ _ _ _ _ _ _ _ _ _ _ _ _ _ _ _ ls' C _ hl _ _ w => lv_if_lt C.1 C.2.1 hd ht (fun _ => w ls' hl) (fun h2 => absurd h (fun h => h2 ((ax_lt hx ax_R0).mpr h)))
  · exact ax_pure (kf h) fun _ _ _ _ _ _ _ _ _ _ _ _ _ _ _ _ _ _ _ ls' C _ hl _ _ w => lv_if_lt C.1 C.2.1 hd ht (fun h2 => absurd ((ax_lt hx ax_R0).mp h2) h) (fun _ => w ls' hl)
theorem r_icmp_lt {x y : Int} {off : Int} {tgt : Nat} (hd : decode k.2.1 pc = .ok (.if_icmp .lt off, 3)) (ht : (pc : Int) + off = (tgt : Int)) (hx : ax_R x) (hy : ax_R y) (kt : x < y → Rn dd k tgt ls st S I Q) (kf : ¬ x < y → Rn dd k (pc + 3) ls st S I Q) : Rn dd k pc ls (ax_i y :: ax_i x :: st) S I Q := by
  by_cases h : x < y
  · exact ax_pure (kt h) fun _ _ _ _ _ _ _ _ _ _ _ _ _ _ _ _ _ _ _ ls' C _ hl _ _ w => lv_icmp_lt C.1 C.2.1 hd ht (fun _ => w ls' hl) (fun h2 => absurd h (fun h => h2 ((ax_lt hx hy).mpr h)))
  · exact ax_pure (kf h) fun _ _ _ _ _ _ _ _ _ _ _ _ _ _ _ _ _ _ _ ls' C _ hl _ _ w => lv_icmp_lt C.1 C.2.1 hd ht (fun h2 => absurd ((ax_lt hx hy).mp h2) h) (fun _ => w ls' hl)
theorem r_if_ge {x : Int} {off : Int} {tgt : Nat} (hd : decode k.2.1 pc = .ok (.ifCond .ge off, 3)) (ht : (pc : Int) + off = (tgt : Int)) (hx : ax_R x) (kt : 0 ≤ x → Rn dd k tgt ls st S I Q) (kf : ¬ 0 ≤ x → Rn dd k (pc + 3) ls st S I Q) : Rn dd k pc ls (ax_i x :: st) S I Q := by
  by_cases h : 0 ≤ x
  · exact ax_pure (kt h) fun _ _ _ _ _ _ _ _ _ _ _ _ _ _ _ _ _ _ _ ls' C _ hl _ _ w => lv_if_ge C.1 C.2.1 hd ht (fun _ => w ls' hl) (fun h2 => absurd h (fun h => h2 ((ax_lei ax_R0 hx).mpr h)))
  · exact ax_pure (kf h) fun _ _ _ _ _ _ _ _ _ _ _ _ _ _ _ _ _ _ _ ls' C _ hl _ _ w => lv_if_ge C.1 C.2.1 hd ht (fun h2 => absurd ((ax_lei ax_R0 hx).mp h2) h) (fun _ => w ls' hl)
theorem r_icmp_ge {x y : Int} {off : Int} {tgt : Nat} (hd : decode k.2.1 pc = .ok (.if_icmp .ge off, 3)) (ht : (pc : Int) + off = (tgt : Int)) (hx : ax_R x) (hy : ax_R y) (kt : y ≤ x → Rn dd k tgt ls st S I Q) (kf : ¬ y ≤ x → Rn dd k (pc + 3) ls st S I Q) : Rn dd k pc ls (ax_i y :: ax_i x :: st) S I Q := by
  by_cases h : y ≤ x
  · exact ax_pure (kt h) fun _ _ _ _ _ _ _ _ _ _ _ _ _ _ _ _ _ _ _ ls' C _ hl _ _ w => lv_icmp_ge C.1 C.2.1 hd ht (fun _ => w ls' hl) (fun h2 => absurd h (fun h => h2 ((ax_lei hy hx).mpr h)))
  · exact ax_pure (kf h) fun _ _ _ _ _ _ _ _ _ _ _ _ _ _ _ _ _ _ _ ls' C _ hl _ _ w => lv_icmp_ge C.1 C.2.1 hd ht (fun h2 => absurd ((ax_lei hy hx).mp h2) h) (fun _ => w ls' hl)
theorem r_if_gt {x : Int} {off : Int} {tgt : Nat} (hd : decode k.2.1 pc = .ok (.ifCond .gt off, 3)) (ht : (pc : Int) + off = (tgt : Int)) (hx : ax_R x) (kt : 0 < x → Rn dd k tgt ls st S I Q) (kf : ¬ 0 < x → Rn dd k (pc + 3) ls st S I Q) : Rn dd k pc ls (ax_i x :: st) S I Q := by
  by_cases h : 0 < x
  · exact ax_pure (kt h) fun _ _ _ _ _ _ _ _ _ _ _ _ _ _ _ _ _ _ _ ls' C _ hl _ _ w => lv_if_gt C.1 C.2.1 hd ht (fun _ => w ls' hl) (fun h2 => absurd h (fun h => h2 ((ax_lt ax_R0 hx).mpr h)))
  · exact ax_pure (kf h) fun _ _ _ _ _ _ _ _ _ _ _ _ _ _ _ _ _ _ _ ls' C _ hl _ _ w => lv_if_gt C.1 C.2.1 hd ht (fun h2 => absurd ((ax_lt ax_R0 hx).mp h2) h) (fun _ => w ls' hl)
theorem r_icmp_gt {x y : Int} {off : Int} {tgt : Nat} (hd : decode k.2.1 pc = .ok (.if_icmp .gt off, 3)) (ht : (pc : Int) + off = (tgt : Int)) (hx : ax_R x) (hy : ax_R y) (kt : y < x → Rn dd k tgt ls st S I Q) (kf : ¬ y < x → Rn dd k (pc + 3) ls st S I Q) : Rn dd k pc ls (ax_i y :: ax_i x :: st) S I Q := by
  by_cases h : y < x
  · exact ax_pure (kt h) fun _ _ _ _ _ _ _ _ _ _ _ _ _ _ _ _ _ _ _ ls' C _ hl _ _ w => lv_icmp_gt C.1 C.2.1 hd ht (fun _ => w ls' hl) (fun h2 => absurd h (fun h => h2 ((ax_lt hy hx).mpr h)))
  · exact ax_pure (kf h) fun _ _ _ _ _ _ _ _ _ _ _ _ _ _ _ _ _ _ _ ls' C _ hl _ _ w => lv_icmp_gt C.1 C.2.1 hd ht (fun h2 => absurd ((ax_lt hy hx).mp h2) h) (fun _ => w ls' hl)
theorem r_if_le {x : Int} {off : Int} {tgt : Nat} (hd : decode k.2.1 pc = .ok (.ifCond .le off, 3)) (ht : (pc : Int) + off = (tgt : Int)) (hx : ax_R x) (kt : x ≤ 0 → Rn dd k tgt ls st S I Q) (kf : ¬ x ≤ 0 → Rn dd k (pc + 3) ls st S I Q) : Rn dd k pc ls (ax_i x :: st) S I Q := by
  by_cases h : x ≤ 0
  · exact ax_pure (kt h) fun _ _ _ _ _ _ _ _ _ _ _ _ _ _ _ _ _ _ _ ls' C _ hl _ _ w => lv_if_le C.1 C.2.1 hd ht (fun _ => w ls' hl) (fun h2 => absurd h (fun h => h2 ((ax_lei hx ax_R0).mpr h)))
  · exact ax_pure (kf h) fun _ _ _ _ _ _ _ _ _ _ _ _ _ _ _ _ _ _ _ ls' C _ hl _ _ w => lv_if_le C.1 C.2.1 hd ht (fun h2 => absurd ((ax_lei hx ax_R0).mp h2) h) (fun _ => w ls' hl)
theorem r_icmp_le {x y : Int} {off : Int} {tgt : Nat} (hd : decode k.2.1 pc = .ok (.if_icmp .le off, 3)) (ht : (pc : Int) + off = (tgt : Int)) (hx : ax_R x) (hy : ax_R y) (kt : x ≤ y → Rn dd k tgt ls st S I Q) (kf : ¬ x ≤ y → Rn dd k (pc + 3) ls st S I Q) : Rn dd k pc ls (ax_i y :: ax_i x :: st) S I Q := by
  by_cases h : x ≤ y
  · exact ax_pure (kt h) fun _ _ _ _ _ _ _ _ _ _ _ _ _ _ _ _ _ _ _ ls' C _ hl _ _ w => lv_icmp_le C.1 C.2.1 hd ht (fun _ => w ls' hl) (fun h2 => absurd h (fun h => h2 ((ax_lei hx hy).mpr h)))
  · exact ax_pure (kf h) fun _ _ _ _ _ _ _ _ _ _ _ _ _ _ _ _ _ _ _ ls' C _ hl _ _ w => lv_icmp_le C.1 C.2.1 hd ht (fun h2 => absurd ((ax_lei hx hy).mp h2) h) (fun _ => w ls' hl)
end
