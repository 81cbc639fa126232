/-! polynomials, purely: functions from places to numbers -/
def szf (P : Int → Int) : Nat → Int
  | 0 => 0
  | k + 1 => if P (k : Int) = 0 then szf P k else (k : Int) + 1
def szP (P : Int → Int) : Int := szf P 1300
def gP (P : Int → Int) : Prop := (∀ i, nm (P i)) ∧ ∀ i, (i < 0 ∨ 1300 ≤ i) → P i = 0
theorem szf_bd (P : Int → Int) : ∀ n, 0 ≤ szf P n ∧ szf P n ≤ n
  | 0 => by show (0 : Int) ≤ 0 ∧ (0 : Int) ≤ 0; omega
  | n + 1 => by
    have := szf_bd P n
    unfold szf
    split <;> omega
theorem szf_ge (P : Int → Int) : ∀ (n : Nat) (i : Int), szf P n ≤ i → i < n → P i = 0
  | 0, i, h1, h2 => by have : (0 : Int) ≤ i := h1; omega
  | n + 1, i, h1, h2 => by
    unfold szf at h1
    by_cases c : P (n : Int) = 0
    · rw [if_pos c] at h1
      by_cases e : i = n
      · rw [e]; exact c
      · exact szf_ge P n i h1 (by omega)
    · rw [if_neg c] at h1; omega
theorem szf_top (P : Int → Int) : ∀ n : Nat, 0 < szf P n → P (szf P n - 1) ≠ 0
  | 0, h => absurd h (by show ¬ (0 : Int) < 0; omega)
  | n + 1, h => by
    unfold szf at h ⊢
    by_cases c : P (n : Int) = 0
    · rw [if_pos c] at h ⊢; exact szf_top P n h
    · rw [if_neg c, show (n : Int) + 1 - 1 = n by omega]; exact c
theorem sz_bd (P : Int → Int) : 0 ≤ szP P ∧ szP P ≤ 1300 := szf_bd P 1300
theorem sz_ge {P : Int → Int} (h : gP P) {i : Int} (hi : szP P ≤ i) : P i = 0 := by
  rcases Int.lt_or_le i 1300 with q | q
  · exact szf_ge P 1300 i hi q
  · exact h.2 i (Or.inr q)
theorem sz_top {P : Int → Int} (h : 0 < szP P) : P (szP P - 1) ≠ 0 := szf_top P 1300 h
theorem sz_le {P : Int → Int} {N : Int} (hN : 0 ≤ N) (h : ∀ i, N ≤ i → P i = 0) : szP P ≤ N := by
  rcases Int.lt_or_le N (szP P) with q | q
  · exact absurd (h (szP P - 1) (by omega)) (sz_top (by omega))
  · exact q
theorem sz_eq {P : Int → Int} {n : Int} (hP : gP P) (h0 : 0 ≤ n) (h1 : ∀ i, n ≤ i → P i = 0) (h2 : 0 < n → P (n - 1) ≠ 0) : szP P = n := by
  have a := sz_le h0 h1
  have b := sz_bd P
  rcases Int.lt_or_le (szP P) n with q | q
  · exact absurd (sz_ge hP (i := n - 1) (by omega)) (h2 (by omega))
  · omega
theorem sz_zero {P : Int → Int} (hP : gP P) (h : szP P = 0) : ∀ i, P i = 0 := fun i => by
  rcases Int.lt_or_le i 0 with q | q
  · exact hP.2 i (Or.inl q)
  · exact sz_ge hP (by omega)
theorem gP.lo {P : Int → Int} (h : gP P) {i : Int} (hi : i < 0) : P i = 0 := h.2 i (Or.inl hi)
/-- zero from place N on, and below 0 -/
def zB (P : Int → Int) (N : Int) : Prop := ∀ i, (i < 0 ∨ N ≤ i) → P i = 0
theorem gP.zb {P : Int → Int} (h : gP P) : zB P (szP P) := fun i hi => hi.elim (fun q => h.lo q) (fun q => sz_ge h q)
theorem gP_of {P : Int → Int} {N : Int} (h1 : ∀ i, nm (P i)) (h2 : zB P N) (hN : N ≤ 1300) : gP P := ⟨h1, fun i hi => h2 i (by omega)⟩
theorem sz_zb {P : Int → Int} {N : Int} (hN : 0 ≤ N) (h : zB P N) : szP P ≤ N := sz_le hN (fun i hi => h i (Or.inr hi))
theorem zB.mono {P : Int → Int} {N M : Int} (h : zB P N) (hNM : N ≤ M) : zB P M := fun i hi => h i (by omega)
/-! sums of products -/
theorem sm_z {f : Nat → Int} : ∀ n, (∀ i, i < n → f i = 0) → sm f n = 0 := fun n h => by
  rw [sm_congr (f := f) (g := fun _ => 0) n h, sm_0]
def cv (A B : Int → Int) (k : Int) (n : Nat) : Int := sm (fun i => A (i : Int) * B (k - i)) n
theorem cv_suc (A B : Int → Int) (k : Int) (n : Nat) : cv A B k (n + 1) = cv A B k n + A (n : Int) * B (k - n) := rfl
theorem cv_ext {A B : Int → Int} {p : Nat} (h : ∀ i, (p : Int) ≤ i → A i = 0) (k : Int) : ∀ m, cv A B k (p + m) = cv A B k p
  | 0 => rfl
  | m + 1 => by
    have e : cv A B k (p + (m + 1)) = cv A B k (p + m) + A (((p + m : Nat) : Int)) * B (k - ((p + m : Nat) : Int)) := rfl
    rw [e, h _ (by omega), Int.zero_mul, Int.add_zero]
    exact cv_ext h k m
theorem cv_1300 {A B : Int → Int} (hA : gP A) (k : Int) : cv A B k (szP A).toNat = cv A B k 1300 := by
  have b := sz_bd A
  have := cv_ext (A := A) (B := B) (p := (szP A).toNat) (fun i hi => sz_ge hA (by omega)) k (1300 - (szP A).toNat)
  rw [show (szP A).toNat + (1300 - (szP A).toNat) = 1300 by omega] at this
  exact this.symm
theorem cv_bd {A B : Int → Int} (hA : ∀ i, nm (A i)) (hB : ∀ i, nm (B i)) (k : Int) : ∀ n : Nat, 0 ≤ cv A B k n ∧ cv A B k n ≤ 900 * (n : Int)
  | 0 => by show (0 : Int) ≤ 0 ∧ (0 : Int) ≤ _; omega
  | n + 1 => by
    have h1 := cv_bd hA hB k n
    have h2 := hA n
    have h3 := hB (k - n)
    have := md_bd h2.1 (show _ ≤ 30 by have := h2.2; omega) h3.1 (show _ ≤ 30 by have := h3.2; omega)
    rw [cv_suc]
    omega
theorem cv_z {A B : Int → Int} {p q : Int} (hA : zB A p) (hB : zB B q) {k : Int} (hk : k < 0 ∨ p + q - 1 ≤ k) (n : Nat) : cv A B k n = 0 := by
  refine sm_z n (fun i hi => ?_)
  rcases Int.lt_or_le (i : Int) p with h | h
  · show A i * B (k - i) = 0
    rw [hB (k - i) (by omega), Int.mul_zero]
  · show A i * B (k - i) = 0
    rw [hA i (Or.inr h), Int.zero_mul]
def mulP (A B : Int → Int) : Int → Int := fun k => cv A B k 1300 % 31
theorem mul_zb {A B : Int → Int} {p q : Int} (hA : zB A p) (hB : zB B q) : zB (mulP A B) (p + q - 1) := fun k hk => by
  unfold mulP
  rw [cv_z hA hB hk]; rfl
theorem mul_zb0 {A B : Int → Int} {p q : Int} (hA : zB A p) (hB : zB B q) (h : p ≤ 0 ∨ q ≤ 0) : zB (mulP A B) 0 := fun k _ => by
  unfold mulP
  have : cv A B k 1300 = 0 := by
    refine sm_z 1300 (fun i hi => ?_)
    show A i * B (k - i) = 0
    rcases h with h | h
    · rw [hA i (Or.inr (by omega)), Int.zero_mul]
    · rw [hB (k - i) (by omega), Int.mul_zero]
  rw [this]; rfl
/-- x times P and y times R -/
def sP (x : Int) (P : Int → Int) (y : Int) (R : Int → Int) : Int → Int := fun k => (x * P k + y * R k) % 31
theorem sP_zb {P R : Int → Int} {x y p q N : Int} (hP : zB P p) (hR : zB R q) (h1 : p ≤ N) (h2 : q ≤ N) : zB (sP x P y R) N := fun k hk => by
  unfold sP
  rw [hP k (by omega), hR k (by omega), Int.mul_zero, Int.mul_zero]; rfl
/-! division -/
def rd (B : Int → Int) (m v : Int) (s : Nat) (P : Int → Int) : Int → Int := fun k => (P k - P ((s : Int) + m - 1) * v % 31 * B (k - s)) % 31
def dvP (B : Int → Int) (m v : Int) : Nat → (Int → Int) → Int → Int
  | 0, P => P
  | s + 1, P => dvP B m v s (rd B m v s P)
def dvQ (B : Int → Int) (m v : Int) : Nat → (Int → Int) → (Int → Int) → Int → Int
  | 0, _, Z => Z
  | s + 1, P, Z => dvQ B m v s (rd B m v s P) (upg Z (s : Int) (P ((s : Int) + m - 1) * v % 31))
theorem rd_nm (B : Int → Int) (m v : Int) (s : Nat) (P : Int → Int) (k : Int) : nm (rd B m v s P k) := nm_mod _
theorem rd_zb {B P : Int → Int} {m v N : Int} {s : Nat} (hB : zB B m) (hP : zB P N) (hs : (s : Int) + m ≤ N) : zB (rd B m v s P) N := fun k hk => by
  unfold rd
  rw [hP k hk, hB (k - s) (by omega), Int.mul_zero]; rfl
theorem inv_ok : ∀ x b : Fin 31, (b : Nat) ≠ 0 → (((x : Nat) : Int) - ((x : Nat) : Int) * ax_inv ((b : Nat) : Int) % 31 * ((b : Nat) : Int)) % 31 = 0 := by decide +kernel
theorem inv_can {x b : Int} (hx : nm x) (hb : nm b) (h : b ≠ 0) : (x - x * ax_inv b % 31 * b) % 31 = 0 := by
  have h1 := hx.1
  have h2 := hx.2
  have h3 := hb.1
  have h4 := hb.2
  have := inv_ok ⟨x.toNat, by omega⟩ ⟨b.toNat, by omega⟩ (by show b.toNat ≠ 0; omega)
  rw [show ((x.toNat : Nat) : Int) = x by omega, show ((b.toNat : Nat) : Int) = b by omega] at this
  exact this
theorem inv_nz : ∀ x b : Fin 31, (x : Nat) ≠ 0 → (b : Nat) ≠ 0 → ((x : Nat) : Int) * ax_inv ((b : Nat) : Int) % 31 ≠ 0 := by decide +kernel
theorem inv_nz' {x b : Int} (hx : nm x) (hb : nm b) (h0 : x ≠ 0) (h : b ≠ 0) : x * ax_inv b % 31 ≠ 0 := by
  have h1 := hx.1
  have h2 := hx.2
  have h3 := hb.1
  have h4 := hb.2
  have := inv_nz ⟨x.toNat, by omega⟩ ⟨b.toNat, by omega⟩ (by show x.toNat ≠ 0; omega) (by show b.toNat ≠ 0; omega)
  rw [show ((x.toNat : Nat) : Int) = x by omega, show ((b.toNat : Nat) : Int) = b by omega] at this
  exact this
theorem rd_lead {B P : Int → Int} {m : Int} {s : Nat} (hm : 1 ≤ m) (hBn : ∀ i, nm (B i)) (hB : zB B m) (hBt : B (m - 1) ≠ 0) (hPn : ∀ i, nm (P i)) (hP : zB P ((s : Int) + m)) : zB (rd B m (ax_inv (B (m - 1))) s P) ((s : Int) + m - 1) := fun k hk => by
  rcases Int.lt_trichotomy k ((s : Int) + m - 1) with q | q | q
  · exact rd_zb hB hP (Int.le_refl _) k (by omega)
  · unfold rd
    rw [q, show (s : Int) + m - 1 - s = m - 1 by omega]
    exact inv_can (hPn _) (hBn _) hBt
  · exact rd_zb hB hP (Int.le_refl _) k (by omega)
theorem dvP_nm {B : Int → Int} {m v : Int} : ∀ (s : Nat) (P : Int → Int), (∀ i, nm (P i)) → ∀ i, nm (dvP B m v s P i)
  | 0, _, h => h
  | s + 1, P, _ => dvP_nm s _ (rd_nm B m v s P)
theorem dvP_zb {B : Int → Int} {m v N : Int} (hB : zB B m) : ∀ (s : Nat) (P : Int → Int), zB P N → (s : Int) + m ≤ N + 1 → zB (dvP B m v s P) N
  | 0, _, h, _ => h
  | s + 1, P, h, hs => dvP_zb hB s _ (rd_zb hB h (by omega)) (by omega)
theorem dvP_rem {B : Int → Int} {m : Int} (hm : 1 ≤ m) (hBn : ∀ i, nm (B i)) (hB : zB B m) (hBt : B (m - 1) ≠ 0) : ∀ (s : Nat) (P : Int → Int), (∀ i, nm (P i)) → zB P ((s : Int) + m - 1) → zB (dvP B m (ax_inv (B (m - 1))) s P) (m - 1)
  | 0, _, _, h => fun k hk => h k (by omega)
  | s + 1, P, hn, h => dvP_rem hm hBn hB hBt s _ (rd_nm B m _ s P) (rd_lead hm hBn hB hBt hn (h.mono (by omega)))
theorem dvQ_nm {B : Int → Int} {m v : Int} : ∀ (s : Nat) (P Z : Int → Int), (∀ i, nm (Z i)) → ∀ i, nm (dvQ B m v s P Z i)
  | 0, _, _, h => h
  | s + 1, P, Z, h => dvQ_nm s _ _ (fun i => by
      unfold upg
      split
      · exact nm_mod _
      · exact h i)
theorem dvQ_zb {B : Int → Int} {m v : Int} {N : Int} : ∀ (s : Nat) (P Z : Int → Int), zB Z N → (s : Int) ≤ N → zB (dvQ B m v s P Z) N
  | 0, _, _, h, _ => h
  | s + 1, P, Z, h, hs => dvQ_zb s _ _ (fun i hi => by
      unfold upg
      rw [if_neg (by omega)]; exact h i hi) (by omega)
theorem dvQ_hi {B : Int → Int} {m v : Int} : ∀ (s : Nat) (P Z : Int → Int) (i : Int), (s : Int) ≤ i → dvQ B m v s P Z i = Z i
  | 0, _, _, _, _ => rfl
  | s + 1, P, Z, i, hi => by
    show dvQ B m v s _ _ i = _
    rw [dvQ_hi s _ _ i (by omega)]
    unfold upg
    rw [if_neg (by omega)]
/-- where the lead is 0 nothing is done -/
theorem rd_skip {B P : Int → Int} {m v : Int} {s : Nat} (hPn : ∀ i, nm (P i)) (h : P ((s : Int) + m - 1) = 0) : rd B m v s P = P := by
  funext k
  unfold rd
  rw [h, Int.zero_mul, show (0 : Int) % 31 * B (k - s) = 0 by rw [show (0 : Int) % 31 = 0 from rfl, Int.zero_mul], Int.sub_zero]
  exact nm_self (hPn k)
theorem dvP_skip {B P : Int → Int} {m v : Int} (hPn : ∀ i, nm (P i)) {s1 : Nat} (h : ∀ i, (s1 : Int) + m - 1 ≤ i → P i = 0) : ∀ n : Nat, dvP B m v (s1 + n) P = dvP B m v s1 P
  | 0 => rfl
  | n + 1 => by
    show dvP B m v (s1 + n) (rd B m v (s1 + n) P) = _
    rw [rd_skip hPn (h _ (by omega))]
    exact dvP_skip hPn h n
theorem dvQ_skip {B P : Int → Int} {m v : Int} (hPn : ∀ i, nm (P i)) {s1 : Nat} (h : ∀ i, (s1 : Int) + m - 1 ≤ i → P i = 0) : ∀ (n : Nat) (Z : Int → Int), (∀ i, (s1 : Int) ≤ i → i < (s1 : Int) + n → Z i = 0) → dvQ B m v (s1 + n) P Z = dvQ B m v s1 P Z
  | 0, _, _ => rfl
  | n + 1, Z, hz => by
    show dvQ B m v (s1 + n) (rd B m v (s1 + n) P) (upg Z ((s1 + n : Nat) : Int) (P (((s1 + n : Nat) : Int) + m - 1) * v % 31)) = _
    rw [rd_skip hPn (h _ (by omega)), h _ (by omega), Int.zero_mul, show (0 : Int) % 31 = 0 from rfl]
    have e : upg Z ((s1 + n : Nat) : Int) 0 = Z := by
      funext i
      unfold upg
      split
      · rename_i e; rw [e]; exact (hz _ (by omega) (by omega)).symm
      · rfl
    rw [e]
    exact dvQ_skip hPn h n Z (fun i h1 h2 => hz i h1 (by omega))
def nsh (P B : Int → Int) : Nat := (szP P - szP B + 1).toNat
def remP (P B : Int → Int) : Int → Int := dvP B (szP B) (ax_inv (B (szP B - 1))) (nsh P B) P
def quoP (P B : Int → Int) : Int → Int := dvQ B (szP B) (ax_inv (B (szP B - 1))) (nsh P B) P (fun _ => 0)
theorem rem_g {P B : Int → Int} (hP : gP P) (hB : gP B) (hm : 1 ≤ szP B) : gP (remP P B) ∧ szP (remP P B) ≤ szP P ∧ szP (remP P B) ≤ szP B - 1 := by
  have b1 := sz_bd P
  have b2 := sz_bd B
  have z : zB (remP P B) (szP P) := by
    unfold remP nsh
    rcases Int.lt_or_le (szP P) (szP B) with q | q
    · rw [show (szP P - szP B + 1).toNat = 0 by omega]; exact hP.zb
    · exact dvP_zb hB.zb _ P hP.zb (by omega)
  have z2 : zB (remP P B) (szP B - 1) := by
    unfold remP nsh
    refine dvP_rem hm hB.1 hB.zb (sz_top (by omega)) _ P hP.1 (hP.zb.mono (by omega))
  exact ⟨gP_of (dvP_nm _ _ hP.1) z b1.2, sz_zb b1.1 z, sz_zb (by omega) z2⟩
theorem quo_g {P B : Int → Int} (hP : gP P) (hB : gP B) (hm : 1 ≤ szP B) : gP (quoP P B) ∧ szP (quoP P B) ≤ szP P := by
  have b1 := sz_bd P
  have b2 := sz_bd B
  have z : zB (quoP P B) (szP P) := dvQ_zb _ P _ (fun _ _ => rfl) (by unfold nsh; omega)
  exact ⟨gP_of (dvQ_nm _ _ _ (fun _ => ⟨by decide, by decide⟩)) z b1.2, sz_zb b1.1 z⟩
theorem quo_sz {P B : Int → Int} (hP : gP P) (hB : gP B) (hm : 1 ≤ szP B) : szP (quoP P B) = nsh P B := by
  have b1 := sz_bd P
  have b2 := sz_bd B
  have g := (quo_g hP hB hm).1
  refine sz_eq g (by omega) (fun i hi => ?_) (fun h0 => ?_)
  · unfold quoP
    rw [dvQ_hi _ _ _ _ hi]
  · unfold quoP
    have hn : szP P - szP B + 1 = nsh P B := by unfold nsh at *; omega
    generalize hN : nsh P B = N at *
    cases N with
    | zero => omega
    | succ N =>
      show dvQ _ _ _ N _ _ _ ≠ 0
      rw [show ((N + 1 : Nat) : Int) - 1 = N by omega, dvQ_hi _ _ _ _ (Int.le_refl _)]
      unfold upg
      rw [if_pos rfl, show (N : Int) + szP B - 1 = szP P - 1 by omega]
      exact inv_nz' (hP.1 _) (hB.1 _) (sz_top (by omega)) (sz_top (by omega))
def gcP : Nat → (Int → Int) → (Int → Int) → Int → Int
  | 0, P, _ => P
  | f + 1, P, B => if szP B = 0 then P else gcP f B (remP P B)
theorem gcP_g : ∀ (f : Nat) (P B : Int → Int), gP P → gP B → szP B ≤ f → (0 < szP P ∨ 0 < szP B) → gP (gcP f P B) ∧ 1 ≤ szP (gcP f P B)
  | 0, P, B, hP, _, hf, h => by
    have := sz_bd B
    exact ⟨hP, by show 1 ≤ szP P; omega⟩
  | f + 1, P, B, hP, hB, hf, h => by
    have := sz_bd B
    unfold gcP
    split
    · exact ⟨hP, by omega⟩
    · have r := rem_g hP hB (by omega)
      exact gcP_g f B _ hB r.1 (by omega) (Or.inl (by omega))
