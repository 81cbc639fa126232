def RLw (n L : Nat) (xs : Int → Int) (pc : Nat) (ls : ax_L) (I : ax_H) : Prop := Rn (n, 0, 0, some (L, xs)) kL_law pc ls [] S0 I (fun v _ _ => v = some (ax_i 1))
theorem vL_law_18 {d L : Nat} {xs : Int → Int} {I : ax_H} (hL : L ≤ 3584) (hxs : ∀ n, ax_R (xs n))  {x3 : Int} (r3 : ax_R x3) (H :
  ax_R ((L : Int) - 7) ∧
  ((((L : Int) - 7) < x3 →
    True) ∧
  (¬ ((L : Int) - 7) < x3 →
    (0 ≤ x3 ∧ x3 < L) ∧
    ((((xs x3) % 64) = 0 →
      RLw (d + 14) L xs 188 [some (ax_r 1000001), some (ax_r 0), some (ax_r 85), some (ax_i x3)] I) ∧
    (((xs x3) % 64) = 1 →
      RLw (d + 14) L xs 241 [some (ax_r 1000001), some (ax_r 0), some (ax_r 85), some (ax_i x3)] I) ∧
    (((xs x3) % 64) = 2 →
      RLw (d + 14) L xs 284 [some (ax_r 1000001), some (ax_r 0), some (ax_r 85), some (ax_i x3)] I) ∧
    (((xs x3) % 64) = 3 →
      RLw (d + 14) L xs 307 [some (ax_r 1000001), some (ax_r 0), some (ax_r 85), some (ax_i x3)] I) ∧
    (((xs x3) % 64) = 4 →
      RLw (d + 14) L xs 330 [some (ax_r 1000001), some (ax_r 0), some (ax_r 85), some (ax_i x3)] I) ∧
    (((xs x3) % 64) = 5 →
      RLw (d + 14) L xs 373 [some (ax_r 1000001), some (ax_r 0), some (ax_r 85), some (ax_i x3)] I) ∧
    (((xs x3) % 64) = 6 →
      RLw (d + 14) L xs 406 [some (ax_r 1000001), some (ax_r 0), some (ax_r 85), some (ax_i x3)] I) ∧
    (((xs x3) % 64) = 7 →
      RLw (d + 14) L xs 449 [some (ax_r 1000001), some (ax_r 0), some (ax_r 85), some (ax_i x3)] I) ∧
    (((xs x3) % 64) = 8 →
      RLw (d + 14) L xs 492 [some (ax_r 1000001), some (ax_r 0), some (ax_r 85), some (ax_i x3)] I) ∧
    (((xs x3) % 64) = 9 →
      RLw (d + 14) L xs 516 [some (ax_r 1000001), some (ax_r 0), some (ax_r 85), some (ax_i x3)] I) ∧
    (((xs x3) % 64) = 10 →
      RLw (d + 14) L xs 559 [some (ax_r 1000001), some (ax_r 0), some (ax_r 85), some (ax_i x3)] I) ∧
    (((xs x3) % 64) = 11 →
      RLw (d + 14) L xs 592 [some (ax_r 1000001), some (ax_r 0), some (ax_r 85), some (ax_i x3)] I) ∧
    (((xs x3) % 64) = 12 →
      RLw (d + 14) L xs 625 [some (ax_r 1000001), some (ax_r 0), some (ax_r 85), some (ax_i x3)] I) ∧
    (((xs x3) % 64) = 13 →
      RLw (d + 14) L xs 648 [some (ax_r 1000001), some (ax_r 0), some (ax_r 85), some (ax_i x3)] I) ∧
    (((xs x3) % 64) = 14 →
      RLw (d + 14) L xs 671 [some (ax_r 1000001), some (ax_r 0), some (ax_r 85), some (ax_i x3)] I) ∧
    (((xs x3) % 64) = 15 →
      RLw (d + 14) L xs 704 [some (ax_r 1000001), some (ax_r 0), some (ax_r 85), some (ax_i x3)] I) ∧
    (((xs x3) % 64) = 16 →
      RLw (d + 14) L xs 747 [some (ax_r 1000001), some (ax_r 0), some (ax_r 85), some (ax_i x3)] I) ∧
    (((xs x3) % 64) = 17 →
      RLw (d + 14) L xs 780 [some (ax_r 1000001), some (ax_r 0), some (ax_r 85), some (ax_i x3)] I) ∧
    (((xs x3) % 64) = 18 →
      RLw (d + 14) L xs 813 [some (ax_r 1000001), some (ax_r 0), some (ax_r 85), some (ax_i x3)] I) ∧
    (((xs x3) % 64) = 19 →
      RLw (d + 14) L xs 836 [some (ax_r 1000001), some (ax_r 0), some (ax_r 85), some (ax_i x3)] I) ∧
    (((xs x3) % 64) = 20 →
      RLw (d + 14) L xs 859 [some (ax_r 1000001), some (ax_r 0), some (ax_r 85), some (ax_i x3)] I) ∧
    (((xs x3) % 64) = 21 →
      RLw (d + 14) L xs 872 [some (ax_r 1000001), some (ax_r 0), some (ax_r 85), some (ax_i x3)] I) ∧
    (((xs x3) % 64) = 22 →
      RLw (d + 14) L xs 895 [some (ax_r 1000001), some (ax_r 0), some (ax_r 85), some (ax_i x3)] I) ∧
    (((xs x3) % 64) = 23 →
      RLw (d + 14) L xs 971 [some (ax_r 1000001), some (ax_r 0), some (ax_r 85), some (ax_i x3)] I) ∧
    (((xs x3) % 64) = 24 →
      RLw (d + 14) L xs 1025 [some (ax_r 1000001), some (ax_r 0), some (ax_r 85), some (ax_i x3)] I) ∧
    (((xs x3) % 64) = 25 →
      RLw (d + 14) L xs 1058 [some (ax_r 1000001), some (ax_r 0), some (ax_r 85), some (ax_i x3)] I) ∧
    (((xs x3) % 64) = 26 →
      RLw (d + 14) L xs 1091 [some (ax_r 1000001), some (ax_r 0), some (ax_r 85), some (ax_i x3)] I) ∧
    (((xs x3) % 64) = 27 →
      RLw (d + 14) L xs 1114 [some (ax_r 1000001), some (ax_r 0), some (ax_r 85), some (ax_i x3)] I) ∧
    (((xs x3) % 64) = 28 →
      RLw (d + 14) L xs 1137 [some (ax_r 1000001), some (ax_r 0), some (ax_r 85), some (ax_i x3)] I) ∧
    (((xs x3) % 64) = 29 →
      RLw (d + 14) L xs 1180 [some (ax_r 1000001), some (ax_r 0), some (ax_r 85), some (ax_i x3)] I) ∧
    (((xs x3) % 64) = 30 →
      RLw (d + 14) L xs 1213 [some (ax_r 1000001), some (ax_r 0), some (ax_r 85), some (ax_i x3)] I) ∧
    (((xs x3) % 64) = 31 →
      RLw (d + 14) L xs 1256 [some (ax_r 1000001), some (ax_r 0), some (ax_r 85), some (ax_i x3)] I) ∧
    (((xs x3) % 64) = 32 →
      RLw (d + 14) L xs 1290 [some (ax_r 1000001), some (ax_r 0), some (ax_r 85), some (ax_i x3)] I) ∧
    (((xs x3) % 64) = 33 →
      RLw (d + 14) L xs 1303 [some (ax_r 1000001), some (ax_r 0), some (ax_r 85), some (ax_i x3)] I) ∧
    (((xs x3) % 64) = 34 →
      RLw (d + 14) L xs 1316 [some (ax_r 1000001), some (ax_r 0), some (ax_r 85), some (ax_i x3)] I) ∧
    ((((xs x3) % 64) < 0 ∨ 34 < ((xs x3) % 64)) →
      RLw (d + 14) L xs 1339 [some (ax_r 1000001), some (ax_r 0), some (ax_r 85), some (ax_i x3)] I))))) :
  RLw (d + 14) L xs 18 [some (ax_r 1000001), some (ax_r 0), some (ax_r 85), some (ax_i x3)] I := by
  have hL : L < 2147483648 := by omega
  show Rn _ _ _ _ _ _ _ _
  refine r_iload_n dL_law_18 rfl ?_
  refine r_aload_n dL_law_19 rfl ?_
  refine r_slen rfl dL_law_20 ?_
  refine r_bipush (v := 7) dL_law_21 (by decide) ?_
  refine r_isub dL_law_23 ?_
  have ob1 := H.1
  have H := H.2
  refine r_icmp_gt (tgt := 1345) dL_law_24 (by decide) r3 ob1 (fun c2 => ?_) (fun c2 => ?_)
  · have H := H.1 c2
    refine r_iconst dL_law_1345 ?_
    exact r_zret dL_law_1346 rfl (by decide) rfl
  · have H := H.2 c2
    refine r_aload_n dL_law_27 rfl ?_
    refine r_iload_n dL_law_28 rfl ?_
    have ob3 := H.1
    have H := H.2
    refine r_sld rfl hL dL_law_29 ob3 ?_
    refine r_bipush (v := 63) dL_law_30 (by decide) ?_
    refine r_iand63 dL_law_32 ?_
    have hcs : ((xs x3) % 64) = 0 ∨ ((xs x3) % 64) = 1 ∨ ((xs x3) % 64) = 2 ∨ ((xs x3) % 64) = 3 ∨ ((xs x3) % 64) = 4 ∨ ((xs x3) % 64) = 5 ∨ ((xs x3) % 64) = 6 ∨ ((xs x3) % 64) = 7 ∨ ((xs x3) % 64) = 8 ∨ ((xs x3) % 64) = 9 ∨ ((xs x3) % 64) = 10 ∨ ((xs x3) % 64) = 11 ∨ ((xs x3) % 64) = 12 ∨ ((xs x3) % 64) = 13 ∨ ((xs x3) % 64) = 14 ∨ ((xs x3) % 64) = 15 ∨ ((xs x3) % 64) = 16 ∨ ((xs x3) % 64) = 17 ∨ ((xs x3) % 64) = 18 ∨ ((xs x3) % 64) = 19 ∨ ((xs x3) % 64) = 20 ∨ ((xs x3) % 64) = 21 ∨ ((xs x3) % 64) = 22 ∨ ((xs x3) % 64) = 23 ∨ ((xs x3) % 64) = 24 ∨ ((xs x3) % 64) = 25 ∨ ((xs x3) % 64) = 26 ∨ ((xs x3) % 64) = 27 ∨ ((xs x3) % 64) = 28 ∨ ((xs x3) % 64) = 29 ∨ ((xs x3) % 64) = 30 ∨ ((xs x3) % 64) = 31 ∨ ((xs x3) % 64) = 32 ∨ ((xs x3) % 64) = 33 ∨ ((xs x3) % 64) = 34 ∨ (((xs x3) % 64) < 0 ∨ 34 < ((xs x3) % 64)) := by omega
    rcases hcs with hc | hc | hc | hc | hc | hc | hc | hc | hc | hc | hc | hc | hc | hc | hc | hc | hc | hc | hc | hc | hc | hc | hc | hc | hc | hc | hc | hc | hc | hc | hc | hc | hc | hc | hc | hc
    · have H := H.1 hc
      refine r_tswIn (tgt := 188) dL_law_33 ⟨by omega, by omega⟩ (by omega) (by omega) (off := 155) (by rw [hc]; rfl) (by decide) ?_
      exact H
    · have H := H.2.1 hc
      refine r_tswIn (tgt := 241) dL_law_33 ⟨by omega, by omega⟩ (by omega) (by omega) (off := 208) (by rw [hc]; rfl) (by decide) ?_
      exact H
    · have H := H.2.2.1 hc
      refine r_tswIn (tgt := 284) dL_law_33 ⟨by omega, by omega⟩ (by omega) (by omega) (off := 251) (by rw [hc]; rfl) (by decide) ?_
      exact H
    · have H := H.2.2.2.1 hc
      refine r_tswIn (tgt := 307) dL_law_33 ⟨by omega, by omega⟩ (by omega) (by omega) (off := 274) (by rw [hc]; rfl) (by decide) ?_
      exact H
    · have H := H.2.2.2.2.1 hc
      refine r_tswIn (tgt := 330) dL_law_33 ⟨by omega, by omega⟩ (by omega) (by omega) (off := 297) (by rw [hc]; rfl) (by decide) ?_
      exact H
    · have H := H.2.2.2.2.2.1 hc
      refine r_tswIn (tgt := 373) dL_law_33 ⟨by omega, by omega⟩ (by omega) (by omega) (off := 340) (by rw [hc]; rfl) (by decide) ?_
      exact H
    · have H := H.2.2.2.2.2.2.1 hc
      refine r_tswIn (tgt := 406) dL_law_33 ⟨by omega, by omega⟩ (by omega) (by omega) (off := 373) (by rw [hc]; rfl) (by decide) ?_
      exact H
    · have H := H.2.2.2.2.2.2.2.1 hc
      refine r_tswIn (tgt := 449) dL_law_33 ⟨by omega, by omega⟩ (by omega) (by omega) (off := 416) (by rw [hc]; rfl) (by decide) ?_
      exact H
    · have H := H.2.2.2.2.2.2.2.2.1 hc
      refine r_tswIn (tgt := 492) dL_law_33 ⟨by omega, by omega⟩ (by omega) (by omega) (off := 459) (by rw [hc]; rfl) (by decide) ?_
      exact H
    · have H := H.2.2.2.2.2.2.2.2.2.1 hc
      refine r_tswIn (tgt := 516) dL_law_33 ⟨by omega, by omega⟩ (by omega) (by omega) (off := 483) (by rw [hc]; rfl) (by decide) ?_
      exact H
    · have H := H.2.2.2.2.2.2.2.2.2.2.1 hc
      refine r_tswIn (tgt := 559) dL_law_33 ⟨by omega, by omega⟩ (by omega) (by omega) (off := 526) (by rw [hc]; rfl) (by decide) ?_
      exact H
    · have H := H.2.2.2.2.2.2.2.2.2.2.2.1 hc
      refine r_tswIn (tgt := 592) dL_law_33 ⟨by omega, by omega⟩ (by omega) (by omega) (off := 559) (by rw [hc]; rfl) (by decide) ?_
      exact H
    · have H := H.2.2.2.2.2.2.2.2.2.2.2.2.1 hc
      refine r_tswIn (tgt := 625) dL_law_33 ⟨by omega, by omega⟩ (by omega) (by omega) (off := 592) (by rw [hc]; rfl) (by decide) ?_
      exact H
    · have H := H.2.2.2.2.2.2.2.2.2.2.2.2.2.1 hc
      refine r_tswIn (tgt := 648) dL_law_33 ⟨by omega, by omega⟩ (by omega) (by omega) (off := 615) (by rw [hc]; rfl) (by decide) ?_
      exact H
    · have H := H.2.2.2.2.2.2.2.2.2.2.2.2.2.2.1 hc
      refine r_tswIn (tgt := 671) dL_law_33 ⟨by omega, by omega⟩ (by omega) (by omega) (off := 638) (by rw [hc]; rfl) (by decide) ?_
      exact H
    · have H := H.2.2.2.2.2.2.2.2.2.2.2.2.2.2.2.1 hc
      refine r_tswIn (tgt := 704) dL_law_33 ⟨by omega, by omega⟩ (by omega) (by omega) (off := 671) (by rw [hc]; rfl) (by decide) ?_
      exact H
    · have H := H.2.2.2.2.2.2.2.2.2.2.2.2.2.2.2.2.1 hc
      refine r_tswIn (tgt := 747) dL_law_33 ⟨by omega, by omega⟩ (by omega) (by omega) (off := 714) (by rw [hc]; rfl) (by decide) ?_
      exact H
    · have H := H.2.2.2.2.2.2.2.2.2.2.2.2.2.2.2.2.2.1 hc
      refine r_tswIn (tgt := 780) dL_law_33 ⟨by omega, by omega⟩ (by omega) (by omega) (off := 747) (by rw [hc]; rfl) (by decide) ?_
      exact H
    · have H := H.2.2.2.2.2.2.2.2.2.2.2.2.2.2.2.2.2.2.1 hc
      refine r_tswIn (tgt := 813) dL_law_33 ⟨by omega, by omega⟩ (by omega) (by omega) (off := 780) (by rw [hc]; rfl) (by decide) ?_
      exact H
    · have H := H.2.2.2.2.2.2.2.2.2.2.2.2.2.2.2.2.2.2.2.1 hc
      refine r_tswIn (tgt := 836) dL_law_33 ⟨by omega, by omega⟩ (by omega) (by omega) (off := 803) (by rw [hc]; rfl) (by decide) ?_
      exact H
    · have H := H.2.2.2.2.2.2.2.2.2.2.2.2.2.2.2.2.2.2.2.2.1 hc
      refine r_tswIn (tgt := 859) dL_law_33 ⟨by omega, by omega⟩ (by omega) (by omega) (off := 826) (by rw [hc]; rfl) (by decide) ?_
      exact H
    · have H := H.2.2.2.2.2.2.2.2.2.2.2.2.2.2.2.2.2.2.2.2.2.1 hc
      refine r_tswIn (tgt := 872) dL_law_33 ⟨by omega, by omega⟩ (by omega) (by omega) (off := 839) (by rw [hc]; rfl) (by decide) ?_
      exact H
    · have H := H.2.2.2.2.2.2.2.2.2.2.2.2.2.2.2.2.2.2.2.2.2.2.1 hc
      refine r_tswIn (tgt := 895) dL_law_33 ⟨by omega, by omega⟩ (by omega) (by omega) (off := 862) (by rw [hc]; rfl) (by decide) ?_
      exact H
    · have H := H.2.2.2.2.2.2.2.2.2.2.2.2.2.2.2.2.2.2.2.2.2.2.2.1 hc
      refine r_tswIn (tgt := 971) dL_law_33 ⟨by omega, by omega⟩ (by omega) (by omega) (off := 938) (by rw [hc]; rfl) (by decide) ?_
      exact H
    · have H := H.2.2.2.2.2.2.2.2.2.2.2.2.2.2.2.2.2.2.2.2.2.2.2.2.1 hc
      refine r_tswIn (tgt := 1025) dL_law_33 ⟨by omega, by omega⟩ (by omega) (by omega) (off := 992) (by rw [hc]; rfl) (by decide) ?_
      exact H
    · have H := H.2.2.2.2.2.2.2.2.2.2.2.2.2.2.2.2.2.2.2.2.2.2.2.2.2.1 hc
      refine r_tswIn (tgt := 1058) dL_law_33 ⟨by omega, by omega⟩ (by omega) (by omega) (off := 1025) (by rw [hc]; rfl) (by decide) ?_
      exact H
    · have H := H.2.2.2.2.2.2.2.2.2.2.2.2.2.2.2.2.2.2.2.2.2.2.2.2.2.2.1 hc
      refine r_tswIn (tgt := 1091) dL_law_33 ⟨by omega, by omega⟩ (by omega) (by omega) (off := 1058) (by rw [hc]; rfl) (by decide) ?_
      exact H
    · have H := H.2.2.2.2.2.2.2.2.2.2.2.2.2.2.2.2.2.2.2.2.2.2.2.2.2.2.2.1 hc
      refine r_tswIn (tgt := 1114) dL_law_33 ⟨by omega, by omega⟩ (by omega) (by omega) (off := 1081) (by rw [hc]; rfl) (by decide) ?_
      exact H
    · have H := H.2.2.2.2.2.2.2.2.2.2.2.2.2.2.2.2.2.2.2.2.2.2.2.2.2.2.2.2.1 hc
      refine r_tswIn (tgt := 1137) dL_law_33 ⟨by omega, by omega⟩ (by omega) (by omega) (off := 1104) (by rw [hc]; rfl) (by decide) ?_
      exact H
    · have H := H.2.2.2.2.2.2.2.2.2.2.2.2.2.2.2.2.2.2.2.2.2.2.2.2.2.2.2.2.2.1 hc
      refine r_tswIn (tgt := 1180) dL_law_33 ⟨by omega, by omega⟩ (by omega) (by omega) (off := 1147) (by rw [hc]; rfl) (by decide) ?_
      exact H
    · have H := H.2.2.2.2.2.2.2.2.2.2.2.2.2.2.2.2.2.2.2.2.2.2.2.2.2.2.2.2.2.2.1 hc
      refine r_tswIn (tgt := 1213) dL_law_33 ⟨by omega, by omega⟩ (by omega) (by omega) (off := 1180) (by rw [hc]; rfl) (by decide) ?_
      exact H
    · have H := H.2.2.2.2.2.2.2.2.2.2.2.2.2.2.2.2.2.2.2.2.2.2.2.2.2.2.2.2.2.2.2.1 hc
      refine r_tswIn (tgt := 1256) dL_law_33 ⟨by omega, by omega⟩ (by omega) (by omega) (off := 1223) (by rw [hc]; rfl) (by decide) ?_
      exact H
    · have H := H.2.2.2.2.2.2.2.2.2.2.2.2.2.2.2.2.2.2.2.2.2.2.2.2.2.2.2.2.2.2.2.2.1 hc
      refine r_tswIn (tgt := 1290) dL_law_33 ⟨by omega, by omega⟩ (by omega) (by omega) (off := 1257) (by rw [hc]; rfl) (by decide) ?_
      exact H
    · have H := H.2.2.2.2.2.2.2.2.2.2.2.2.2.2.2.2.2.2.2.2.2.2.2.2.2.2.2.2.2.2.2.2.2.1 hc
      refine r_tswIn (tgt := 1303) dL_law_33 ⟨by omega, by omega⟩ (by omega) (by omega) (off := 1270) (by rw [hc]; rfl) (by decide) ?_
      exact H
    · have H := H.2.2.2.2.2.2.2.2.2.2.2.2.2.2.2.2.2.2.2.2.2.2.2.2.2.2.2.2.2.2.2.2.2.2.1 hc
      refine r_tswIn (tgt := 1316) dL_law_33 ⟨by omega, by omega⟩ (by omega) (by omega) (off := 1283) (by rw [hc]; rfl) (by decide) ?_
      exact H
    · have H := H.2.2.2.2.2.2.2.2.2.2.2.2.2.2.2.2.2.2.2.2.2.2.2.2.2.2.2.2.2.2.2.2.2.2.2 hc
      refine r_tswOut (tgt := 1339) dL_law_33 ⟨by omega, by omega⟩ hc (by decide) ?_
      exact H

theorem vL_law_188 {d L : Nat} {xs : Int → Int} {I : ax_H} (hL : L ≤ 3584) (hxs : ∀ n, ax_R (xs n))  {x3 : Int} (H :
  (0 ≤ (x3 + 1) ∧ (x3 + 1) < L) ∧
  ((0 ≤ (x3 + 2) ∧ (x3 + 2) < L) ∧
  ((0 ≤ (x3 + 3) ∧ (x3 + 3) < L) ∧
  ((0 ≤ (x3 + 4) ∧ (x3 + 4) < L) ∧
  (cI (d + 13) kX10_set [ax_r 0, ax_i (xs (x3 + 1)), ax_i (xs (x3 + 2)), ax_i (xs (x3 + 3)), ax_i (xs (x3 + 4))] I (fun w6 I5 =>
  cI (d + 13) kX11_set [ax_r 85, ax_i (xs (x3 + 1)), ax_i (xs (x3 + 2)), ax_i (xs (x3 + 3)), ax_i (xs (x3 + 4))] I5 (fun w8 I7 =>
  ax_R w6 ∧
  (ax_R w8 ∧
  ((w6 = w8 →
    RLw (d + 14) L xs 1339 [some (ax_r 1000001), some (ax_r 0), some (ax_r 85), some (ax_i x3)] I7) ∧
  (¬ w6 = w8 →
    False)))))))))) :
  RLw (d + 14) L xs 188 [some (ax_r 1000001), some (ax_r 0), some (ax_r 85), some (ax_i x3)] I := by
  have hL : L < 2147483648 := by omega
  show Rn _ _ _ _ _ _ _ _
  refine r_aload_n dL_law_188 rfl ?_
  refine r_aload_n dL_law_189 rfl ?_
  refine r_iload_n dL_law_190 rfl ?_
  refine r_iconst dL_law_191 ?_
  refine r_iadd dL_law_192 ?_
  have ob1 := H.1
  have H := H.2
  refine r_sld rfl hL dL_law_193 ob1 ?_
  refine r_aload_n dL_law_194 rfl ?_
  refine r_iload_n dL_law_195 rfl ?_
  refine r_iconst dL_law_196 ?_
  refine r_iadd dL_law_197 ?_
  have ob2 := H.1
  have H := H.2
  refine r_sld rfl hL dL_law_198 ob2 ?_
  refine r_aload_n dL_law_199 rfl ?_
  refine r_iload_n dL_law_200 rfl ?_
  refine r_iconst dL_law_201 ?_
  refine r_iadd dL_law_202 ?_
  have ob3 := H.1
  have H := H.2
  refine r_sld rfl hL dL_law_203 ob3 ?_
  refine r_aload_n dL_law_204 rfl ?_
  refine r_iload_n dL_law_205 rfl ?_
  refine r_iconst dL_law_206 ?_
  refine r_iadd dL_law_207 ?_
  have ob4 := H.1
  have H := H.2
  refine r_sld rfl hL dL_law_208 ob4 ?_
  refine r_cI (as := [ax_r 0, ax_i (xs (x3 + 1)), ax_i (xs (x3 + 2)), ax_i (xs (x3 + 3)), ax_i (xs (x3 + 4))]) (how_V (ci := 10) jX10_set jIX10_set jVX10_set rfl s0_0 (by decide) rfl rfl wL_13 dL_law_209) rfl (Nat.le_refl _) (Nat.le_of_ble_eq_true rfl) (fun _ => Nat.le_of_ble_eq_true rfl) H (fun w6 I5 H => ?_)
  refine r_aload_n dL_law_212 rfl ?_
  refine r_aload_n dL_law_213 rfl ?_
  refine r_iload_n dL_law_214 rfl ?_
  refine r_iconst dL_law_215 ?_
  refine r_iadd dL_law_216 ?_
  refine r_sld rfl hL dL_law_217 ob1 ?_
  refine r_aload_n dL_law_218 rfl ?_
  refine r_iload_n dL_law_219 rfl ?_
  refine r_iconst dL_law_220 ?_
  refine r_iadd dL_law_221 ?_
  refine r_sld rfl hL dL_law_222 ob2 ?_
  refine r_aload_n dL_law_223 rfl ?_
  refine r_iload_n dL_law_224 rfl ?_
  refine r_iconst dL_law_225 ?_
  refine r_iadd dL_law_226 ?_
  refine r_sld rfl hL dL_law_227 ob3 ?_
  refine r_aload_n dL_law_228 rfl ?_
  refine r_iload_n dL_law_229 rfl ?_
  refine r_iconst dL_law_230 ?_
  refine r_iadd dL_law_231 ?_
  refine r_sld rfl hL dL_law_232 ob4 ?_
  refine r_cI (as := [ax_r 85, ax_i (xs (x3 + 1)), ax_i (xs (x3 + 2)), ax_i (xs (x3 + 3)), ax_i (xs (x3 + 4))]) (how_V (ci := 11) jX11_set jIX11_set jVX11_set rfl s0_85 (by decide) rfl rfl wL_17 dL_law_233) rfl (Nat.le_refl _) (Nat.le_of_ble_eq_true rfl) (fun _ => Nat.le_of_ble_eq_true rfl) H (fun w8 I7 H => ?_)
  have ob9 := H.1
  have H := H.2
  have ob10 := H.1
  have H := H.2
  refine r_icmp_eq (tgt := 1339) dL_law_236 (by decide) ob9 ob10 (fun c11 => ?_) (fun c11 => ?_)
  · have H := H.1 c11
    exact H
  · have H := H.2 c11
    refine r_iconst dL_law_239 ?_
    exact H.elim

theorem vL_law_241 {d L : Nat} {xs : Int → Int} {I : ax_H} (hL : L ≤ 3584) (hxs : ∀ n, ax_R (xs n))  {x3 : Int} (H :
  (0 ≤ (x3 + 1) ∧ (x3 + 1) < L) ∧
  ((0 ≤ (x3 + 2) ∧ (x3 + 2) < L) ∧
  ((0 ≤ (x3 + 3) ∧ (x3 + 3) < L) ∧
  (cI (d + 13) kX10_of [ax_r 0, ax_i (xs (x3 + 1)), ax_i (xs (x3 + 2)), ax_i (xs (x3 + 3))] I (fun w5 I4 =>
  cI (d + 13) kX11_of [ax_r 85, ax_i (xs (x3 + 1)), ax_i (xs (x3 + 2)), ax_i (xs (x3 + 3))] I4 (fun w7 I6 =>
  ax_R w5 ∧
  (ax_R w7 ∧
  ((w5 = w7 →
    RLw (d + 14) L xs 1339 [some (ax_r 1000001), some (ax_r 0), some (ax_r 85), some (ax_i x3)] I6) ∧
  (¬ w5 = w7 →
    False))))))))) :
  RLw (d + 14) L xs 241 [some (ax_r 1000001), some (ax_r 0), some (ax_r 85), some (ax_i x3)] I := by
  have hL : L < 2147483648 := by omega
  show Rn _ _ _ _ _ _ _ _
  refine r_aload_n dL_law_241 rfl ?_
  refine r_aload_n dL_law_242 rfl ?_
  refine r_iload_n dL_law_243 rfl ?_
  refine r_iconst dL_law_244 ?_
  refine r_iadd dL_law_245 ?_
  have ob1 := H.1
  have H := H.2
  refine r_sld rfl hL dL_law_246 ob1 ?_
  refine r_aload_n dL_law_247 rfl ?_
  refine r_iload_n dL_law_248 rfl ?_
  refine r_iconst dL_law_249 ?_
  refine r_iadd dL_law_250 ?_
  have ob2 := H.1
  have H := H.2
  refine r_sld rfl hL dL_law_251 ob2 ?_
  refine r_aload_n dL_law_252 rfl ?_
  refine r_iload_n dL_law_253 rfl ?_
  refine r_iconst dL_law_254 ?_
  refine r_iadd dL_law_255 ?_
  have ob3 := H.1
  have H := H.2
  refine r_sld rfl hL dL_law_256 ob3 ?_
  refine r_cI (as := [ax_r 0, ax_i (xs (x3 + 1)), ax_i (xs (x3 + 2)), ax_i (xs (x3 + 3))]) (how_V (ci := 10) jX10_of jIX10_of jVX10_of rfl s0_0 (by decide) rfl rfl wL_18 dL_law_257) rfl (Nat.le_refl _) (Nat.le_of_ble_eq_true rfl) (fun _ => Nat.le_of_ble_eq_true rfl) H (fun w5 I4 H => ?_)
  refine r_aload_n dL_law_260 rfl ?_
  refine r_aload_n dL_law_261 rfl ?_
  refine r_iload_n dL_law_262 rfl ?_
  refine r_iconst dL_law_263 ?_
  refine r_iadd dL_law_264 ?_
  refine r_sld rfl hL dL_law_265 ob1 ?_
  refine r_aload_n dL_law_266 rfl ?_
  refine r_iload_n dL_law_267 rfl ?_
  refine r_iconst dL_law_268 ?_
  refine r_iadd dL_law_269 ?_
  refine r_sld rfl hL dL_law_270 ob2 ?_
  refine r_aload_n dL_law_271 rfl ?_
  refine r_iload_n dL_law_272 rfl ?_
  refine r_iconst dL_law_273 ?_
  refine r_iadd dL_law_274 ?_
  refine r_sld rfl hL dL_law_275 ob3 ?_
  refine r_cI (as := [ax_r 85, ax_i (xs (x3 + 1)), ax_i (xs (x3 + 2)), ax_i (xs (x3 + 3))]) (how_V (ci := 11) jX11_of jIX11_of jVX11_of rfl s0_85 (by decide) rfl rfl wL_22 dL_law_276) rfl (Nat.le_refl _) (Nat.le_of_ble_eq_true rfl) (fun _ => Nat.le_of_ble_eq_true rfl) H (fun w7 I6 H => ?_)
  have ob8 := H.1
  have H := H.2
  have ob9 := H.1
  have H := H.2
  refine r_icmp_eq (tgt := 1339) dL_law_279 (by decide) ob8 ob9 (fun c10 => ?_) (fun c10 => ?_)
  · have H := H.1 c10
    exact H
  · have H := H.2 c10
    refine r_iconst dL_law_282 ?_
    exact H.elim

theorem vL_law_284 {d L : Nat} {xs : Int → Int} {I : ax_H} (hL : L ≤ 3584) (hxs : ∀ n, ax_R (xs n))  {x3 : Int} (H :
  (0 ≤ (x3 + 1) ∧ (x3 + 1) < L) ∧
  (cI (d + 13) kX10_feed [ax_r 0, ax_i (xs (x3 + 1))] I (fun w3 I2 =>
  cI (d + 13) kX11_feed [ax_r 85, ax_i (xs (x3 + 1))] I2 (fun w5 I4 =>
  ax_R w3 ∧
  (ax_R w5 ∧
  ((w3 = w5 →
    RLw (d + 14) L xs 1339 [some (ax_r 1000001), some (ax_r 0), some (ax_r 85), some (ax_i x3)] I4) ∧
  (¬ w3 = w5 →
    False))))))) :
  RLw (d + 14) L xs 284 [some (ax_r 1000001), some (ax_r 0), some (ax_r 85), some (ax_i x3)] I := by
  have hL : L < 2147483648 := by omega
  show Rn _ _ _ _ _ _ _ _
  refine r_aload_n dL_law_284 rfl ?_
  refine r_aload_n dL_law_285 rfl ?_
  refine r_iload_n dL_law_286 rfl ?_
  refine r_iconst dL_law_287 ?_
  refine r_iadd dL_law_288 ?_
  have ob1 := H.1
  have H := H.2
  refine r_sld rfl hL dL_law_289 ob1 ?_
  refine r_cI (as := [ax_r 0, ax_i (xs (x3 + 1))]) (how_V (ci := 10) jX10_feed jIX10_feed jVX10_feed rfl s0_0 (by decide) rfl rfl wL_23 dL_law_290) rfl (Nat.le_refl _) (Nat.le_of_ble_eq_true rfl) (fun _ => Nat.le_of_ble_eq_true rfl) H (fun w3 I2 H => ?_)
  refine r_aload_n dL_law_293 rfl ?_
  refine r_aload_n dL_law_294 rfl ?_
  refine r_iload_n dL_law_295 rfl ?_
  refine r_iconst dL_law_296 ?_
  refine r_iadd dL_law_297 ?_
  refine r_sld rfl hL dL_law_298 ob1 ?_
  refine r_cI (as := [ax_r 85, ax_i (xs (x3 + 1))]) (how_V (ci := 11) jX11_feed jIX11_feed jVX11_feed rfl s0_85 (by decide) rfl rfl wL_27 dL_law_299) rfl (Nat.le_refl _) (Nat.le_of_ble_eq_true rfl) (fun _ => Nat.le_of_ble_eq_true rfl) H (fun w5 I4 H => ?_)
  have ob6 := H.1
  have H := H.2
  have ob7 := H.1
  have H := H.2
  refine r_icmp_eq (tgt := 1339) dL_law_302 (by decide) ob6 ob7 (fun c8 => ?_) (fun c8 => ?_)
  · have H := H.1 c8
    exact H
  · have H := H.2 c8
    refine r_iconst dL_law_305 ?_
    exact H.elim

theorem vL_law_307 {d L : Nat} {xs : Int → Int} {I : ax_H} (hL : L ≤ 3584) (hxs : ∀ n, ax_R (xs n))  {x3 : Int} (H :
  (0 ≤ (x3 + 1) ∧ (x3 + 1) < L) ∧
  (cI (d + 13) kX10_table [ax_r 0, ax_i (xs (x3 + 1))] I (fun w3 I2 =>
  cI (d + 13) kX11_table [ax_r 85, ax_i (xs (x3 + 1))] I2 (fun w5 I4 =>
  ax_R w3 ∧
  (ax_R w5 ∧
  ((w3 = w5 →
    RLw (d + 14) L xs 1339 [some (ax_r 1000001), some (ax_r 0), some (ax_r 85), some (ax_i x3)] I4) ∧
  (¬ w3 = w5 →
    False))))))) :
  RLw (d + 14) L xs 307 [some (ax_r 1000001), some (ax_r 0), some (ax_r 85), some (ax_i x3)] I := by
  have hL : L < 2147483648 := by omega
  show Rn _ _ _ _ _ _ _ _
  refine r_aload_n dL_law_307 rfl ?_
  refine r_aload_n dL_law_308 rfl ?_
  refine r_iload_n dL_law_309 rfl ?_
  refine r_iconst dL_law_310 ?_
  refine r_iadd dL_law_311 ?_
  have ob1 := H.1
  have H := H.2
  refine r_sld rfl hL dL_law_312 ob1 ?_
  refine r_cI (as := [ax_r 0, ax_i (xs (x3 + 1))]) (how_V (ci := 10) jX10_table jIX10_table jVX10_table rfl s0_0 (by decide) rfl rfl wL_28 dL_law_313) rfl (Nat.le_refl _) (Nat.le_of_ble_eq_true rfl) (fun _ => Nat.le_of_ble_eq_true rfl) H (fun w3 I2 H => ?_)
  refine r_aload_n dL_law_316 rfl ?_
  refine r_aload_n dL_law_317 rfl ?_
  refine r_iload_n dL_law_318 rfl ?_
  refine r_iconst dL_law_319 ?_
  refine r_iadd dL_law_320 ?_
  refine r_sld rfl hL dL_law_321 ob1 ?_
  refine r_cI (as := [ax_r 85, ax_i (xs (x3 + 1))]) (how_V (ci := 11) jX11_table jIX11_table jVX11_table rfl s0_85 (by decide) rfl rfl wL_31 dL_law_322) rfl (Nat.le_refl _) (Nat.le_of_ble_eq_true rfl) (fun _ => Nat.le_of_ble_eq_true rfl) H (fun w5 I4 H => ?_)
  have ob6 := H.1
  have H := H.2
  have ob7 := H.1
  have H := H.2
  refine r_icmp_eq (tgt := 1339) dL_law_325 (by decide) ob6 ob7 (fun c8 => ?_) (fun c8 => ?_)
  · have H := H.1 c8
    exact H
  · have H := H.2 c8
    refine r_iconst dL_law_328 ?_
    exact H.elim

theorem vL_law_330 {d L : Nat} {xs : Int → Int} {I : ax_H} (hL : L ≤ 3584) (hxs : ∀ n, ax_R (xs n))  {x3 : Int} (H :
  (0 ≤ (x3 + 1) ∧ (x3 + 1) < L) ∧
  ((0 ≤ (x3 + 2) ∧ (x3 + 2) < L) ∧
  ((0 ≤ (x3 + 3) ∧ (x3 + 3) < L) ∧
  (cI (d + 13) kX10_value [ax_r 0, ax_i (xs (x3 + 1)), ax_i (xs (x3 + 2)), ax_i (xs (x3 + 3))] I (fun w5 I4 =>
  cI (d + 13) kX11_value [ax_r 85, ax_i (xs (x3 + 1)), ax_i (xs (x3 + 2)), ax_i (xs (x3 + 3))] I4 (fun w7 I6 =>
  ax_R w5 ∧
  (ax_R w7 ∧
  ((w5 = w7 →
    RLw (d + 14) L xs 1339 [some (ax_r 1000001), some (ax_r 0), some (ax_r 85), some (ax_i x3)] I6) ∧
  (¬ w5 = w7 →
    False))))))))) :
  RLw (d + 14) L xs 330 [some (ax_r 1000001), some (ax_r 0), some (ax_r 85), some (ax_i x3)] I := by
  have hL : L < 2147483648 := by omega
  show Rn _ _ _ _ _ _ _ _
  refine r_aload_n dL_law_330 rfl ?_
  refine r_aload_n dL_law_331 rfl ?_
  refine r_iload_n dL_law_332 rfl ?_
  refine r_iconst dL_law_333 ?_
  refine r_iadd dL_law_334 ?_
  have ob1 := H.1
  have H := H.2
  refine r_sld rfl hL dL_law_335 ob1 ?_
  refine r_aload_n dL_law_336 rfl ?_
  refine r_iload_n dL_law_337 rfl ?_
  refine r_iconst dL_law_338 ?_
  refine r_iadd dL_law_339 ?_
  have ob2 := H.1
  have H := H.2
  refine r_sld rfl hL dL_law_340 ob2 ?_
  refine r_aload_n dL_law_341 rfl ?_
  refine r_iload_n dL_law_342 rfl ?_
  refine r_iconst dL_law_343 ?_
  refine r_iadd dL_law_344 ?_
  have ob3 := H.1
  have H := H.2
  refine r_sld rfl hL dL_law_345 ob3 ?_
  refine r_cI (as := [ax_r 0, ax_i (xs (x3 + 1)), ax_i (xs (x3 + 2)), ax_i (xs (x3 + 3))]) (how_V (ci := 10) jX10_value jIX10_value jVX10_value rfl s0_0 (by decide) rfl rfl wL_32 dL_law_346) rfl (Nat.le_refl _) (Nat.le_of_ble_eq_true rfl) (fun _ => Nat.le_of_ble_eq_true rfl) H (fun w5 I4 H => ?_)
  refine r_aload_n dL_law_349 rfl ?_
  refine r_aload_n dL_law_350 rfl ?_
  refine r_iload_n dL_law_351 rfl ?_
  refine r_iconst dL_law_352 ?_
  refine r_iadd dL_law_353 ?_
  refine r_sld rfl hL dL_law_354 ob1 ?_
  refine r_aload_n dL_law_355 rfl ?_
  refine r_iload_n dL_law_356 rfl ?_
  refine r_iconst dL_law_357 ?_
  refine r_iadd dL_law_358 ?_
  refine r_sld rfl hL dL_law_359 ob2 ?_
  refine r_aload_n dL_law_360 rfl ?_
  refine r_iload_n dL_law_361 rfl ?_
  refine r_iconst dL_law_362 ?_
  refine r_iadd dL_law_363 ?_
  refine r_sld rfl hL dL_law_364 ob3 ?_
  refine r_cI (as := [ax_r 85, ax_i (xs (x3 + 1)), ax_i (xs (x3 + 2)), ax_i (xs (x3 + 3))]) (how_V (ci := 11) jX11_value jIX11_value jVX11_value rfl s0_85 (by decide) rfl rfl wL_35 dL_law_365) rfl (Nat.le_refl _) (Nat.le_of_ble_eq_true rfl) (fun _ => Nat.le_of_ble_eq_true rfl) H (fun w7 I6 H => ?_)
  have ob8 := H.1
  have H := H.2
  have ob9 := H.1
  have H := H.2
  refine r_icmp_eq (tgt := 1339) dL_law_368 (by decide) ob8 ob9 (fun c10 => ?_) (fun c10 => ?_)
  · have H := H.1 c10
    exact H
  · have H := H.2 c10
    refine r_iconst dL_law_371 ?_
    exact H.elim

theorem vL_law_373 {d L : Nat} {xs : Int → Int} {I : ax_H} (hL : L ≤ 3584) (hxs : ∀ n, ax_R (xs n))  {x3 : Int} (H :
  (0 ≤ (x3 + 1) ∧ (x3 + 1) < L) ∧
  ((0 ≤ (x3 + 2) ∧ (x3 + 2) < L) ∧
  (cI (d + 13) kX10_kept [ax_r 0, ax_i (xs (x3 + 1)), ax_i (xs (x3 + 2))] I (fun w4 I3 =>
  cI (d + 13) kX11_kept [ax_r 85, ax_i (xs (x3 + 1)), ax_i (xs (x3 + 2))] I3 (fun w6 I5 =>
  ax_R w4 ∧
  (ax_R w6 ∧
  ((w4 = w6 →
    RLw (d + 14) L xs 1339 [some (ax_r 1000001), some (ax_r 0), some (ax_r 85), some (ax_i x3)] I5) ∧
  (¬ w4 = w6 →
    False)))))))) :
  RLw (d + 14) L xs 373 [some (ax_r 1000001), some (ax_r 0), some (ax_r 85), some (ax_i x3)] I := by
  have hL : L < 2147483648 := by omega
  show Rn _ _ _ _ _ _ _ _
  refine r_aload_n dL_law_373 rfl ?_
  refine r_aload_n dL_law_374 rfl ?_
  refine r_iload_n dL_law_375 rfl ?_
  refine r_iconst dL_law_376 ?_
  refine r_iadd dL_law_377 ?_
  have ob1 := H.1
  have H := H.2
  refine r_sld rfl hL dL_law_378 ob1 ?_
  refine r_aload_n dL_law_379 rfl ?_
  refine r_iload_n dL_law_380 rfl ?_
  refine r_iconst dL_law_381 ?_
  refine r_iadd dL_law_382 ?_
  have ob2 := H.1
  have H := H.2
  refine r_sld rfl hL dL_law_383 ob2 ?_
  refine r_cI (as := [ax_r 0, ax_i (xs (x3 + 1)), ax_i (xs (x3 + 2))]) (how_V (ci := 10) jX10_kept jIX10_kept jVX10_kept rfl s0_0 (by decide) rfl rfl wL_36 dL_law_384) rfl (Nat.le_refl _) (Nat.le_of_ble_eq_true rfl) (fun _ => Nat.le_of_ble_eq_true rfl) H (fun w4 I3 H => ?_)
  refine r_aload_n dL_law_387 rfl ?_
  refine r_aload_n dL_law_388 rfl ?_
  refine r_iload_n dL_law_389 rfl ?_
  refine r_iconst dL_law_390 ?_
  refine r_iadd dL_law_391 ?_
  refine r_sld rfl hL dL_law_392 ob1 ?_
  refine r_aload_n dL_law_393 rfl ?_
  refine r_iload_n dL_law_394 rfl ?_
  refine r_iconst dL_law_395 ?_
  refine r_iadd dL_law_396 ?_
  refine r_sld rfl hL dL_law_397 ob2 ?_
  refine r_cI (as := [ax_r 85, ax_i (xs (x3 + 1)), ax_i (xs (x3 + 2))]) (how_V (ci := 11) jX11_kept jIX11_kept jVX11_kept rfl s0_85 (by decide) rfl rfl wL_40 dL_law_398) rfl (Nat.le_refl _) (Nat.le_of_ble_eq_true rfl) (fun _ => Nat.le_of_ble_eq_true rfl) H (fun w6 I5 H => ?_)
  have ob7 := H.1
  have H := H.2
  have ob8 := H.1
  have H := H.2
  refine r_icmp_eq (tgt := 1339) dL_law_401 (by decide) ob7 ob8 (fun c9 => ?_) (fun c9 => ?_)
  · have H := H.1 c9
    exact H
  · have H := H.2 c9
    refine r_iconst dL_law_404 ?_
    exact H.elim

theorem vL_law_406 {d L : Nat} {xs : Int → Int} {I : ax_H} (hL : L ≤ 3584) (hxs : ∀ n, ax_R (xs n))  {x3 : Int} (H :
  (0 ≤ (x3 + 1) ∧ (x3 + 1) < L) ∧
  ((0 ≤ (x3 + 2) ∧ (x3 + 2) < L) ∧
  ((0 ≤ (x3 + 3) ∧ (x3 + 3) < L) ∧
  (cI (d + 13) kX10_swap [ax_r 0, ax_i (xs (x3 + 1)), ax_i (xs (x3 + 2)), ax_i (xs (x3 + 3))] I (fun w5 I4 =>
  cI (d + 13) kX11_swap [ax_r 85, ax_i (xs (x3 + 1)), ax_i (xs (x3 + 2)), ax_i (xs (x3 + 3))] I4 (fun w7 I6 =>
  ax_R w5 ∧
  (ax_R w7 ∧
  ((w5 = w7 →
    RLw (d + 14) L xs 1339 [some (ax_r 1000001), some (ax_r 0), some (ax_r 85), some (ax_i x3)] I6) ∧
  (¬ w5 = w7 →
    False))))))))) :
  RLw (d + 14) L xs 406 [some (ax_r 1000001), some (ax_r 0), some (ax_r 85), some (ax_i x3)] I := by
  have hL : L < 2147483648 := by omega
  show Rn _ _ _ _ _ _ _ _
  refine r_aload_n dL_law_406 rfl ?_
  refine r_aload_n dL_law_407 rfl ?_
  refine r_iload_n dL_law_408 rfl ?_
  refine r_iconst dL_law_409 ?_
  refine r_iadd dL_law_410 ?_
  have ob1 := H.1
  have H := H.2
  refine r_sld rfl hL dL_law_411 ob1 ?_
  refine r_aload_n dL_law_412 rfl ?_
  refine r_iload_n dL_law_413 rfl ?_
  refine r_iconst dL_law_414 ?_
  refine r_iadd dL_law_415 ?_
  have ob2 := H.1
  have H := H.2
  refine r_sld rfl hL dL_law_416 ob2 ?_
  refine r_aload_n dL_law_417 rfl ?_
  refine r_iload_n dL_law_418 rfl ?_
  refine r_iconst dL_law_419 ?_
  refine r_iadd dL_law_420 ?_
  have ob3 := H.1
  have H := H.2
  refine r_sld rfl hL dL_law_421 ob3 ?_
  refine r_cI (as := [ax_r 0, ax_i (xs (x3 + 1)), ax_i (xs (x3 + 2)), ax_i (xs (x3 + 3))]) (how_V (ci := 10) jX10_swap jIX10_swap jVX10_swap rfl s0_0 (by decide) rfl rfl wL_41 dL_law_422) rfl (Nat.le_refl _) (Nat.le_of_ble_eq_true rfl) (fun _ => Nat.le_of_ble_eq_true rfl) H (fun w5 I4 H => ?_)
  refine r_aload_n dL_law_425 rfl ?_
  refine r_aload_n dL_law_426 rfl ?_
  refine r_iload_n dL_law_427 rfl ?_
  refine r_iconst dL_law_428 ?_
  refine r_iadd dL_law_429 ?_
  refine r_sld rfl hL dL_law_430 ob1 ?_
  refine r_aload_n dL_law_431 rfl ?_
  refine r_iload_n dL_law_432 rfl ?_
  refine r_iconst dL_law_433 ?_
  refine r_iadd dL_law_434 ?_
  refine r_sld rfl hL dL_law_435 ob2 ?_
  refine r_aload_n dL_law_436 rfl ?_
  refine r_iload_n dL_law_437 rfl ?_
  refine r_iconst dL_law_438 ?_
  refine r_iadd dL_law_439 ?_
  refine r_sld rfl hL dL_law_440 ob3 ?_
  refine r_cI (as := [ax_r 85, ax_i (xs (x3 + 1)), ax_i (xs (x3 + 2)), ax_i (xs (x3 + 3))]) (how_V (ci := 11) jX11_swap jIX11_swap jVX11_swap rfl s0_85 (by decide) rfl rfl wL_44 dL_law_441) rfl (Nat.le_refl _) (Nat.le_of_ble_eq_true rfl) (fun _ => Nat.le_of_ble_eq_true rfl) H (fun w7 I6 H => ?_)
  have ob8 := H.1
  have H := H.2
  have ob9 := H.1
  have H := H.2
  refine r_icmp_eq (tgt := 1339) dL_law_444 (by decide) ob8 ob9 (fun c10 => ?_) (fun c10 => ?_)
  · have H := H.1 c10
    exact H
  · have H := H.2 c10
    refine r_iconst dL_law_447 ?_
    exact H.elim

theorem vL_law_449 {d L : Nat} {xs : Int → Int} {I : ax_H} (hL : L ≤ 3584) (hxs : ∀ n, ax_R (xs n))  {x3 : Int} (H :
  (0 ≤ (x3 + 1) ∧ (x3 + 1) < L) ∧
  ((0 ≤ (x3 + 2) ∧ (x3 + 2) < L) ∧
  ((0 ≤ (x3 + 3) ∧ (x3 + 3) < L) ∧
  (cI (d + 13) kX10_row [ax_r 0, ax_i (xs (x3 + 1)), ax_i (xs (x3 + 2)), ax_i (xs (x3 + 3))] I (fun w5 I4 =>
  cI (d + 13) kX11_row [ax_r 85, ax_i (xs (x3 + 1)), ax_i (xs (x3 + 2)), ax_i (xs (x3 + 3))] I4 (fun w7 I6 =>
  ax_R w5 ∧
  (ax_R w7 ∧
  ((w5 = w7 →
    RLw (d + 14) L xs 1339 [some (ax_r 1000001), some (ax_r 0), some (ax_r 85), some (ax_i x3)] I6) ∧
  (¬ w5 = w7 →
    False))))))))) :
  RLw (d + 14) L xs 449 [some (ax_r 1000001), some (ax_r 0), some (ax_r 85), some (ax_i x3)] I := by
  have hL : L < 2147483648 := by omega
  show Rn _ _ _ _ _ _ _ _
  refine r_aload_n dL_law_449 rfl ?_
  refine r_aload_n dL_law_450 rfl ?_
  refine r_iload_n dL_law_451 rfl ?_
  refine r_iconst dL_law_452 ?_
  refine r_iadd dL_law_453 ?_
  have ob1 := H.1
  have H := H.2
  refine r_sld rfl hL dL_law_454 ob1 ?_
  refine r_aload_n dL_law_455 rfl ?_
  refine r_iload_n dL_law_456 rfl ?_
  refine r_iconst dL_law_457 ?_
  refine r_iadd dL_law_458 ?_
  have ob2 := H.1
  have H := H.2
  refine r_sld rfl hL dL_law_459 ob2 ?_
  refine r_aload_n dL_law_460 rfl ?_
  refine r_iload_n dL_law_461 rfl ?_
  refine r_iconst dL_law_462 ?_
  refine r_iadd dL_law_463 ?_
  have ob3 := H.1
  have H := H.2
  refine r_sld rfl hL dL_law_464 ob3 ?_
  refine r_cI (as := [ax_r 0, ax_i (xs (x3 + 1)), ax_i (xs (x3 + 2)), ax_i (xs (x3 + 3))]) (how_V (ci := 10) jX10_row jIX10_row jVX10_row rfl s0_0 (by decide) rfl rfl wL_45 dL_law_465) rfl (Nat.le_refl _) (Nat.le_of_ble_eq_true rfl) (fun _ => Nat.le_of_ble_eq_true rfl) H (fun w5 I4 H => ?_)
  refine r_aload_n dL_law_468 rfl ?_
  refine r_aload_n dL_law_469 rfl ?_
  refine r_iload_n dL_law_470 rfl ?_
  refine r_iconst dL_law_471 ?_
  refine r_iadd dL_law_472 ?_
  refine r_sld rfl hL dL_law_473 ob1 ?_
  refine r_aload_n dL_law_474 rfl ?_
  refine r_iload_n dL_law_475 rfl ?_
  refine r_iconst dL_law_476 ?_
  refine r_iadd dL_law_477 ?_
  refine r_sld rfl hL dL_law_478 ob2 ?_
  refine r_aload_n dL_law_479 rfl ?_
  refine r_iload_n dL_law_480 rfl ?_
  refine r_iconst dL_law_481 ?_
  refine r_iadd dL_law_482 ?_
  refine r_sld rfl hL dL_law_483 ob3 ?_
  refine r_cI (as := [ax_r 85, ax_i (xs (x3 + 1)), ax_i (xs (x3 + 2)), ax_i (xs (x3 + 3))]) (how_V (ci := 11) jX11_row jIX11_row jVX11_row rfl s0_85 (by decide) rfl rfl wL_48 dL_law_484) rfl (Nat.le_refl _) (Nat.le_of_ble_eq_true rfl) (fun _ => Nat.le_of_ble_eq_true rfl) H (fun w7 I6 H => ?_)
  have ob8 := H.1
  have H := H.2
  have ob9 := H.1
  have H := H.2
  refine r_icmp_eq (tgt := 1339) dL_law_487 (by decide) ob8 ob9 (fun c10 => ?_) (fun c10 => ?_)
  · have H := H.1 c10
    exact H
  · have H := H.2 c10
    refine r_iconst dL_law_490 ?_
    exact H.elim

theorem vL_law_492 {d L : Nat} {xs : Int → Int} {I : ax_H} (hL : L ≤ 3584) (hxs : ∀ n, ax_R (xs n))  {x3 : Int} (H :
  (0 ≤ (x3 + 1) ∧ (x3 + 1) < L) ∧
  (cJ (d + 13) kX10_pinched [ax_r 0, ax_i (xs (x3 + 1))] I (fun w3 I2 =>
  cJ (d + 13) kX11_pinched [ax_r 85, ax_i (xs (x3 + 1))] I2 (fun w5 I4 =>
  ax_R8 w3 ∧
  (ax_R8 w5 ∧
  (ax_R (ax_cmp w3 w5) ∧
  (((ax_cmp w3 w5) = 0 →
    RLw (d + 14) L xs 1339 [some (ax_r 1000001), some (ax_r 0), some (ax_r 85), some (ax_i x3)] I4) ∧
  (¬ (ax_cmp w3 w5) = 0 →
    False)))))))) :
  RLw (d + 14) L xs 492 [some (ax_r 1000001), some (ax_r 0), some (ax_r 85), some (ax_i x3)] I := by
  have hL : L < 2147483648 := by omega
  show Rn _ _ _ _ _ _ _ _
  refine r_aload_n dL_law_492 rfl ?_
  refine r_aload_n dL_law_493 rfl ?_
  refine r_iload_n dL_law_494 rfl ?_
  refine r_iconst dL_law_495 ?_
  refine r_iadd dL_law_496 ?_
  have ob1 := H.1
  have H := H.2
  refine r_sld rfl hL dL_law_497 ob1 ?_
  refine r_cJ (as := [ax_r 0, ax_i (xs (x3 + 1))]) (how_V (ci := 10) jX10_pinched jIX10_pinched jVX10_pinched rfl s0_0 (by decide) rfl rfl wL_49 dL_law_498) rfl (Nat.le_refl _) (Nat.le_of_ble_eq_true rfl) (fun _ => Nat.le_of_ble_eq_true rfl) H (fun w3 I2 H => ?_)
  refine r_aload_n dL_law_501 rfl ?_
  refine r_aload_n dL_law_502 rfl ?_
  refine r_iload_n dL_law_503 rfl ?_
  refine r_iconst dL_law_504 ?_
  refine r_iadd dL_law_505 ?_
  refine r_sld rfl hL dL_law_506 ob1 ?_
  refine r_cJ (as := [ax_r 85, ax_i (xs (x3 + 1))]) (how_V (ci := 11) jX11_pinched jIX11_pinched jVX11_pinched rfl s0_85 (by decide) rfl rfl wL_53 dL_law_507) rfl (Nat.le_refl _) (Nat.le_of_ble_eq_true rfl) (fun _ => Nat.le_of_ble_eq_true rfl) H (fun w5 I4 H => ?_)
  have ob6 := H.1
  have H := H.2
  have ob7 := H.1
  have H := H.2
  refine r_lcmp dL_law_510 ob6 ob7 ?_
  have ob8 := H.1
  have H := H.2
  refine r_if_eq (tgt := 1339) dL_law_511 (by decide) ob8 (fun c9 => ?_) (fun c9 => ?_)
  · have H := H.1 c9
    exact H
  · have H := H.2 c9
    refine r_iconst dL_law_514 ?_
    exact H.elim

theorem vL_law_516 {d L : Nat} {xs : Int → Int} {I : ax_H} (hL : L ≤ 3584) (hxs : ∀ n, ax_R (xs n))  {x3 : Int} (H :
  (0 ≤ (x3 + 1) ∧ (x3 + 1) < L) ∧
  ((0 ≤ (x3 + 2) ∧ (x3 + 2) < L) ∧
  ((0 ≤ (x3 + 3) ∧ (x3 + 3) < L) ∧
  (cI (d + 13) kX10_behind [ax_r 0, ax_i (xs (x3 + 1)), ax_i (xs (x3 + 2)), ax_i (xs (x3 + 3))] I (fun w5 I4 =>
  cI (d + 13) kX11_behind [ax_r 85, ax_i (xs (x3 + 1)), ax_i (xs (x3 + 2)), ax_i (xs (x3 + 3))] I4 (fun w7 I6 =>
  ax_R w5 ∧
  (ax_R w7 ∧
  ((w5 = w7 →
    RLw (d + 14) L xs 1339 [some (ax_r 1000001), some (ax_r 0), some (ax_r 85), some (ax_i x3)] I6) ∧
  (¬ w5 = w7 →
    False))))))))) :
  RLw (d + 14) L xs 516 [some (ax_r 1000001), some (ax_r 0), some (ax_r 85), some (ax_i x3)] I := by
  have hL : L < 2147483648 := by omega
  show Rn _ _ _ _ _ _ _ _
  refine r_aload_n dL_law_516 rfl ?_
  refine r_aload_n dL_law_517 rfl ?_
  refine r_iload_n dL_law_518 rfl ?_
  refine r_iconst dL_law_519 ?_
  refine r_iadd dL_law_520 ?_
  have ob1 := H.1
  have H := H.2
  refine r_sld rfl hL dL_law_521 ob1 ?_
  refine r_aload_n dL_law_522 rfl ?_
  refine r_iload_n dL_law_523 rfl ?_
  refine r_iconst dL_law_524 ?_
  refine r_iadd dL_law_525 ?_
  have ob2 := H.1
  have H := H.2
  refine r_sld rfl hL dL_law_526 ob2 ?_
  refine r_aload_n dL_law_527 rfl ?_
  refine r_iload_n dL_law_528 rfl ?_
  refine r_iconst dL_law_529 ?_
  refine r_iadd dL_law_530 ?_
  have ob3 := H.1
  have H := H.2
  refine r_sld rfl hL dL_law_531 ob3 ?_
  refine r_cI (as := [ax_r 0, ax_i (xs (x3 + 1)), ax_i (xs (x3 + 2)), ax_i (xs (x3 + 3))]) (how_V (ci := 10) jX10_behind jIX10_behind jVX10_behind rfl s0_0 (by decide) rfl rfl wL_54 dL_law_532) rfl (Nat.le_refl _) (Nat.le_of_ble_eq_true rfl) (fun _ => Nat.le_of_ble_eq_true rfl) H (fun w5 I4 H => ?_)
  refine r_aload_n dL_law_535 rfl ?_
  refine r_aload_n dL_law_536 rfl ?_
  refine r_iload_n dL_law_537 rfl ?_
  refine r_iconst dL_law_538 ?_
  refine r_iadd dL_law_539 ?_
  refine r_sld rfl hL dL_law_540 ob1 ?_
  refine r_aload_n dL_law_541 rfl ?_
  refine r_iload_n dL_law_542 rfl ?_
  refine r_iconst dL_law_543 ?_
  refine r_iadd dL_law_544 ?_
  refine r_sld rfl hL dL_law_545 ob2 ?_
  refine r_aload_n dL_law_546 rfl ?_
  refine r_iload_n dL_law_547 rfl ?_
  refine r_iconst dL_law_548 ?_
  refine r_iadd dL_law_549 ?_
  refine r_sld rfl hL dL_law_550 ob3 ?_
  refine r_cI (as := [ax_r 85, ax_i (xs (x3 + 1)), ax_i (xs (x3 + 2)), ax_i (xs (x3 + 3))]) (how_V (ci := 11) jX11_behind jIX11_behind jVX11_behind rfl s0_85 (by decide) rfl rfl wL_57 dL_law_551) rfl (Nat.le_refl _) (Nat.le_of_ble_eq_true rfl) (fun _ => Nat.le_of_ble_eq_true rfl) H (fun w7 I6 H => ?_)
  have ob8 := H.1
  have H := H.2
  have ob9 := H.1
  have H := H.2
  refine r_icmp_eq (tgt := 1339) dL_law_554 (by decide) ob8 ob9 (fun c10 => ?_) (fun c10 => ?_)
  · have H := H.1 c10
    exact H
  · have H := H.2 c10
    refine r_iconst dL_law_557 ?_
    exact H.elim

theorem vL_law_559 {d L : Nat} {xs : Int → Int} {I : ax_H} (hL : L ≤ 3584) (hxs : ∀ n, ax_R (xs n))  {x3 : Int} (H :
  (0 ≤ (x3 + 1) ∧ (x3 + 1) < L) ∧
  ((0 ≤ (x3 + 2) ∧ (x3 + 2) < L) ∧
  (cI (d + 13) kX10_period [ax_r 0, ax_i (xs (x3 + 1)), ax_i (xs (x3 + 2))] I (fun w4 I3 =>
  cI (d + 13) kX11_period [ax_r 85, ax_i (xs (x3 + 1)), ax_i (xs (x3 + 2))] I3 (fun w6 I5 =>
  ax_R w4 ∧
  (ax_R w6 ∧
  ((w4 = w6 →
    RLw (d + 14) L xs 1339 [some (ax_r 1000001), some (ax_r 0), some (ax_r 85), some (ax_i x3)] I5) ∧
  (¬ w4 = w6 →
    False)))))))) :
  RLw (d + 14) L xs 559 [some (ax_r 1000001), some (ax_r 0), some (ax_r 85), some (ax_i x3)] I := by
  have hL : L < 2147483648 := by omega
  show Rn _ _ _ _ _ _ _ _
  refine r_aload_n dL_law_559 rfl ?_
  refine r_aload_n dL_law_560 rfl ?_
  refine r_iload_n dL_law_561 rfl ?_
  refine r_iconst dL_law_562 ?_
  refine r_iadd dL_law_563 ?_
  have ob1 := H.1
  have H := H.2
  refine r_sld rfl hL dL_law_564 ob1 ?_
  refine r_aload_n dL_law_565 rfl ?_
  refine r_iload_n dL_law_566 rfl ?_
  refine r_iconst dL_law_567 ?_
  refine r_iadd dL_law_568 ?_
  have ob2 := H.1
  have H := H.2
  refine r_sld rfl hL dL_law_569 ob2 ?_
  refine r_cI (as := [ax_r 0, ax_i (xs (x3 + 1)), ax_i (xs (x3 + 2))]) (how_V (ci := 10) jX10_period jIX10_period jVX10_period rfl s0_0 (by decide) rfl rfl wL_58 dL_law_570) rfl (Nat.le_refl _) (Nat.le_of_ble_eq_true rfl) (fun _ => Nat.le_of_ble_eq_true rfl) H (fun w4 I3 H => ?_)
  refine r_aload_n dL_law_573 rfl ?_
  refine r_aload_n dL_law_574 rfl ?_
  refine r_iload_n dL_law_575 rfl ?_
  refine r_iconst dL_law_576 ?_
  refine r_iadd dL_law_577 ?_
  refine r_sld rfl hL dL_law_578 ob1 ?_
  refine r_aload_n dL_law_579 rfl ?_
  refine r_iload_n dL_law_580 rfl ?_
  refine r_iconst dL_law_581 ?_
  refine r_iadd dL_law_582 ?_
  refine r_sld rfl hL dL_law_583 ob2 ?_
  refine r_cI (as := [ax_r 85, ax_i (xs (x3 + 1)), ax_i (xs (x3 + 2))]) (how_V (ci := 11) jX11_period jIX11_period jVX11_period rfl s0_85 (by decide) rfl rfl wL_61 dL_law_584) rfl (Nat.le_refl _) (Nat.le_of_ble_eq_true rfl) (fun _ => Nat.le_of_ble_eq_true rfl) H (fun w6 I5 H => ?_)
  have ob7 := H.1
  have H := H.2
  have ob8 := H.1
  have H := H.2
  refine r_icmp_eq (tgt := 1339) dL_law_587 (by decide) ob7 ob8 (fun c9 => ?_) (fun c9 => ?_)
  · have H := H.1 c9
    exact H
  · have H := H.2 c9
    refine r_iconst dL_law_590 ?_
    exact H.elim

theorem vL_law_592 {d L : Nat} {xs : Int → Int} {I : ax_H} (hL : L ≤ 3584) (hxs : ∀ n, ax_R (xs n))  {x3 : Int} (H :
  (0 ≤ (x3 + 1) ∧ (x3 + 1) < L) ∧
  ((0 ≤ (x3 + 2) ∧ (x3 + 2) < L) ∧
  (cI (d + 13) kX10_fibre [ax_r 0, ax_i (xs (x3 + 1)), ax_i (xs (x3 + 2))] I (fun w4 I3 =>
  cI (d + 13) kX11_fibre [ax_r 85, ax_i (xs (x3 + 1)), ax_i (xs (x3 + 2))] I3 (fun w6 I5 =>
  ax_R w4 ∧
  (ax_R w6 ∧
  ((w4 = w6 →
    RLw (d + 14) L xs 1339 [some (ax_r 1000001), some (ax_r 0), some (ax_r 85), some (ax_i x3)] I5) ∧
  (¬ w4 = w6 →
    False)))))))) :
  RLw (d + 14) L xs 592 [some (ax_r 1000001), some (ax_r 0), some (ax_r 85), some (ax_i x3)] I := by
  have hL : L < 2147483648 := by omega
  show Rn _ _ _ _ _ _ _ _
  refine r_aload_n dL_law_592 rfl ?_
  refine r_aload_n dL_law_593 rfl ?_
  refine r_iload_n dL_law_594 rfl ?_
  refine r_iconst dL_law_595 ?_
  refine r_iadd dL_law_596 ?_
  have ob1 := H.1
  have H := H.2
  refine r_sld rfl hL dL_law_597 ob1 ?_
  refine r_aload_n dL_law_598 rfl ?_
  refine r_iload_n dL_law_599 rfl ?_
  refine r_iconst dL_law_600 ?_
  refine r_iadd dL_law_601 ?_
  have ob2 := H.1
  have H := H.2
  refine r_sld rfl hL dL_law_602 ob2 ?_
  refine r_cI (as := [ax_r 0, ax_i (xs (x3 + 1)), ax_i (xs (x3 + 2))]) (how_V (ci := 10) jX10_fibre jIX10_fibre jVX10_fibre rfl s0_0 (by decide) rfl rfl wL_62 dL_law_603) rfl (Nat.le_refl _) (Nat.le_of_ble_eq_true rfl) (fun _ => Nat.le_of_ble_eq_true rfl) H (fun w4 I3 H => ?_)
  refine r_aload_n dL_law_606 rfl ?_
  refine r_aload_n dL_law_607 rfl ?_
  refine r_iload_n dL_law_608 rfl ?_
  refine r_iconst dL_law_609 ?_
  refine r_iadd dL_law_610 ?_
  refine r_sld rfl hL dL_law_611 ob1 ?_
  refine r_aload_n dL_law_612 rfl ?_
  refine r_iload_n dL_law_613 rfl ?_
  refine r_iconst dL_law_614 ?_
  refine r_iadd dL_law_615 ?_
  refine r_sld rfl hL dL_law_616 ob2 ?_
  refine r_cI (as := [ax_r 85, ax_i (xs (x3 + 1)), ax_i (xs (x3 + 2))]) (how_V (ci := 11) jX11_fibre jIX11_fibre jVX11_fibre rfl s0_85 (by decide) rfl rfl wL_65 dL_law_617) rfl (Nat.le_refl _) (Nat.le_of_ble_eq_true rfl) (fun _ => Nat.le_of_ble_eq_true rfl) H (fun w6 I5 H => ?_)
  have ob7 := H.1
  have H := H.2
  have ob8 := H.1
  have H := H.2
  refine r_icmp_eq (tgt := 1339) dL_law_620 (by decide) ob7 ob8 (fun c9 => ?_) (fun c9 => ?_)
  · have H := H.1 c9
    exact H
  · have H := H.2 c9
    refine r_iconst dL_law_623 ?_
    exact H.elim

theorem vL_law_625 {d L : Nat} {xs : Int → Int} {I : ax_H} (hL : L ≤ 3584) (hxs : ∀ n, ax_R (xs n))  {x3 : Int} (H :
  (0 ≤ (x3 + 1) ∧ (x3 + 1) < L) ∧
  (cI (d + 13) kX10_base [ax_r 0, ax_i (xs (x3 + 1))] I (fun w3 I2 =>
  cI (d + 13) kX11_base [ax_r 85, ax_i (xs (x3 + 1))] I2 (fun w5 I4 =>
  ax_R w3 ∧
  (ax_R w5 ∧
  ((w3 = w5 →
    RLw (d + 14) L xs 1339 [some (ax_r 1000001), some (ax_r 0), some (ax_r 85), some (ax_i x3)] I4) ∧
  (¬ w3 = w5 →
    False))))))) :
  RLw (d + 14) L xs 625 [some (ax_r 1000001), some (ax_r 0), some (ax_r 85), some (ax_i x3)] I := by
  have hL : L < 2147483648 := by omega
  show Rn _ _ _ _ _ _ _ _
  refine r_aload_n dL_law_625 rfl ?_
  refine r_aload_n dL_law_626 rfl ?_
  refine r_iload_n dL_law_627 rfl ?_
  refine r_iconst dL_law_628 ?_
  refine r_iadd dL_law_629 ?_
  have ob1 := H.1
  have H := H.2
  refine r_sld rfl hL dL_law_630 ob1 ?_
  refine r_cI (as := [ax_r 0, ax_i (xs (x3 + 1))]) (how_V (ci := 10) jX10_base jIX10_base jVX10_base rfl s0_0 (by decide) rfl rfl wL_66 dL_law_631) rfl (Nat.le_refl _) (Nat.le_of_ble_eq_true rfl) (fun _ => Nat.le_of_ble_eq_true rfl) H (fun w3 I2 H => ?_)
  refine r_aload_n dL_law_634 rfl ?_
  refine r_aload_n dL_law_635 rfl ?_
  refine r_iload_n dL_law_636 rfl ?_
  refine r_iconst dL_law_637 ?_
  refine r_iadd dL_law_638 ?_
  refine r_sld rfl hL dL_law_639 ob1 ?_
  refine r_cI (as := [ax_r 85, ax_i (xs (x3 + 1))]) (how_V (ci := 11) jX11_base jIX11_base jVX11_base rfl s0_85 (by decide) rfl rfl wL_69 dL_law_640) rfl (Nat.le_refl _) (Nat.le_of_ble_eq_true rfl) (fun _ => Nat.le_of_ble_eq_true rfl) H (fun w5 I4 H => ?_)
  have ob6 := H.1
  have H := H.2
  have ob7 := H.1
  have H := H.2
  refine r_icmp_eq (tgt := 1339) dL_law_643 (by decide) ob6 ob7 (fun c8 => ?_) (fun c8 => ?_)
  · have H := H.1 c8
    exact H
  · have H := H.2 c8
    refine r_iconst dL_law_646 ?_
    exact H.elim

theorem vL_law_648 {d L : Nat} {xs : Int → Int} {I : ax_H} (hL : L ≤ 3584) (hxs : ∀ n, ax_R (xs n))  {x3 : Int} (H :
  (0 ≤ (x3 + 1) ∧ (x3 + 1) < L) ∧
  (cI (d + 13) kX10_rank [ax_r 0, ax_i (xs (x3 + 1))] I (fun w3 I2 =>
  cI (d + 13) kX11_rank [ax_r 85, ax_i (xs (x3 + 1))] I2 (fun w5 I4 =>
  ax_R w3 ∧
  (ax_R w5 ∧
  ((w3 = w5 →
    RLw (d + 14) L xs 1339 [some (ax_r 1000001), some (ax_r 0), some (ax_r 85), some (ax_i x3)] I4) ∧
  (¬ w3 = w5 →
    False))))))) :
  RLw (d + 14) L xs 648 [some (ax_r 1000001), some (ax_r 0), some (ax_r 85), some (ax_i x3)] I := by
  have hL : L < 2147483648 := by omega
  show Rn _ _ _ _ _ _ _ _
  refine r_aload_n dL_law_648 rfl ?_
  refine r_aload_n dL_law_649 rfl ?_
  refine r_iload_n dL_law_650 rfl ?_
  refine r_iconst dL_law_651 ?_
  refine r_iadd dL_law_652 ?_
  have ob1 := H.1
  have H := H.2
  refine r_sld rfl hL dL_law_653 ob1 ?_
  refine r_cI (as := [ax_r 0, ax_i (xs (x3 + 1))]) (how_V (ci := 10) jX10_rank jIX10_rank jVX10_rank rfl s0_0 (by decide) rfl rfl wL_70 dL_law_654) rfl (Nat.le_refl _) (Nat.le_of_ble_eq_true rfl) (fun _ => Nat.le_of_ble_eq_true rfl) H (fun w3 I2 H => ?_)
  refine r_aload_n dL_law_657 rfl ?_
  refine r_aload_n dL_law_658 rfl ?_
  refine r_iload_n dL_law_659 rfl ?_
  refine r_iconst dL_law_660 ?_
  refine r_iadd dL_law_661 ?_
  refine r_sld rfl hL dL_law_662 ob1 ?_
  refine r_cI (as := [ax_r 85, ax_i (xs (x3 + 1))]) (how_V (ci := 11) jX11_rank jIX11_rank jVX11_rank rfl s0_85 (by decide) rfl rfl wL_73 dL_law_663) rfl (Nat.le_refl _) (Nat.le_of_ble_eq_true rfl) (fun _ => Nat.le_of_ble_eq_true rfl) H (fun w5 I4 H => ?_)
  have ob6 := H.1
  have H := H.2
  have ob7 := H.1
  have H := H.2
  refine r_icmp_eq (tgt := 1339) dL_law_666 (by decide) ob6 ob7 (fun c8 => ?_) (fun c8 => ?_)
  · have H := H.1 c8
    exact H
  · have H := H.2 c8
    refine r_iconst dL_law_669 ?_
    exact H.elim

theorem vL_law_671 {d L : Nat} {xs : Int → Int} {I : ax_H} (hL : L ≤ 3584) (hxs : ∀ n, ax_R (xs n))  {x3 : Int} (H :
  (0 ≤ (x3 + 1) ∧ (x3 + 1) < L) ∧
  ((0 ≤ (x3 + 2) ∧ (x3 + 2) < L) ∧
  (cI (d + 13) kX10_cycles [ax_r 0, ax_i (xs (x3 + 1)), ax_i (xs (x3 + 2))] I (fun w4 I3 =>
  cI (d + 13) kX11_cycles [ax_r 85, ax_i (xs (x3 + 1)), ax_i (xs (x3 + 2))] I3 (fun w6 I5 =>
  ax_R w4 ∧
  (ax_R w6 ∧
  ((w4 = w6 →
    RLw (d + 14) L xs 1339 [some (ax_r 1000001), some (ax_r 0), some (ax_r 85), some (ax_i x3)] I5) ∧
  (¬ w4 = w6 →
    False)))))))) :
  RLw (d + 14) L xs 671 [some (ax_r 1000001), some (ax_r 0), some (ax_r 85), some (ax_i x3)] I := by
  have hL : L < 2147483648 := by omega
  show Rn _ _ _ _ _ _ _ _
  refine r_aload_n dL_law_671 rfl ?_
  refine r_aload_n dL_law_672 rfl ?_
  refine r_iload_n dL_law_673 rfl ?_
  refine r_iconst dL_law_674 ?_
  refine r_iadd dL_law_675 ?_
  have ob1 := H.1
  have H := H.2
  refine r_sld rfl hL dL_law_676 ob1 ?_
  refine r_aload_n dL_law_677 rfl ?_
  refine r_iload_n dL_law_678 rfl ?_
  refine r_iconst dL_law_679 ?_
  refine r_iadd dL_law_680 ?_
  have ob2 := H.1
  have H := H.2
  refine r_sld rfl hL dL_law_681 ob2 ?_
  refine r_cI (as := [ax_r 0, ax_i (xs (x3 + 1)), ax_i (xs (x3 + 2))]) (how_V (ci := 10) jX10_cycles jIX10_cycles jVX10_cycles rfl s0_0 (by decide) rfl rfl wL_74 dL_law_682) rfl (Nat.le_refl _) (Nat.le_of_ble_eq_true rfl) (fun _ => Nat.le_of_ble_eq_true rfl) H (fun w4 I3 H => ?_)
  refine r_aload_n dL_law_685 rfl ?_
  refine r_aload_n dL_law_686 rfl ?_
  refine r_iload_n dL_law_687 rfl ?_
  refine r_iconst dL_law_688 ?_
  refine r_iadd dL_law_689 ?_
  refine r_sld rfl hL dL_law_690 ob1 ?_
  refine r_aload_n dL_law_691 rfl ?_
  refine r_iload_n dL_law_692 rfl ?_
  refine r_iconst dL_law_693 ?_
  refine r_iadd dL_law_694 ?_
  refine r_sld rfl hL dL_law_695 ob2 ?_
  refine r_cI (as := [ax_r 85, ax_i (xs (x3 + 1)), ax_i (xs (x3 + 2))]) (how_V (ci := 11) jX11_cycles jIX11_cycles jVX11_cycles rfl s0_85 (by decide) rfl rfl wL_77 dL_law_696) rfl (Nat.le_refl _) (Nat.le_of_ble_eq_true rfl) (fun _ => Nat.le_of_ble_eq_true rfl) H (fun w6 I5 H => ?_)
  have ob7 := H.1
  have H := H.2
  have ob8 := H.1
  have H := H.2
  refine r_icmp_eq (tgt := 1339) dL_law_699 (by decide) ob7 ob8 (fun c9 => ?_) (fun c9 => ?_)
  · have H := H.1 c9
    exact H
  · have H := H.2 c9
    refine r_iconst dL_law_702 ?_
    exact H.elim

theorem vL_law_704 {d L : Nat} {xs : Int → Int} {I : ax_H} (hL : L ≤ 3584) (hxs : ∀ n, ax_R (xs n))  {x3 : Int} (H :
  (0 ≤ (x3 + 1) ∧ (x3 + 1) < L) ∧
  ((0 ≤ (x3 + 2) ∧ (x3 + 2) < L) ∧
  ((0 ≤ (x3 + 3) ∧ (x3 + 3) < L) ∧
  (cI (d + 13) kX10_degree [ax_r 0, ax_i (xs (x3 + 1)), ax_i (xs (x3 + 2)), ax_i (xs (x3 + 3))] I (fun w5 I4 =>
  cI (d + 13) kX11_degree [ax_r 85, ax_i (xs (x3 + 1)), ax_i (xs (x3 + 2)), ax_i (xs (x3 + 3))] I4 (fun w7 I6 =>
  ax_R w5 ∧
  (ax_R w7 ∧
  ((w5 = w7 →
    RLw (d + 14) L xs 1339 [some (ax_r 1000001), some (ax_r 0), some (ax_r 85), some (ax_i x3)] I6) ∧
  (¬ w5 = w7 →
    False))))))))) :
  RLw (d + 14) L xs 704 [some (ax_r 1000001), some (ax_r 0), some (ax_r 85), some (ax_i x3)] I := by
  have hL : L < 2147483648 := by omega
  show Rn _ _ _ _ _ _ _ _
  refine r_aload_n dL_law_704 rfl ?_
  refine r_aload_n dL_law_705 rfl ?_
  refine r_iload_n dL_law_706 rfl ?_
  refine r_iconst dL_law_707 ?_
  refine r_iadd dL_law_708 ?_
  have ob1 := H.1
  have H := H.2
  refine r_sld rfl hL dL_law_709 ob1 ?_
  refine r_aload_n dL_law_710 rfl ?_
  refine r_iload_n dL_law_711 rfl ?_
  refine r_iconst dL_law_712 ?_
  refine r_iadd dL_law_713 ?_
  have ob2 := H.1
  have H := H.2
  refine r_sld rfl hL dL_law_714 ob2 ?_
  refine r_aload_n dL_law_715 rfl ?_
  refine r_iload_n dL_law_716 rfl ?_
  refine r_iconst dL_law_717 ?_
  refine r_iadd dL_law_718 ?_
  have ob3 := H.1
  have H := H.2
  refine r_sld rfl hL dL_law_719 ob3 ?_
  refine r_cI (as := [ax_r 0, ax_i (xs (x3 + 1)), ax_i (xs (x3 + 2)), ax_i (xs (x3 + 3))]) (how_V (ci := 10) jX10_degree jIX10_degree jVX10_degree rfl s0_0 (by decide) rfl rfl wL_78 dL_law_720) rfl (Nat.le_refl _) (Nat.le_of_ble_eq_true rfl) (fun _ => Nat.le_of_ble_eq_true rfl) H (fun w5 I4 H => ?_)
  refine r_aload_n dL_law_723 rfl ?_
  refine r_aload_n dL_law_724 rfl ?_
  refine r_iload_n dL_law_725 rfl ?_
  refine r_iconst dL_law_726 ?_
  refine r_iadd dL_law_727 ?_
  refine r_sld rfl hL dL_law_728 ob1 ?_
  refine r_aload_n dL_law_729 rfl ?_
  refine r_iload_n dL_law_730 rfl ?_
  refine r_iconst dL_law_731 ?_
  refine r_iadd dL_law_732 ?_
  refine r_sld rfl hL dL_law_733 ob2 ?_
  refine r_aload_n dL_law_734 rfl ?_
  refine r_iload_n dL_law_735 rfl ?_
  refine r_iconst dL_law_736 ?_
  refine r_iadd dL_law_737 ?_
  refine r_sld rfl hL dL_law_738 ob3 ?_
  refine r_cI (as := [ax_r 85, ax_i (xs (x3 + 1)), ax_i (xs (x3 + 2)), ax_i (xs (x3 + 3))]) (how_V (ci := 11) jX11_degree jIX11_degree jVX11_degree rfl s0_85 (by decide) rfl rfl wL_81 dL_law_739) rfl (Nat.le_refl _) (Nat.le_of_ble_eq_true rfl) (fun _ => Nat.le_of_ble_eq_true rfl) H (fun w7 I6 H => ?_)
  have ob8 := H.1
  have H := H.2
  have ob9 := H.1
  have H := H.2
  refine r_icmp_eq (tgt := 1339) dL_law_742 (by decide) ob8 ob9 (fun c10 => ?_) (fun c10 => ?_)
  · have H := H.1 c10
    exact H
  · have H := H.2 c10
    refine r_iconst dL_law_745 ?_
    exact H.elim

theorem vL_law_747 {d L : Nat} {xs : Int → Int} {I : ax_H} (hL : L ≤ 3584) (hxs : ∀ n, ax_R (xs n))  {x3 : Int} (H :
  (0 ≤ (x3 + 1) ∧ (x3 + 1) < L) ∧
  ((0 ≤ (x3 + 2) ∧ (x3 + 2) < L) ∧
  (cI (d + 13) kX10_tell [ax_r 0, ax_i (xs (x3 + 1)), ax_i (xs (x3 + 2))] I (fun w4 I3 =>
  cI (d + 13) kX11_tell [ax_r 85, ax_i (xs (x3 + 1)), ax_i (xs (x3 + 2))] I3 (fun w6 I5 =>
  ax_R w4 ∧
  (ax_R w6 ∧
  ((w4 = w6 →
    RLw (d + 14) L xs 1339 [some (ax_r 1000001), some (ax_r 0), some (ax_r 85), some (ax_i x3)] I5) ∧
  (¬ w4 = w6 →
    False)))))))) :
  RLw (d + 14) L xs 747 [some (ax_r 1000001), some (ax_r 0), some (ax_r 85), some (ax_i x3)] I := by
  have hL : L < 2147483648 := by omega
  show Rn _ _ _ _ _ _ _ _
  refine r_aload_n dL_law_747 rfl ?_
  refine r_aload_n dL_law_748 rfl ?_
  refine r_iload_n dL_law_749 rfl ?_
  refine r_iconst dL_law_750 ?_
  refine r_iadd dL_law_751 ?_
  have ob1 := H.1
  have H := H.2
  refine r_sld rfl hL dL_law_752 ob1 ?_
  refine r_aload_n dL_law_753 rfl ?_
  refine r_iload_n dL_law_754 rfl ?_
  refine r_iconst dL_law_755 ?_
  refine r_iadd dL_law_756 ?_
  have ob2 := H.1
  have H := H.2
  refine r_sld rfl hL dL_law_757 ob2 ?_
  refine r_cI (as := [ax_r 0, ax_i (xs (x3 + 1)), ax_i (xs (x3 + 2))]) (how_V (ci := 10) jX10_tell jIX10_tell jVX10_tell rfl s0_0 (by decide) rfl rfl wL_82 dL_law_758) rfl (Nat.le_refl _) (Nat.le_of_ble_eq_true rfl) (fun _ => Nat.le_of_ble_eq_true rfl) H (fun w4 I3 H => ?_)
  refine r_aload_n dL_law_761 rfl ?_
  refine r_aload_n dL_law_762 rfl ?_
  refine r_iload_n dL_law_763 rfl ?_
  refine r_iconst dL_law_764 ?_
  refine r_iadd dL_law_765 ?_
  refine r_sld rfl hL dL_law_766 ob1 ?_
  refine r_aload_n dL_law_767 rfl ?_
  refine r_iload_n dL_law_768 rfl ?_
  refine r_iconst dL_law_769 ?_
  refine r_iadd dL_law_770 ?_
  refine r_sld rfl hL dL_law_771 ob2 ?_
  refine r_cI (as := [ax_r 85, ax_i (xs (x3 + 1)), ax_i (xs (x3 + 2))]) (how_V (ci := 11) jX11_tell jIX11_tell jVX11_tell rfl s0_85 (by decide) rfl rfl wL_85 dL_law_772) rfl (Nat.le_refl _) (Nat.le_of_ble_eq_true rfl) (fun _ => Nat.le_of_ble_eq_true rfl) H (fun w6 I5 H => ?_)
  have ob7 := H.1
  have H := H.2
  have ob8 := H.1
  have H := H.2
  refine r_icmp_eq (tgt := 1339) dL_law_775 (by decide) ob7 ob8 (fun c9 => ?_) (fun c9 => ?_)
  · have H := H.1 c9
    exact H
  · have H := H.2 c9
    refine r_iconst dL_law_778 ?_
    exact H.elim

theorem vL_law_780 {d L : Nat} {xs : Int → Int} {I : ax_H} (hL : L ≤ 3584) (hxs : ∀ n, ax_R (xs n))  {x3 : Int} (H :
  (0 ≤ (x3 + 1) ∧ (x3 + 1) < L) ∧
  ((0 ≤ (x3 + 2) ∧ (x3 + 2) < L) ∧
  (cI (d + 13) kX10_forget [ax_r 0, ax_i (xs (x3 + 1)), ax_i (xs (x3 + 2))] I (fun w4 I3 =>
  cI (d + 13) kX11_forget [ax_r 85, ax_i (xs (x3 + 1)), ax_i (xs (x3 + 2))] I3 (fun w6 I5 =>
  ax_R w4 ∧
  (ax_R w6 ∧
  ((w4 = w6 →
    RLw (d + 14) L xs 1339 [some (ax_r 1000001), some (ax_r 0), some (ax_r 85), some (ax_i x3)] I5) ∧
  (¬ w4 = w6 →
    False)))))))) :
  RLw (d + 14) L xs 780 [some (ax_r 1000001), some (ax_r 0), some (ax_r 85), some (ax_i x3)] I := by
  have hL : L < 2147483648 := by omega
  show Rn _ _ _ _ _ _ _ _
  refine r_aload_n dL_law_780 rfl ?_
  refine r_aload_n dL_law_781 rfl ?_
  refine r_iload_n dL_law_782 rfl ?_
  refine r_iconst dL_law_783 ?_
  refine r_iadd dL_law_784 ?_
  have ob1 := H.1
  have H := H.2
  refine r_sld rfl hL dL_law_785 ob1 ?_
  refine r_aload_n dL_law_786 rfl ?_
  refine r_iload_n dL_law_787 rfl ?_
  refine r_iconst dL_law_788 ?_
  refine r_iadd dL_law_789 ?_
  have ob2 := H.1
  have H := H.2
  refine r_sld rfl hL dL_law_790 ob2 ?_
  refine r_cI (as := [ax_r 0, ax_i (xs (x3 + 1)), ax_i (xs (x3 + 2))]) (how_V (ci := 10) jX10_forget jIX10_forget jVX10_forget rfl s0_0 (by decide) rfl rfl wL_86 dL_law_791) rfl (Nat.le_refl _) (Nat.le_of_ble_eq_true rfl) (fun _ => Nat.le_of_ble_eq_true rfl) H (fun w4 I3 H => ?_)
  refine r_aload_n dL_law_794 rfl ?_
  refine r_aload_n dL_law_795 rfl ?_
  refine r_iload_n dL_law_796 rfl ?_
  refine r_iconst dL_law_797 ?_
  refine r_iadd dL_law_798 ?_
  refine r_sld rfl hL dL_law_799 ob1 ?_
  refine r_aload_n dL_law_800 rfl ?_
  refine r_iload_n dL_law_801 rfl ?_
  refine r_iconst dL_law_802 ?_
  refine r_iadd dL_law_803 ?_
  refine r_sld rfl hL dL_law_804 ob2 ?_
  refine r_cI (as := [ax_r 85, ax_i (xs (x3 + 1)), ax_i (xs (x3 + 2))]) (how_V (ci := 11) jX11_forget jIX11_forget jVX11_forget rfl s0_85 (by decide) rfl rfl wL_89 dL_law_805) rfl (Nat.le_refl _) (Nat.le_of_ble_eq_true rfl) (fun _ => Nat.le_of_ble_eq_true rfl) H (fun w6 I5 H => ?_)
  have ob7 := H.1
  have H := H.2
  have ob8 := H.1
  have H := H.2
  refine r_icmp_eq (tgt := 1339) dL_law_808 (by decide) ob7 ob8 (fun c9 => ?_) (fun c9 => ?_)
  · have H := H.1 c9
    exact H
  · have H := H.2 c9
    refine r_iconst dL_law_811 ?_
    exact H.elim

theorem vL_law_813 {d L : Nat} {xs : Int → Int} {I : ax_H} (hL : L ≤ 3584) (hxs : ∀ n, ax_R (xs n))  {x3 : Int} (H :
  (0 ≤ (x3 + 1) ∧ (x3 + 1) < L) ∧
  (cI (d + 13) kX10_told [ax_r 0, ax_i (xs (x3 + 1))] I (fun w3 I2 =>
  cI (d + 13) kX11_told [ax_r 85, ax_i (xs (x3 + 1))] I2 (fun w5 I4 =>
  ax_R w3 ∧
  (ax_R w5 ∧
  ((w3 = w5 →
    RLw (d + 14) L xs 1339 [some (ax_r 1000001), some (ax_r 0), some (ax_r 85), some (ax_i x3)] I4) ∧
  (¬ w3 = w5 →
    False))))))) :
  RLw (d + 14) L xs 813 [some (ax_r 1000001), some (ax_r 0), some (ax_r 85), some (ax_i x3)] I := by
  have hL : L < 2147483648 := by omega
  show Rn _ _ _ _ _ _ _ _
  refine r_aload_n dL_law_813 rfl ?_
  refine r_aload_n dL_law_814 rfl ?_
  refine r_iload_n dL_law_815 rfl ?_
  refine r_iconst dL_law_816 ?_
  refine r_iadd dL_law_817 ?_
  have ob1 := H.1
  have H := H.2
  refine r_sld rfl hL dL_law_818 ob1 ?_
  refine r_cI (as := [ax_r 0, ax_i (xs (x3 + 1))]) (how_V (ci := 10) jX10_told jIX10_told jVX10_told rfl s0_0 (by decide) rfl rfl wL_90 dL_law_819) rfl (Nat.le_refl _) (Nat.le_of_ble_eq_true rfl) (fun _ => Nat.le_of_ble_eq_true rfl) H (fun w3 I2 H => ?_)
  refine r_aload_n dL_law_822 rfl ?_
  refine r_aload_n dL_law_823 rfl ?_
  refine r_iload_n dL_law_824 rfl ?_
  refine r_iconst dL_law_825 ?_
  refine r_iadd dL_law_826 ?_
  refine r_sld rfl hL dL_law_827 ob1 ?_
  refine r_cI (as := [ax_r 85, ax_i (xs (x3 + 1))]) (how_V (ci := 11) jX11_told jIX11_told jVX11_told rfl s0_85 (by decide) rfl rfl wL_93 dL_law_828) rfl (Nat.le_refl _) (Nat.le_of_ble_eq_true rfl) (fun _ => Nat.le_of_ble_eq_true rfl) H (fun w5 I4 H => ?_)
  have ob6 := H.1
  have H := H.2
  have ob7 := H.1
  have H := H.2
  refine r_icmp_eq (tgt := 1339) dL_law_831 (by decide) ob6 ob7 (fun c8 => ?_) (fun c8 => ?_)
  · have H := H.1 c8
    exact H
  · have H := H.2 c8
    refine r_iconst dL_law_834 ?_
    exact H.elim

theorem vL_law_836 {d L : Nat} {xs : Int → Int} {I : ax_H} (hL : L ≤ 3584) (hxs : ∀ n, ax_R (xs n))  {x3 : Int} (H :
  (0 ≤ (x3 + 1) ∧ (x3 + 1) < L) ∧
  (cI (d + 13) kX10_moved [ax_r 0, ax_i (xs (x3 + 1))] I (fun w3 I2 =>
  cI (d + 13) kX11_moved [ax_r 85, ax_i (xs (x3 + 1))] I2 (fun w5 I4 =>
  ax_R w3 ∧
  (ax_R w5 ∧
  ((w3 = w5 →
    RLw (d + 14) L xs 1339 [some (ax_r 1000001), some (ax_r 0), some (ax_r 85), some (ax_i x3)] I4) ∧
  (¬ w3 = w5 →
    False))))))) :
  RLw (d + 14) L xs 836 [some (ax_r 1000001), some (ax_r 0), some (ax_r 85), some (ax_i x3)] I := by
  have hL : L < 2147483648 := by omega
  show Rn _ _ _ _ _ _ _ _
  refine r_aload_n dL_law_836 rfl ?_
  refine r_aload_n dL_law_837 rfl ?_
  refine r_iload_n dL_law_838 rfl ?_
  refine r_iconst dL_law_839 ?_
  refine r_iadd dL_law_840 ?_
  have ob1 := H.1
  have H := H.2
  refine r_sld rfl hL dL_law_841 ob1 ?_
  refine r_cI (as := [ax_r 0, ax_i (xs (x3 + 1))]) (how_V (ci := 10) jX10_moved jIX10_moved jVX10_moved rfl s0_0 (by decide) rfl rfl wL_94 dL_law_842) rfl (Nat.le_refl _) (Nat.le_of_ble_eq_true rfl) (fun _ => Nat.le_of_ble_eq_true rfl) H (fun w3 I2 H => ?_)
  refine r_aload_n dL_law_845 rfl ?_
  refine r_aload_n dL_law_846 rfl ?_
  refine r_iload_n dL_law_847 rfl ?_
  refine r_iconst dL_law_848 ?_
  refine r_iadd dL_law_849 ?_
  refine r_sld rfl hL dL_law_850 ob1 ?_
  refine r_cI (as := [ax_r 85, ax_i (xs (x3 + 1))]) (how_V (ci := 11) jX11_moved jIX11_moved jVX11_moved rfl s0_85 (by decide) rfl rfl wL_97 dL_law_851) rfl (Nat.le_refl _) (Nat.le_of_ble_eq_true rfl) (fun _ => Nat.le_of_ble_eq_true rfl) H (fun w5 I4 H => ?_)
  have ob6 := H.1
  have H := H.2
  have ob7 := H.1
  have H := H.2
  refine r_icmp_eq (tgt := 1339) dL_law_854 (by decide) ob6 ob7 (fun c8 => ?_) (fun c8 => ?_)
  · have H := H.1 c8
    exact H
  · have H := H.2 c8
    refine r_iconst dL_law_857 ?_
    exact H.elim

theorem vL_law_859 {d L : Nat} {xs : Int → Int} {I : ax_H} (hL : L ≤ 3584) (hxs : ∀ n, ax_R (xs n))  {x3 : Int} (H :
  cI (d + 13) kX10_move [ax_r 0] I (fun w2 I1 =>
  cI (d + 13) kX11_move [ax_r 85] I1 (fun w4 I3 =>
  ax_R w2 ∧
  (ax_R w4 ∧
  ((w2 = w4 →
    RLw (d + 14) L xs 1339 [some (ax_r 1000001), some (ax_r 0), some (ax_r 85), some (ax_i x3)] I3) ∧
  (¬ w2 = w4 →
    False)))))) :
  RLw (d + 14) L xs 859 [some (ax_r 1000001), some (ax_r 0), some (ax_r 85), some (ax_i x3)] I := by
  have hL : L < 2147483648 := by omega
  show Rn _ _ _ _ _ _ _ _
  refine r_aload_n dL_law_859 rfl ?_
  refine r_cI (as := [ax_r 0]) (how_V (ci := 10) jX10_move jIX10_move jVX10_move rfl s0_0 (by decide) rfl rfl wL_98 dL_law_860) rfl (Nat.le_refl _) (Nat.le_of_ble_eq_true rfl) (fun _ => Nat.le_of_ble_eq_true rfl) H (fun w2 I1 H => ?_)
  refine r_aload_n dL_law_863 rfl ?_
  refine r_cI (as := [ax_r 85]) (how_V (ci := 11) jX11_move jIX11_move jVX11_move rfl s0_85 (by decide) rfl rfl wL_102 dL_law_864) rfl (Nat.le_refl _) (Nat.le_of_ble_eq_true rfl) (fun _ => Nat.le_of_ble_eq_true rfl) H (fun w4 I3 H => ?_)
  have ob5 := H.1
  have H := H.2
  have ob6 := H.1
  have H := H.2
  refine r_icmp_eq (tgt := 1339) dL_law_867 (by decide) ob5 ob6 (fun c7 => ?_) (fun c7 => ?_)
  · have H := H.1 c7
    exact H
  · have H := H.2 c7
    refine r_iconst dL_law_870 ?_
    exact H.elim

theorem vL_law_872 {d L : Nat} {xs : Int → Int} {I : ax_H} (hL : L ≤ 3584) (hxs : ∀ n, ax_R (xs n))  {x3 : Int} (H :
  (0 ≤ (x3 + 1) ∧ (x3 + 1) < L) ∧
  (cI (d + 13) kX10_grows [ax_r 0, ax_i (xs (x3 + 1))] I (fun w3 I2 =>
  cI (d + 13) kX11_grows [ax_r 85, ax_i (xs (x3 + 1))] I2 (fun w5 I4 =>
  ax_R w3 ∧
  (ax_R w5 ∧
  ((w3 = w5 →
    RLw (d + 14) L xs 1339 [some (ax_r 1000001), some (ax_r 0), some (ax_r 85), some (ax_i x3)] I4) ∧
  (¬ w3 = w5 →
    False))))))) :
  RLw (d + 14) L xs 872 [some (ax_r 1000001), some (ax_r 0), some (ax_r 85), some (ax_i x3)] I := by
  have hL : L < 2147483648 := by omega
  show Rn _ _ _ _ _ _ _ _
  refine r_aload_n dL_law_872 rfl ?_
  refine r_aload_n dL_law_873 rfl ?_
  refine r_iload_n dL_law_874 rfl ?_
  refine r_iconst dL_law_875 ?_
  refine r_iadd dL_law_876 ?_
  have ob1 := H.1
  have H := H.2
  refine r_sld rfl hL dL_law_877 ob1 ?_
  refine r_cI (as := [ax_r 0, ax_i (xs (x3 + 1))]) (how_V (ci := 10) jX10_grows jIX10_grows jVX10_grows rfl s0_0 (by decide) rfl rfl wL_103 dL_law_878) rfl (Nat.le_refl _) (Nat.le_of_ble_eq_true rfl) (fun _ => Nat.le_of_ble_eq_true rfl) H (fun w3 I2 H => ?_)
  refine r_aload_n dL_law_881 rfl ?_
  refine r_aload_n dL_law_882 rfl ?_
  refine r_iload_n dL_law_883 rfl ?_
  refine r_iconst dL_law_884 ?_
  refine r_iadd dL_law_885 ?_
  refine r_sld rfl hL dL_law_886 ob1 ?_
  refine r_cI (as := [ax_r 85, ax_i (xs (x3 + 1))]) (how_V (ci := 11) jX11_grows jIX11_grows jVX11_grows rfl s0_85 (by decide) rfl rfl wL_106 dL_law_887) rfl (Nat.le_refl _) (Nat.le_of_ble_eq_true rfl) (fun _ => Nat.le_of_ble_eq_true rfl) H (fun w5 I4 H => ?_)
  have ob6 := H.1
  have H := H.2
  have ob7 := H.1
  have H := H.2
  refine r_icmp_eq (tgt := 1339) dL_law_890 (by decide) ob6 ob7 (fun c8 => ?_) (fun c8 => ?_)
  · have H := H.1 c8
    exact H
  · have H := H.2 c8
    refine r_iconst dL_law_893 ?_
    exact H.elim

theorem vL_law_895 {d L : Nat} {xs : Int → Int} {I : ax_H} (hL : L ≤ 3584) (hxs : ∀ n, ax_R (xs n))  {x3 : Int} (H :
  (0 ≤ (x3 + 1) ∧ (x3 + 1) < L) ∧
  ((0 ≤ (x3 + 2) ∧ (x3 + 2) < L) ∧
  ((0 ≤ (x3 + 3) ∧ (x3 + 3) < L) ∧
  ((0 ≤ (x3 + 4) ∧ (x3 + 4) < L) ∧
  ((0 ≤ (x3 + 5) ∧ (x3 + 5) < L) ∧
  ((0 ≤ (x3 + 6) ∧ (x3 + 6) < L) ∧
  (cJ (d + 13) kX10_were [ax_r 0, ax_i (xs (x3 + 1)), ax_i (xs (x3 + 2)), ax_i (xs (x3 + 3)), ax_i (xs (x3 + 4)), ax_i (xs (x3 + 5)), ax_i (xs (x3 + 6))] I (fun w8 I7 =>
  cJ (d + 13) kX11_were [ax_r 85, ax_i (xs (x3 + 1)), ax_i (xs (x3 + 2)), ax_i (xs (x3 + 3)), ax_i (xs (x3 + 4)), ax_i (xs (x3 + 5)), ax_i (xs (x3 + 6))] I7 (fun w10 I9 =>
  ax_R8 w8 ∧
  (ax_R8 w10 ∧
  (ax_R (ax_cmp w8 w10) ∧
  (((ax_cmp w8 w10) = 0 →
    RLw (d + 14) L xs 1339 [some (ax_r 1000001), some (ax_r 0), some (ax_r 85), some (ax_i x3)] I9) ∧
  (¬ (ax_cmp w8 w10) = 0 →
    False))))))))))))) :
  RLw (d + 14) L xs 895 [some (ax_r 1000001), some (ax_r 0), some (ax_r 85), some (ax_i x3)] I := by
  have hL : L < 2147483648 := by omega
  show Rn _ _ _ _ _ _ _ _
  refine r_aload_n dL_law_895 rfl ?_
  refine r_aload_n dL_law_896 rfl ?_
  refine r_iload_n dL_law_897 rfl ?_
  refine r_iconst dL_law_898 ?_
  refine r_iadd dL_law_899 ?_
  have ob1 := H.1
  have H := H.2
  refine r_sld rfl hL dL_law_900 ob1 ?_
  refine r_aload_n dL_law_901 rfl ?_
  refine r_iload_n dL_law_902 rfl ?_
  refine r_iconst dL_law_903 ?_
  refine r_iadd dL_law_904 ?_
  have ob2 := H.1
  have H := H.2
  refine r_sld rfl hL dL_law_905 ob2 ?_
  refine r_aload_n dL_law_906 rfl ?_
  refine r_iload_n dL_law_907 rfl ?_
  refine r_iconst dL_law_908 ?_
  refine r_iadd dL_law_909 ?_
  have ob3 := H.1
  have H := H.2
  refine r_sld rfl hL dL_law_910 ob3 ?_
  refine r_aload_n dL_law_911 rfl ?_
  refine r_iload_n dL_law_912 rfl ?_
  refine r_iconst dL_law_913 ?_
  refine r_iadd dL_law_914 ?_
  have ob4 := H.1
  have H := H.2
  refine r_sld rfl hL dL_law_915 ob4 ?_
  refine r_aload_n dL_law_916 rfl ?_
  refine r_iload_n dL_law_917 rfl ?_
  refine r_iconst dL_law_918 ?_
  refine r_iadd dL_law_919 ?_
  have ob5 := H.1
  have H := H.2
  refine r_sld rfl hL dL_law_920 ob5 ?_
  refine r_aload_n dL_law_921 rfl ?_
  refine r_iload_n dL_law_922 rfl ?_
  refine r_bipush (v := 6) dL_law_923 (by decide) ?_
  refine r_iadd dL_law_925 ?_
  have ob6 := H.1
  have H := H.2
  refine r_sld rfl hL dL_law_926 ob6 ?_
  refine r_cJ (as := [ax_r 0, ax_i (xs (x3 + 1)), ax_i (xs (x3 + 2)), ax_i (xs (x3 + 3)), ax_i (xs (x3 + 4)), ax_i (xs (x3 + 5)), ax_i (xs (x3 + 6))]) (how_V (ci := 10) jX10_were jIX10_were jVX10_were rfl s0_0 (by decide) rfl rfl wL_107 dL_law_927) rfl (Nat.le_refl _) (Nat.le_of_ble_eq_true rfl) (fun _ => Nat.le_of_ble_eq_true rfl) H (fun w8 I7 H => ?_)
  refine r_aload_n dL_law_930 rfl ?_
  refine r_aload_n dL_law_931 rfl ?_
  refine r_iload_n dL_law_932 rfl ?_
  refine r_iconst dL_law_933 ?_
  refine r_iadd dL_law_934 ?_
  refine r_sld rfl hL dL_law_935 ob1 ?_
  refine r_aload_n dL_law_936 rfl ?_
  refine r_iload_n dL_law_937 rfl ?_
  refine r_iconst dL_law_938 ?_
  refine r_iadd dL_law_939 ?_
  refine r_sld rfl hL dL_law_940 ob2 ?_
  refine r_aload_n dL_law_941 rfl ?_
  refine r_iload_n dL_law_942 rfl ?_
  refine r_iconst dL_law_943 ?_
  refine r_iadd dL_law_944 ?_
  refine r_sld rfl hL dL_law_945 ob3 ?_
  refine r_aload_n dL_law_946 rfl ?_
  refine r_iload_n dL_law_947 rfl ?_
  refine r_iconst dL_law_948 ?_
  refine r_iadd dL_law_949 ?_
  refine r_sld rfl hL dL_law_950 ob4 ?_
  refine r_aload_n dL_law_951 rfl ?_
  refine r_iload_n dL_law_952 rfl ?_
  refine r_iconst dL_law_953 ?_
  refine r_iadd dL_law_954 ?_
  refine r_sld rfl hL dL_law_955 ob5 ?_
  refine r_aload_n dL_law_956 rfl ?_
  refine r_iload_n dL_law_957 rfl ?_
  refine r_bipush (v := 6) dL_law_958 (by decide) ?_
  refine r_iadd dL_law_960 ?_
  refine r_sld rfl hL dL_law_961 ob6 ?_
  refine r_cJ (as := [ax_r 85, ax_i (xs (x3 + 1)), ax_i (xs (x3 + 2)), ax_i (xs (x3 + 3)), ax_i (xs (x3 + 4)), ax_i (xs (x3 + 5)), ax_i (xs (x3 + 6))]) (how_V (ci := 11) jX11_were jIX11_were jVX11_were rfl s0_85 (by decide) rfl rfl wL_111 dL_law_962) rfl (Nat.le_refl _) (Nat.le_of_ble_eq_true rfl) (fun _ => Nat.le_of_ble_eq_true rfl) H (fun w10 I9 H => ?_)
  have ob11 := H.1
  have H := H.2
  have ob12 := H.1
  have H := H.2
  refine r_lcmp dL_law_965 ob11 ob12 ?_
  have ob13 := H.1
  have H := H.2
  refine r_if_eq (tgt := 1339) dL_law_966 (by decide) ob13 (fun c14 => ?_) (fun c14 => ?_)
  · have H := H.1 c14
    exact H
  · have H := H.2 c14
    refine r_iconst dL_law_969 ?_
    exact H.elim

theorem vL_law_971 {d L : Nat} {xs : Int → Int} {I : ax_H} (hL : L ≤ 3584) (hxs : ∀ n, ax_R (xs n))  {x3 : Int} (H :
  (0 ≤ (x3 + 1) ∧ (x3 + 1) < L) ∧
  ((0 ≤ (x3 + 2) ∧ (x3 + 2) < L) ∧
  ((0 ≤ (x3 + 3) ∧ (x3 + 3) < L) ∧
  ((0 ≤ (x3 + 4) ∧ (x3 + 4) < L) ∧
  (cJ (d + 13) kX10_odds [ax_r 0, ax_i (xs (x3 + 1)), ax_i (xs (x3 + 2)), ax_i (xs (x3 + 3)), ax_i (xs (x3 + 4))] I (fun w6 I5 =>
  cJ (d + 13) kX11_odds [ax_r 85, ax_i (xs (x3 + 1)), ax_i (xs (x3 + 2)), ax_i (xs (x3 + 3)), ax_i (xs (x3 + 4))] I5 (fun w8 I7 =>
  ax_R8 w6 ∧
  (ax_R8 w8 ∧
  (ax_R (ax_cmp w6 w8) ∧
  (((ax_cmp w6 w8) = 0 →
    RLw (d + 14) L xs 1339 [some (ax_r 1000001), some (ax_r 0), some (ax_r 85), some (ax_i x3)] I7) ∧
  (¬ (ax_cmp w6 w8) = 0 →
    False))))))))))) :
  RLw (d + 14) L xs 971 [some (ax_r 1000001), some (ax_r 0), some (ax_r 85), some (ax_i x3)] I := by
  have hL : L < 2147483648 := by omega
  show Rn _ _ _ _ _ _ _ _
  refine r_aload_n dL_law_971 rfl ?_
  refine r_aload_n dL_law_972 rfl ?_
  refine r_iload_n dL_law_973 rfl ?_
  refine r_iconst dL_law_974 ?_
  refine r_iadd dL_law_975 ?_
  have ob1 := H.1
  have H := H.2
  refine r_sld rfl hL dL_law_976 ob1 ?_
  refine r_aload_n dL_law_977 rfl ?_
  refine r_iload_n dL_law_978 rfl ?_
  refine r_iconst dL_law_979 ?_
  refine r_iadd dL_law_980 ?_
  have ob2 := H.1
  have H := H.2
  refine r_sld rfl hL dL_law_981 ob2 ?_
  refine r_aload_n dL_law_982 rfl ?_
  refine r_iload_n dL_law_983 rfl ?_
  refine r_iconst dL_law_984 ?_
  refine r_iadd dL_law_985 ?_
  have ob3 := H.1
  have H := H.2
  refine r_sld rfl hL dL_law_986 ob3 ?_
  refine r_aload_n dL_law_987 rfl ?_
  refine r_iload_n dL_law_988 rfl ?_
  refine r_iconst dL_law_989 ?_
  refine r_iadd dL_law_990 ?_
  have ob4 := H.1
  have H := H.2
  refine r_sld rfl hL dL_law_991 ob4 ?_
  refine r_cJ (as := [ax_r 0, ax_i (xs (x3 + 1)), ax_i (xs (x3 + 2)), ax_i (xs (x3 + 3)), ax_i (xs (x3 + 4))]) (how_V (ci := 10) jX10_odds jIX10_odds jVX10_odds rfl s0_0 (by decide) rfl rfl wL_112 dL_law_992) rfl (Nat.le_refl _) (Nat.le_of_ble_eq_true rfl) (fun _ => Nat.le_of_ble_eq_true rfl) H (fun w6 I5 H => ?_)
  refine r_aload_n dL_law_995 rfl ?_
  refine r_aload_n dL_law_996 rfl ?_
  refine r_iload_n dL_law_997 rfl ?_
  refine r_iconst dL_law_998 ?_
  refine r_iadd dL_law_999 ?_
  refine r_sld rfl hL dL_law_1000 ob1 ?_
  refine r_aload_n dL_law_1001 rfl ?_
  refine r_iload_n dL_law_1002 rfl ?_
  refine r_iconst dL_law_1003 ?_
  refine r_iadd dL_law_1004 ?_
  refine r_sld rfl hL dL_law_1005 ob2 ?_
  refine r_aload_n dL_law_1006 rfl ?_
  refine r_iload_n dL_law_1007 rfl ?_
  refine r_iconst dL_law_1008 ?_
  refine r_iadd dL_law_1009 ?_
  refine r_sld rfl hL dL_law_1010 ob3 ?_
  refine r_aload_n dL_law_1011 rfl ?_
  refine r_iload_n dL_law_1012 rfl ?_
  refine r_iconst dL_law_1013 ?_
  refine r_iadd dL_law_1014 ?_
  refine r_sld rfl hL dL_law_1015 ob4 ?_
  refine r_cJ (as := [ax_r 85, ax_i (xs (x3 + 1)), ax_i (xs (x3 + 2)), ax_i (xs (x3 + 3)), ax_i (xs (x3 + 4))]) (how_V (ci := 11) jX11_odds jIX11_odds jVX11_odds rfl s0_85 (by decide) rfl rfl wL_116 dL_law_1016) rfl (Nat.le_refl _) (Nat.le_of_ble_eq_true rfl) (fun _ => Nat.le_of_ble_eq_true rfl) H (fun w8 I7 H => ?_)
  have ob9 := H.1
  have H := H.2
  have ob10 := H.1
  have H := H.2
  refine r_lcmp dL_law_1019 ob9 ob10 ?_
  have ob11 := H.1
  have H := H.2
  refine r_if_eq (tgt := 1339) dL_law_1020 (by decide) ob11 (fun c12 => ?_) (fun c12 => ?_)
  · have H := H.1 c12
    exact H
  · have H := H.2 c12
    refine r_iconst dL_law_1023 ?_
    exact H.elim

theorem vL_law_1025 {d L : Nat} {xs : Int → Int} {I : ax_H} (hL : L ≤ 3584) (hxs : ∀ n, ax_R (xs n))  {x3 : Int} (H :
  (0 ≤ (x3 + 1) ∧ (x3 + 1) < L) ∧
  ((0 ≤ (x3 + 2) ∧ (x3 + 2) < L) ∧
  (cI (d + 13) kX10_plan [ax_r 0, ax_i (xs (x3 + 1)), ax_i (xs (x3 + 2))] I (fun w4 I3 =>
  cI (d + 13) kX11_plan [ax_r 85, ax_i (xs (x3 + 1)), ax_i (xs (x3 + 2))] I3 (fun w6 I5 =>
  ax_R w4 ∧
  (ax_R w6 ∧
  ((w4 = w6 →
    RLw (d + 14) L xs 1339 [some (ax_r 1000001), some (ax_r 0), some (ax_r 85), some (ax_i x3)] I5) ∧
  (¬ w4 = w6 →
    False)))))))) :
  RLw (d + 14) L xs 1025 [some (ax_r 1000001), some (ax_r 0), some (ax_r 85), some (ax_i x3)] I := by
  have hL : L < 2147483648 := by omega
  show Rn _ _ _ _ _ _ _ _
  refine r_aload_n dL_law_1025 rfl ?_
  refine r_aload_n dL_law_1026 rfl ?_
  refine r_iload_n dL_law_1027 rfl ?_
  refine r_iconst dL_law_1028 ?_
  refine r_iadd dL_law_1029 ?_
  have ob1 := H.1
  have H := H.2
  refine r_sld rfl hL dL_law_1030 ob1 ?_
  refine r_aload_n dL_law_1031 rfl ?_
  refine r_iload_n dL_law_1032 rfl ?_
  refine r_iconst dL_law_1033 ?_
  refine r_iadd dL_law_1034 ?_
  have ob2 := H.1
  have H := H.2
  refine r_sld rfl hL dL_law_1035 ob2 ?_
  refine r_cI (as := [ax_r 0, ax_i (xs (x3 + 1)), ax_i (xs (x3 + 2))]) (how_V (ci := 10) jX10_plan jIX10_plan jVX10_plan rfl s0_0 (by decide) rfl rfl wL_117 dL_law_1036) rfl (Nat.le_refl _) (Nat.le_of_ble_eq_true rfl) (fun _ => Nat.le_of_ble_eq_true rfl) H (fun w4 I3 H => ?_)
  refine r_aload_n dL_law_1039 rfl ?_
  refine r_aload_n dL_law_1040 rfl ?_
  refine r_iload_n dL_law_1041 rfl ?_
  refine r_iconst dL_law_1042 ?_
  refine r_iadd dL_law_1043 ?_
  refine r_sld rfl hL dL_law_1044 ob1 ?_
  refine r_aload_n dL_law_1045 rfl ?_
  refine r_iload_n dL_law_1046 rfl ?_
  refine r_iconst dL_law_1047 ?_
  refine r_iadd dL_law_1048 ?_
  refine r_sld rfl hL dL_law_1049 ob2 ?_
  refine r_cI (as := [ax_r 85, ax_i (xs (x3 + 1)), ax_i (xs (x3 + 2))]) (how_V (ci := 11) jX11_plan jIX11_plan jVX11_plan rfl s0_85 (by decide) rfl rfl wL_120 dL_law_1050) rfl (Nat.le_refl _) (Nat.le_of_ble_eq_true rfl) (fun _ => Nat.le_of_ble_eq_true rfl) H (fun w6 I5 H => ?_)
  have ob7 := H.1
  have H := H.2
  have ob8 := H.1
  have H := H.2
  refine r_icmp_eq (tgt := 1339) dL_law_1053 (by decide) ob7 ob8 (fun c9 => ?_) (fun c9 => ?_)
  · have H := H.1 c9
    exact H
  · have H := H.2 c9
    refine r_iconst dL_law_1056 ?_
    exact H.elim

theorem vL_law_1058 {d L : Nat} {xs : Int → Int} {I : ax_H} (hL : L ≤ 3584) (hxs : ∀ n, ax_R (xs n))  {x3 : Int} (H :
  (0 ≤ (x3 + 1) ∧ (x3 + 1) < L) ∧
  ((0 ≤ (x3 + 2) ∧ (x3 + 2) < L) ∧
  (cI (d + 13) kX10_ends [ax_r 0, ax_i (xs (x3 + 1)), ax_i (xs (x3 + 2))] I (fun w4 I3 =>
  cI (d + 13) kX11_ends [ax_r 85, ax_i (xs (x3 + 1)), ax_i (xs (x3 + 2))] I3 (fun w6 I5 =>
  ax_R w4 ∧
  (ax_R w6 ∧
  ((w4 = w6 →
    RLw (d + 14) L xs 1339 [some (ax_r 1000001), some (ax_r 0), some (ax_r 85), some (ax_i x3)] I5) ∧
  (¬ w4 = w6 →
    False)))))))) :
  RLw (d + 14) L xs 1058 [some (ax_r 1000001), some (ax_r 0), some (ax_r 85), some (ax_i x3)] I := by
  have hL : L < 2147483648 := by omega
  show Rn _ _ _ _ _ _ _ _
  refine r_aload_n dL_law_1058 rfl ?_
  refine r_aload_n dL_law_1059 rfl ?_
  refine r_iload_n dL_law_1060 rfl ?_
  refine r_iconst dL_law_1061 ?_
  refine r_iadd dL_law_1062 ?_
  have ob1 := H.1
  have H := H.2
  refine r_sld rfl hL dL_law_1063 ob1 ?_
  refine r_aload_n dL_law_1064 rfl ?_
  refine r_iload_n dL_law_1065 rfl ?_
  refine r_iconst dL_law_1066 ?_
  refine r_iadd dL_law_1067 ?_
  have ob2 := H.1
  have H := H.2
  refine r_sld rfl hL dL_law_1068 ob2 ?_
  refine r_cI (as := [ax_r 0, ax_i (xs (x3 + 1)), ax_i (xs (x3 + 2))]) (how_V (ci := 10) jX10_ends jIX10_ends jVX10_ends rfl s0_0 (by decide) rfl rfl wL_121 dL_law_1069) rfl (Nat.le_refl _) (Nat.le_of_ble_eq_true rfl) (fun _ => Nat.le_of_ble_eq_true rfl) H (fun w4 I3 H => ?_)
  refine r_aload_n dL_law_1072 rfl ?_
  refine r_aload_n dL_law_1073 rfl ?_
  refine r_iload_n dL_law_1074 rfl ?_
  refine r_iconst dL_law_1075 ?_
  refine r_iadd dL_law_1076 ?_
  refine r_sld rfl hL dL_law_1077 ob1 ?_
  refine r_aload_n dL_law_1078 rfl ?_
  refine r_iload_n dL_law_1079 rfl ?_
  refine r_iconst dL_law_1080 ?_
  refine r_iadd dL_law_1081 ?_
  refine r_sld rfl hL dL_law_1082 ob2 ?_
  refine r_cI (as := [ax_r 85, ax_i (xs (x3 + 1)), ax_i (xs (x3 + 2))]) (how_V (ci := 11) jX11_ends jIX11_ends jVX11_ends rfl s0_85 (by decide) rfl rfl wL_124 dL_law_1083) rfl (Nat.le_refl _) (Nat.le_of_ble_eq_true rfl) (fun _ => Nat.le_of_ble_eq_true rfl) H (fun w6 I5 H => ?_)
  have ob7 := H.1
  have H := H.2
  have ob8 := H.1
  have H := H.2
  refine r_icmp_eq (tgt := 1339) dL_law_1086 (by decide) ob7 ob8 (fun c9 => ?_) (fun c9 => ?_)
  · have H := H.1 c9
    exact H
  · have H := H.2 c9
    refine r_iconst dL_law_1089 ?_
    exact H.elim

theorem vL_law_1091 {d L : Nat} {xs : Int → Int} {I : ax_H} (hL : L ≤ 3584) (hxs : ∀ n, ax_R (xs n))  {x3 : Int} (H :
  (0 ≤ (x3 + 1) ∧ (x3 + 1) < L) ∧
  (cI (d + 13) kX10_write [ax_r 0, ax_i (xs (x3 + 1))] I (fun w3 I2 =>
  cI (d + 13) kX11_write [ax_r 85, ax_i (xs (x3 + 1))] I2 (fun w5 I4 =>
  ax_R w3 ∧
  (ax_R w5 ∧
  ((w3 = w5 →
    RLw (d + 14) L xs 1339 [some (ax_r 1000001), some (ax_r 0), some (ax_r 85), some (ax_i x3)] I4) ∧
  (¬ w3 = w5 →
    False))))))) :
  RLw (d + 14) L xs 1091 [some (ax_r 1000001), some (ax_r 0), some (ax_r 85), some (ax_i x3)] I := by
  have hL : L < 2147483648 := by omega
  show Rn _ _ _ _ _ _ _ _
  refine r_aload_n dL_law_1091 rfl ?_
  refine r_aload_n dL_law_1092 rfl ?_
  refine r_iload_n dL_law_1093 rfl ?_
  refine r_iconst dL_law_1094 ?_
  refine r_iadd dL_law_1095 ?_
  have ob1 := H.1
  have H := H.2
  refine r_sld rfl hL dL_law_1096 ob1 ?_
  refine r_cI (as := [ax_r 0, ax_i (xs (x3 + 1))]) (how_V (ci := 10) jX10_write jIX10_write jVX10_write rfl s0_0 (by decide) rfl rfl wL_125 dL_law_1097) rfl (Nat.le_refl _) (Nat.le_of_ble_eq_true rfl) (fun _ => Nat.le_of_ble_eq_true rfl) H (fun w3 I2 H => ?_)
  refine r_aload_n dL_law_1100 rfl ?_
  refine r_aload_n dL_law_1101 rfl ?_
  refine r_iload_n dL_law_1102 rfl ?_
  refine r_iconst dL_law_1103 ?_
  refine r_iadd dL_law_1104 ?_
  refine r_sld rfl hL dL_law_1105 ob1 ?_
  refine r_cI (as := [ax_r 85, ax_i (xs (x3 + 1))]) (how_V (ci := 11) jX11_write jIX11_write jVX11_write rfl s0_85 (by decide) rfl rfl wL_128 dL_law_1106) rfl (Nat.le_refl _) (Nat.le_of_ble_eq_true rfl) (fun _ => Nat.le_of_ble_eq_true rfl) H (fun w5 I4 H => ?_)
  have ob6 := H.1
  have H := H.2
  have ob7 := H.1
  have H := H.2
  refine r_icmp_eq (tgt := 1339) dL_law_1109 (by decide) ob6 ob7 (fun c8 => ?_) (fun c8 => ?_)
  · have H := H.1 c8
    exact H
  · have H := H.2 c8
    refine r_iconst dL_law_1112 ?_
    exact H.elim

theorem vL_law_1114 {d L : Nat} {xs : Int → Int} {I : ax_H} (hL : L ≤ 3584) (hxs : ∀ n, ax_R (xs n))  {x3 : Int} (H :
  (0 ≤ (x3 + 1) ∧ (x3 + 1) < L) ∧
  (cI (d + 13) kX10_paper [ax_r 0, ax_i (xs (x3 + 1))] I (fun w3 I2 =>
  cI (d + 13) kX11_paper [ax_r 85, ax_i (xs (x3 + 1))] I2 (fun w5 I4 =>
  ax_R w3 ∧
  (ax_R w5 ∧
  ((w3 = w5 →
    RLw (d + 14) L xs 1339 [some (ax_r 1000001), some (ax_r 0), some (ax_r 85), some (ax_i x3)] I4) ∧
  (¬ w3 = w5 →
    False))))))) :
  RLw (d + 14) L xs 1114 [some (ax_r 1000001), some (ax_r 0), some (ax_r 85), some (ax_i x3)] I := by
  have hL : L < 2147483648 := by omega
  show Rn _ _ _ _ _ _ _ _
  refine r_aload_n dL_law_1114 rfl ?_
  refine r_aload_n dL_law_1115 rfl ?_
  refine r_iload_n dL_law_1116 rfl ?_
  refine r_iconst dL_law_1117 ?_
  refine r_iadd dL_law_1118 ?_
  have ob1 := H.1
  have H := H.2
  refine r_sld rfl hL dL_law_1119 ob1 ?_
  refine r_cI (as := [ax_r 0, ax_i (xs (x3 + 1))]) (how_V (ci := 10) jX10_paper jIX10_paper jVX10_paper rfl s0_0 (by decide) rfl rfl wL_129 dL_law_1120) rfl (Nat.le_refl _) (Nat.le_of_ble_eq_true rfl) (fun _ => Nat.le_of_ble_eq_true rfl) H (fun w3 I2 H => ?_)
  refine r_aload_n dL_law_1123 rfl ?_
  refine r_aload_n dL_law_1124 rfl ?_
  refine r_iload_n dL_law_1125 rfl ?_
  refine r_iconst dL_law_1126 ?_
  refine r_iadd dL_law_1127 ?_
  refine r_sld rfl hL dL_law_1128 ob1 ?_
  refine r_cI (as := [ax_r 85, ax_i (xs (x3 + 1))]) (how_V (ci := 11) jX11_paper jIX11_paper jVX11_paper rfl s0_85 (by decide) rfl rfl wL_132 dL_law_1129) rfl (Nat.le_refl _) (Nat.le_of_ble_eq_true rfl) (fun _ => Nat.le_of_ble_eq_true rfl) H (fun w5 I4 H => ?_)
  have ob6 := H.1
  have H := H.2
  have ob7 := H.1
  have H := H.2
  refine r_icmp_eq (tgt := 1339) dL_law_1132 (by decide) ob6 ob7 (fun c8 => ?_) (fun c8 => ?_)
  · have H := H.1 c8
    exact H
  · have H := H.2 c8
    refine r_iconst dL_law_1135 ?_
    exact H.elim

theorem vL_law_1137 {d L : Nat} {xs : Int → Int} {I : ax_H} (hL : L ≤ 3584) (hxs : ∀ n, ax_R (xs n))  {x3 : Int} (H :
  (0 ≤ (x3 + 1) ∧ (x3 + 1) < L) ∧
  ((0 ≤ (x3 + 2) ∧ (x3 + 2) < L) ∧
  ((0 ≤ (x3 + 3) ∧ (x3 + 3) < L) ∧
  (cI (d + 13) kX10_judge [ax_r 0, ax_i (xs (x3 + 1)), ax_i (xs (x3 + 2)), ax_i (xs (x3 + 3))] I (fun w5 I4 =>
  cI (d + 13) kX11_judge [ax_r 85, ax_i (xs (x3 + 1)), ax_i (xs (x3 + 2)), ax_i (xs (x3 + 3))] I4 (fun w7 I6 =>
  ax_R w5 ∧
  (ax_R w7 ∧
  ((w5 = w7 →
    RLw (d + 14) L xs 1339 [some (ax_r 1000001), some (ax_r 0), some (ax_r 85), some (ax_i x3)] I6) ∧
  (¬ w5 = w7 →
    False))))))))) :
  RLw (d + 14) L xs 1137 [some (ax_r 1000001), some (ax_r 0), some (ax_r 85), some (ax_i x3)] I := by
  have hL : L < 2147483648 := by omega
  show Rn _ _ _ _ _ _ _ _
  refine r_aload_n dL_law_1137 rfl ?_
  refine r_aload_n dL_law_1138 rfl ?_
  refine r_iload_n dL_law_1139 rfl ?_
  refine r_iconst dL_law_1140 ?_
  refine r_iadd dL_law_1141 ?_
  have ob1 := H.1
  have H := H.2
  refine r_sld rfl hL dL_law_1142 ob1 ?_
  refine r_aload_n dL_law_1143 rfl ?_
  refine r_iload_n dL_law_1144 rfl ?_
  refine r_iconst dL_law_1145 ?_
  refine r_iadd dL_law_1146 ?_
  have ob2 := H.1
  have H := H.2
  refine r_sld rfl hL dL_law_1147 ob2 ?_
  refine r_aload_n dL_law_1148 rfl ?_
  refine r_iload_n dL_law_1149 rfl ?_
  refine r_iconst dL_law_1150 ?_
  refine r_iadd dL_law_1151 ?_
  have ob3 := H.1
  have H := H.2
  refine r_sld rfl hL dL_law_1152 ob3 ?_
  refine r_cI (as := [ax_r 0, ax_i (xs (x3 + 1)), ax_i (xs (x3 + 2)), ax_i (xs (x3 + 3))]) (how_V (ci := 10) jX10_judge jIX10_judge jVX10_judge rfl s0_0 (by decide) rfl rfl wL_133 dL_law_1153) rfl (Nat.le_refl _) (Nat.le_of_ble_eq_true rfl) (fun _ => Nat.le_of_ble_eq_true rfl) H (fun w5 I4 H => ?_)
  refine r_aload_n dL_law_1156 rfl ?_
  refine r_aload_n dL_law_1157 rfl ?_
  refine r_iload_n dL_law_1158 rfl ?_
  refine r_iconst dL_law_1159 ?_
  refine r_iadd dL_law_1160 ?_
  refine r_sld rfl hL dL_law_1161 ob1 ?_
  refine r_aload_n dL_law_1162 rfl ?_
  refine r_iload_n dL_law_1163 rfl ?_
  refine r_iconst dL_law_1164 ?_
  refine r_iadd dL_law_1165 ?_
  refine r_sld rfl hL dL_law_1166 ob2 ?_
  refine r_aload_n dL_law_1167 rfl ?_
  refine r_iload_n dL_law_1168 rfl ?_
  refine r_iconst dL_law_1169 ?_
  refine r_iadd dL_law_1170 ?_
  refine r_sld rfl hL dL_law_1171 ob3 ?_
  refine r_cI (as := [ax_r 85, ax_i (xs (x3 + 1)), ax_i (xs (x3 + 2)), ax_i (xs (x3 + 3))]) (how_V (ci := 11) jX11_judge jIX11_judge jVX11_judge rfl s0_85 (by decide) rfl rfl wL_136 dL_law_1172) rfl (Nat.le_refl _) (Nat.le_of_ble_eq_true rfl) (fun _ => Nat.le_of_ble_eq_true rfl) H (fun w7 I6 H => ?_)
  have ob8 := H.1
  have H := H.2
  have ob9 := H.1
  have H := H.2
  refine r_icmp_eq (tgt := 1339) dL_law_1175 (by decide) ob8 ob9 (fun c10 => ?_) (fun c10 => ?_)
  · have H := H.1 c10
    exact H
  · have H := H.2 c10
    refine r_iconst dL_law_1178 ?_
    exact H.elim

theorem vL_law_1180 {d L : Nat} {xs : Int → Int} {I : ax_H} (hL : L ≤ 3584) (hxs : ∀ n, ax_R (xs n))  {x3 : Int} (H :
  (0 ≤ (x3 + 1) ∧ (x3 + 1) < L) ∧
  ((0 ≤ (x3 + 2) ∧ (x3 + 2) < L) ∧
  (cI (d + 13) kX10_list [ax_r 0, ax_i (xs (x3 + 1)), ax_i (xs (x3 + 2))] I (fun w4 I3 =>
  cI (d + 13) kX11_list [ax_r 85, ax_i (xs (x3 + 1)), ax_i (xs (x3 + 2))] I3 (fun w6 I5 =>
  ax_R w4 ∧
  (ax_R w6 ∧
  ((w4 = w6 →
    RLw (d + 14) L xs 1339 [some (ax_r 1000001), some (ax_r 0), some (ax_r 85), some (ax_i x3)] I5) ∧
  (¬ w4 = w6 →
    False)))))))) :
  RLw (d + 14) L xs 1180 [some (ax_r 1000001), some (ax_r 0), some (ax_r 85), some (ax_i x3)] I := by
  have hL : L < 2147483648 := by omega
  show Rn _ _ _ _ _ _ _ _
  refine r_aload_n dL_law_1180 rfl ?_
  refine r_aload_n dL_law_1181 rfl ?_
  refine r_iload_n dL_law_1182 rfl ?_
  refine r_iconst dL_law_1183 ?_
  refine r_iadd dL_law_1184 ?_
  have ob1 := H.1
  have H := H.2
  refine r_sld rfl hL dL_law_1185 ob1 ?_
  refine r_aload_n dL_law_1186 rfl ?_
  refine r_iload_n dL_law_1187 rfl ?_
  refine r_iconst dL_law_1188 ?_
  refine r_iadd dL_law_1189 ?_
  have ob2 := H.1
  have H := H.2
  refine r_sld rfl hL dL_law_1190 ob2 ?_
  refine r_cI (as := [ax_r 0, ax_i (xs (x3 + 1)), ax_i (xs (x3 + 2))]) (how_V (ci := 10) jX10_list jIX10_list jVX10_list rfl s0_0 (by decide) rfl rfl wL_137 dL_law_1191) rfl (Nat.le_refl _) (Nat.le_of_ble_eq_true rfl) (fun _ => Nat.le_of_ble_eq_true rfl) H (fun w4 I3 H => ?_)
  refine r_aload_n dL_law_1194 rfl ?_
  refine r_aload_n dL_law_1195 rfl ?_
  refine r_iload_n dL_law_1196 rfl ?_
  refine r_iconst dL_law_1197 ?_
  refine r_iadd dL_law_1198 ?_
  refine r_sld rfl hL dL_law_1199 ob1 ?_
  refine r_aload_n dL_law_1200 rfl ?_
  refine r_iload_n dL_law_1201 rfl ?_
  refine r_iconst dL_law_1202 ?_
  refine r_iadd dL_law_1203 ?_
  refine r_sld rfl hL dL_law_1204 ob2 ?_
  refine r_cI (as := [ax_r 85, ax_i (xs (x3 + 1)), ax_i (xs (x3 + 2))]) (how_V (ci := 11) jX11_list jIX11_list jVX11_list rfl s0_85 (by decide) rfl rfl wL_140 dL_law_1205) rfl (Nat.le_refl _) (Nat.le_of_ble_eq_true rfl) (fun _ => Nat.le_of_ble_eq_true rfl) H (fun w6 I5 H => ?_)
  have ob7 := H.1
  have H := H.2
  have ob8 := H.1
  have H := H.2
  refine r_icmp_eq (tgt := 1339) dL_law_1208 (by decide) ob7 ob8 (fun c9 => ?_) (fun c9 => ?_)
  · have H := H.1 c9
    exact H
  · have H := H.2 c9
    refine r_iconst dL_law_1211 ?_
    exact H.elim

theorem vL_law_1213 {d L : Nat} {xs : Int → Int} {I : ax_H} (hL : L ≤ 3584) (hxs : ∀ n, ax_R (xs n))  {x3 : Int} (H :
  (0 ≤ (x3 + 1) ∧ (x3 + 1) < L) ∧
  ((0 ≤ (x3 + 2) ∧ (x3 + 2) < L) ∧
  ((0 ≤ (x3 + 3) ∧ (x3 + 3) < L) ∧
  (cI (d + 13) kX10_put [ax_r 0, ax_i (xs (x3 + 1)), ax_i (xs (x3 + 2)), ax_i (xs (x3 + 3))] I (fun w5 I4 =>
  cI (d + 13) kX11_put [ax_r 85, ax_i (xs (x3 + 1)), ax_i (xs (x3 + 2)), ax_i (xs (x3 + 3))] I4 (fun w7 I6 =>
  ax_R w5 ∧
  (ax_R w7 ∧
  ((w5 = w7 →
    RLw (d + 14) L xs 1339 [some (ax_r 1000001), some (ax_r 0), some (ax_r 85), some (ax_i x3)] I6) ∧
  (¬ w5 = w7 →
    False))))))))) :
  RLw (d + 14) L xs 1213 [some (ax_r 1000001), some (ax_r 0), some (ax_r 85), some (ax_i x3)] I := by
  have hL : L < 2147483648 := by omega
  show Rn _ _ _ _ _ _ _ _
  refine r_aload_n dL_law_1213 rfl ?_
  refine r_aload_n dL_law_1214 rfl ?_
  refine r_iload_n dL_law_1215 rfl ?_
  refine r_iconst dL_law_1216 ?_
  refine r_iadd dL_law_1217 ?_
  have ob1 := H.1
  have H := H.2
  refine r_sld rfl hL dL_law_1218 ob1 ?_
  refine r_aload_n dL_law_1219 rfl ?_
  refine r_iload_n dL_law_1220 rfl ?_
  refine r_iconst dL_law_1221 ?_
  refine r_iadd dL_law_1222 ?_
  have ob2 := H.1
  have H := H.2
  refine r_sld rfl hL dL_law_1223 ob2 ?_
  refine r_aload_n dL_law_1224 rfl ?_
  refine r_iload_n dL_law_1225 rfl ?_
  refine r_iconst dL_law_1226 ?_
  refine r_iadd dL_law_1227 ?_
  have ob3 := H.1
  have H := H.2
  refine r_sld rfl hL dL_law_1228 ob3 ?_
  refine r_cI (as := [ax_r 0, ax_i (xs (x3 + 1)), ax_i (xs (x3 + 2)), ax_i (xs (x3 + 3))]) (how_V (ci := 10) jX10_put jIX10_put jVX10_put rfl s0_0 (by decide) rfl rfl wL_141 dL_law_1229) rfl (Nat.le_refl _) (Nat.le_of_ble_eq_true rfl) (fun _ => Nat.le_of_ble_eq_true rfl) H (fun w5 I4 H => ?_)
  refine r_aload_n dL_law_1232 rfl ?_
  refine r_aload_n dL_law_1233 rfl ?_
  refine r_iload_n dL_law_1234 rfl ?_
  refine r_iconst dL_law_1235 ?_
  refine r_iadd dL_law_1236 ?_
  refine r_sld rfl hL dL_law_1237 ob1 ?_
  refine r_aload_n dL_law_1238 rfl ?_
  refine r_iload_n dL_law_1239 rfl ?_
  refine r_iconst dL_law_1240 ?_
  refine r_iadd dL_law_1241 ?_
  refine r_sld rfl hL dL_law_1242 ob2 ?_
  refine r_aload_n dL_law_1243 rfl ?_
  refine r_iload_n dL_law_1244 rfl ?_
  refine r_iconst dL_law_1245 ?_
  refine r_iadd dL_law_1246 ?_
  refine r_sld rfl hL dL_law_1247 ob3 ?_
  refine r_cI (as := [ax_r 85, ax_i (xs (x3 + 1)), ax_i (xs (x3 + 2)), ax_i (xs (x3 + 3))]) (how_V (ci := 11) jX11_put jIX11_put jVX11_put rfl s0_85 (by decide) rfl rfl wL_144 dL_law_1248) rfl (Nat.le_refl _) (Nat.le_of_ble_eq_true rfl) (fun _ => Nat.le_of_ble_eq_true rfl) H (fun w7 I6 H => ?_)
  have ob8 := H.1
  have H := H.2
  have ob9 := H.1
  have H := H.2
  refine r_icmp_eq (tgt := 1339) dL_law_1251 (by decide) ob8 ob9 (fun c10 => ?_) (fun c10 => ?_)
  · have H := H.1 c10
    exact H
  · have H := H.2 c10
    refine r_iconst dL_law_1254 ?_
    exact H.elim

theorem vL_law_1256 {d L : Nat} {xs : Int → Int} {I : ax_H} (hL : L ≤ 3584) (hxs : ∀ n, ax_R (xs n))  {x3 : Int} (H :
  (0 ≤ (x3 + 1) ∧ (x3 + 1) < L) ∧
  ((0 ≤ (x3 + 2) ∧ (x3 + 2) < L) ∧
  (cJ (d + 13) kX10_get [ax_r 0, ax_i (xs (x3 + 1)), ax_i (xs (x3 + 2))] I (fun w4 I3 =>
  cJ (d + 13) kX11_get [ax_r 85, ax_i (xs (x3 + 1)), ax_i (xs (x3 + 2))] I3 (fun w6 I5 =>
  ax_R8 w4 ∧
  (ax_R8 w6 ∧
  (ax_R (ax_cmp w4 w6) ∧
  (((ax_cmp w4 w6) = 0 →
    RLw (d + 14) L xs 1339 [some (ax_r 1000001), some (ax_r 0), some (ax_r 85), some (ax_i x3)] I5) ∧
  (¬ (ax_cmp w4 w6) = 0 →
    False))))))))) :
  RLw (d + 14) L xs 1256 [some (ax_r 1000001), some (ax_r 0), some (ax_r 85), some (ax_i x3)] I := by
  have hL : L < 2147483648 := by omega
  show Rn _ _ _ _ _ _ _ _
  refine r_aload_n dL_law_1256 rfl ?_
  refine r_aload_n dL_law_1257 rfl ?_
  refine r_iload_n dL_law_1258 rfl ?_
  refine r_iconst dL_law_1259 ?_
  refine r_iadd dL_law_1260 ?_
  have ob1 := H.1
  have H := H.2
  refine r_sld rfl hL dL_law_1261 ob1 ?_
  refine r_aload_n dL_law_1262 rfl ?_
  refine r_iload_n dL_law_1263 rfl ?_
  refine r_iconst dL_law_1264 ?_
  refine r_iadd dL_law_1265 ?_
  have ob2 := H.1
  have H := H.2
  refine r_sld rfl hL dL_law_1266 ob2 ?_
  refine r_cJ (as := [ax_r 0, ax_i (xs (x3 + 1)), ax_i (xs (x3 + 2))]) (how_V (ci := 10) jX10_get jIX10_get jVX10_get rfl s0_0 (by decide) rfl rfl wL_145 dL_law_1267) rfl (Nat.le_refl _) (Nat.le_of_ble_eq_true rfl) (fun _ => Nat.le_of_ble_eq_true rfl) H (fun w4 I3 H => ?_)
  refine r_aload_n dL_law_1270 rfl ?_
  refine r_aload_n dL_law_1271 rfl ?_
  refine r_iload_n dL_law_1272 rfl ?_
  refine r_iconst dL_law_1273 ?_
  refine r_iadd dL_law_1274 ?_
  refine r_sld rfl hL dL_law_1275 ob1 ?_
  refine r_aload_n dL_law_1276 rfl ?_
  refine r_iload_n dL_law_1277 rfl ?_
  refine r_iconst dL_law_1278 ?_
  refine r_iadd dL_law_1279 ?_
  refine r_sld rfl hL dL_law_1280 ob2 ?_
  refine r_cJ (as := [ax_r 85, ax_i (xs (x3 + 1)), ax_i (xs (x3 + 2))]) (how_V (ci := 11) jX11_get jIX11_get jVX11_get rfl s0_85 (by decide) rfl rfl wL_149 dL_law_1281) rfl (Nat.le_refl _) (Nat.le_of_ble_eq_true rfl) (fun _ => Nat.le_of_ble_eq_true rfl) H (fun w6 I5 H => ?_)
  have ob7 := H.1
  have H := H.2
  have ob8 := H.1
  have H := H.2
  refine r_lcmp dL_law_1284 ob7 ob8 ?_
  have ob9 := H.1
  have H := H.2
  refine r_if_eq (tgt := 1339) dL_law_1285 (by decide) ob9 (fun c10 => ?_) (fun c10 => ?_)
  · have H := H.1 c10
    exact H
  · have H := H.2 c10
    refine r_iconst dL_law_1288 ?_
    exact H.elim

theorem vL_law_1290 {d L : Nat} {xs : Int → Int} {I : ax_H} (hL : L ≤ 3584) (hxs : ∀ n, ax_R (xs n))  {x3 : Int} (H :
  cI (d + 13) kX10_image [ax_r 0] I (fun w2 I1 =>
  cI (d + 13) kX11_image [ax_r 85] I1 (fun w4 I3 =>
  ax_R w2 ∧
  (ax_R w4 ∧
  ((w2 = w4 →
    RLw (d + 14) L xs 1339 [some (ax_r 1000001), some (ax_r 0), some (ax_r 85), some (ax_i x3)] I3) ∧
  (¬ w2 = w4 →
    False)))))) :
  RLw (d + 14) L xs 1290 [some (ax_r 1000001), some (ax_r 0), some (ax_r 85), some (ax_i x3)] I := by
  have hL : L < 2147483648 := by omega
  show Rn _ _ _ _ _ _ _ _
  refine r_aload_n dL_law_1290 rfl ?_
  refine r_cI (as := [ax_r 0]) (how_V (ci := 10) jX10_image jIX10_image jVX10_image rfl s0_0 (by decide) rfl rfl wL_150 dL_law_1291) rfl (Nat.le_refl _) (Nat.le_of_ble_eq_true rfl) (fun _ => Nat.le_of_ble_eq_true rfl) H (fun w2 I1 H => ?_)
  refine r_aload_n dL_law_1294 rfl ?_
  refine r_cI (as := [ax_r 85]) (how_V (ci := 11) jX11_image jIX11_image jVX11_image rfl s0_85 (by decide) rfl rfl wL_153 dL_law_1295) rfl (Nat.le_refl _) (Nat.le_of_ble_eq_true rfl) (fun _ => Nat.le_of_ble_eq_true rfl) H (fun w4 I3 H => ?_)
  have ob5 := H.1
  have H := H.2
  have ob6 := H.1
  have H := H.2
  refine r_icmp_eq (tgt := 1339) dL_law_1298 (by decide) ob5 ob6 (fun c7 => ?_) (fun c7 => ?_)
  · have H := H.1 c7
    exact H
  · have H := H.2 c7
    refine r_iconst dL_law_1301 ?_
    exact H.elim

theorem vL_law_1303 {d L : Nat} {xs : Int → Int} {I : ax_H} (hL : L ≤ 3584) (hxs : ∀ n, ax_R (xs n))  {x3 : Int} (H :
  cI (d + 13) kX10_undo [ax_r 0] I (fun w2 I1 =>
  cI (d + 13) kX11_undo [ax_r 85] I1 (fun w4 I3 =>
  ax_R w2 ∧
  (ax_R w4 ∧
  ((w2 = w4 →
    RLw (d + 14) L xs 1339 [some (ax_r 1000001), some (ax_r 0), some (ax_r 85), some (ax_i x3)] I3) ∧
  (¬ w2 = w4 →
    False)))))) :
  RLw (d + 14) L xs 1303 [some (ax_r 1000001), some (ax_r 0), some (ax_r 85), some (ax_i x3)] I := by
  have hL : L < 2147483648 := by omega
  show Rn _ _ _ _ _ _ _ _
  refine r_aload_n dL_law_1303 rfl ?_
  refine r_cI (as := [ax_r 0]) (how_V (ci := 10) jX10_undo jIX10_undo jVX10_undo rfl s0_0 (by decide) rfl rfl wL_154 dL_law_1304) rfl (Nat.le_refl _) (Nat.le_of_ble_eq_true rfl) (fun _ => Nat.le_of_ble_eq_true rfl) H (fun w2 I1 H => ?_)
  refine r_aload_n dL_law_1307 rfl ?_
  refine r_cI (as := [ax_r 85]) (how_V (ci := 11) jX11_undo jIX11_undo jVX11_undo rfl s0_85 (by decide) rfl rfl wL_157 dL_law_1308) rfl (Nat.le_refl _) (Nat.le_of_ble_eq_true rfl) (fun _ => Nat.le_of_ble_eq_true rfl) H (fun w4 I3 H => ?_)
  have ob5 := H.1
  have H := H.2
  have ob6 := H.1
  have H := H.2
  refine r_icmp_eq (tgt := 1339) dL_law_1311 (by decide) ob5 ob6 (fun c7 => ?_) (fun c7 => ?_)
  · have H := H.1 c7
    exact H
  · have H := H.2 c7
    refine r_iconst dL_law_1314 ?_
    exact H.elim

theorem vL_law_1316 {d L : Nat} {xs : Int → Int} {I : ax_H} (hL : L ≤ 3584) (hxs : ∀ n, ax_R (xs n))  {x3 : Int} (H :
  (0 ≤ (x3 + 1) ∧ (x3 + 1) < L) ∧
  (cI (d + 13) kX10_count [ax_r 0, ax_i (xs (x3 + 1))] I (fun w3 I2 =>
  cI (d + 13) kX11_count [ax_r 85, ax_i (xs (x3 + 1))] I2 (fun w5 I4 =>
  ax_R w3 ∧
  (ax_R w5 ∧
  ((w3 = w5 →
    RLw (d + 14) L xs 1339 [some (ax_r 1000001), some (ax_r 0), some (ax_r 85), some (ax_i x3)] I4) ∧
  (¬ w3 = w5 →
    False))))))) :
  RLw (d + 14) L xs 1316 [some (ax_r 1000001), some (ax_r 0), some (ax_r 85), some (ax_i x3)] I := by
  have hL : L < 2147483648 := by omega
  show Rn _ _ _ _ _ _ _ _
  refine r_aload_n dL_law_1316 rfl ?_
  refine r_aload_n dL_law_1317 rfl ?_
  refine r_iload_n dL_law_1318 rfl ?_
  refine r_iconst dL_law_1319 ?_
  refine r_iadd dL_law_1320 ?_
  have ob1 := H.1
  have H := H.2
  refine r_sld rfl hL dL_law_1321 ob1 ?_
  refine r_cI (as := [ax_r 0, ax_i (xs (x3 + 1))]) (how_V (ci := 10) jX10_count jIX10_count jVX10_count rfl s0_0 (by decide) rfl rfl wL_158 dL_law_1322) rfl (Nat.le_refl _) (Nat.le_of_ble_eq_true rfl) (fun _ => Nat.le_of_ble_eq_true rfl) H (fun w3 I2 H => ?_)
  refine r_aload_n dL_law_1325 rfl ?_
  refine r_aload_n dL_law_1326 rfl ?_
  refine r_iload_n dL_law_1327 rfl ?_
  refine r_iconst dL_law_1328 ?_
  refine r_iadd dL_law_1329 ?_
  refine r_sld rfl hL dL_law_1330 ob1 ?_
  refine r_cI (as := [ax_r 85, ax_i (xs (x3 + 1))]) (how_V (ci := 11) jX11_count jIX11_count jVX11_count rfl s0_85 (by decide) rfl rfl wL_161 dL_law_1331) rfl (Nat.le_refl _) (Nat.le_of_ble_eq_true rfl) (fun _ => Nat.le_of_ble_eq_true rfl) H (fun w5 I4 H => ?_)
  have ob6 := H.1
  have H := H.2
  have ob7 := H.1
  have H := H.2
  refine r_icmp_eq (tgt := 1339) dL_law_1334 (by decide) ob6 ob7 (fun c8 => ?_) (fun c8 => ?_)
  · have H := H.1 c8
    exact H
  · have H := H.2 c8
    refine r_iconst dL_law_1337 ?_
    exact H.elim

theorem vL_law_1339 {d L : Nat} {xs : Int → Int} {I : ax_H} (hL : L ≤ 3584) (hxs : ∀ n, ax_R (xs n))  {x3 : Int} (H :
  RLw (d + 14) L xs 18 [some (ax_r 1000001), some (ax_r 0), some (ax_r 85), some (ax_i (x3 + 7))] I) :
  RLw (d + 14) L xs 1339 [some (ax_r 1000001), some (ax_r 0), some (ax_r 85), some (ax_i x3)] I := by
  have hL : L < 2147483648 := by omega
  show Rn _ _ _ _ _ _ _ _
  refine r_iinc dL_law_1339 (by decide) rfl rfl ?_
  refine r_goto (tgt := 18) dL_law_1342 (by decide) ?_
  exact H
