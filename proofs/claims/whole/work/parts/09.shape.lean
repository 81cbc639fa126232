theorem ax_in1_1 {w : Cond} {i : Nat} (h : tables_1_1[i]? = some w) (g : goodWord w = true) : w ∈ ax_tb := List.mem_filter.mpr ⟨List.mem_append_right _ (List.mem_append_left _ (List.mem_of_getElem? h)), g⟩
theorem ax_in1_2 {w : Cond} {i : Nat} (h : tables_1_2[i]? = some w) (g : goodWord w = true) : w ∈ ax_tb := List.mem_filter.mpr ⟨List.mem_append_right _ (List.mem_append_right _ (List.mem_append_left _ (List.mem_of_getElem? h))), g⟩
theorem ax_in1_3 {w : Cond} {i : Nat} (h : tables_1_3[i]? = some w) (g : goodWord w = true) : w ∈ ax_tb := List.mem_filter.mpr ⟨List.mem_append_right _ (List.mem_append_right _ (List.mem_append_right _ (List.mem_append_left _ (List.mem_of_getElem? h)))), g⟩
theorem ax_in1_4 {w : Cond} {i : Nat} (h : tables_1_4[i]? = some w) (g : goodWord w = true) : w ∈ ax_tb := List.mem_filter.mpr ⟨List.mem_append_right _ (List.mem_append_right _ (List.mem_append_right _ (List.mem_append_right _ (List.mem_append_left _ (List.mem_of_getElem? h))))), g⟩
theorem ax_in1_5 {w : Cond} {i : Nat} (h : tables_1_5[i]? = some w) (g : goodWord w = true) : w ∈ ax_tb := List.mem_filter.mpr ⟨List.mem_append_right _ (List.mem_append_right _ (List.mem_append_right _ (List.mem_append_right _ (List.mem_append_right _ (List.mem_append_left _ (List.mem_of_getElem? h)))))), g⟩
theorem ax_in1_6 {w : Cond} {i : Nat} (h : tables_1_6[i]? = some w) (g : goodWord w = true) : w ∈ ax_tb := List.mem_filter.mpr ⟨List.mem_append_right _ (List.mem_append_right _ (List.mem_append_right _ (List.mem_append_right _ (List.mem_append_right _ (List.mem_append_right _ (List.mem_of_getElem? h)))))), g⟩
theorem ax_inN_1 {w : Cond} {i : Nat} (h : tables_1_1[i]? = some w) (g : ax_isN w = true) : w ∈ ax_nst := List.mem_filter.mpr ⟨List.mem_append_right _ (List.mem_append_left _ (List.mem_of_getElem? h)), g⟩
theorem ax_inN_2 {w : Cond} {i : Nat} (h : tables_1_2[i]? = some w) (g : ax_isN w = true) : w ∈ ax_nst := List.mem_filter.mpr ⟨List.mem_append_right _ (List.mem_append_right _ (List.mem_append_left _ (List.mem_of_getElem? h))), g⟩
theorem ax_inN_3 {w : Cond} {i : Nat} (h : tables_1_3[i]? = some w) (g : ax_isN w = true) : w ∈ ax_nst := List.mem_filter.mpr ⟨List.mem_append_right _ (List.mem_append_right _ (List.mem_append_right _ (List.mem_append_left _ (List.mem_of_getElem? h)))), g⟩
theorem ax_inN_4 {w : Cond} {i : Nat} (h : tables_1_4[i]? = some w) (g : ax_isN w = true) : w ∈ ax_nst := List.mem_filter.mpr ⟨List.mem_append_right _ (List.mem_append_right _ (List.mem_append_right _ (List.mem_append_right _ (List.mem_append_left _ (List.mem_of_getElem? h))))), g⟩
theorem ax_inN_5 {w : Cond} {i : Nat} (h : tables_1_5[i]? = some w) (g : ax_isN w = true) : w ∈ ax_nst := List.mem_filter.mpr ⟨List.mem_append_right _ (List.mem_append_right _ (List.mem_append_right _ (List.mem_append_right _ (List.mem_append_right _ (List.mem_append_left _ (List.mem_of_getElem? h)))))), g⟩
theorem ax_inN_6 {w : Cond} {i : Nat} (h : tables_1_6[i]? = some w) (g : ax_isN w = true) : w ∈ ax_nst := List.mem_filter.mpr ⟨List.mem_append_right _ (List.mem_append_right _ (List.mem_append_right _ (List.mem_append_right _ (List.mem_append_right _ (List.mem_append_right _ (List.mem_of_getElem? h)))))), g⟩
theorem ax_in0 {w : Cond} {i : Nat} (h : (k2_sels lw_privs)[i]? = some w) (g : goodWord w = true) : w ∈ ax_tb := List.mem_filter.mpr ⟨List.mem_append_left _ (List.mem_of_getElem? h), g⟩
/-! the shape behind the two constructors -/
def S0 : ax_Sh := [(10, 14, [some 1, some 10, some 15, some 63, some 65, some 67, some 70, some 72, some 74, some 77, some 78, some 80, some 82, none]), (1, 10, [some 2, none, none, none, some 4, some 5, some 6, some 7, some 8, some 9]), (9, 1, [some 3]), (100, 18, []), (100, 192, []), (100, 1024, []), (100, 32, []), (100, 1024, []), (101, 1024, []), (100, 1024, []), (5, 5, [some 11, some 12, some 13, some 14, none]), (100, 1024, []), (100, 1024, []), (100, 1024, []), (100, 1025, []), (2, 13, [some 16, some 21, some 26, some 33, some 40, some 47, some 49, some 51, some 53, some 55, some 57, some 59, some 61]), (3, 2, [some 17, some 19]), (7, 2, [some 18, none]), (100, 1300, []), (7, 2, [some 20, none]), (100, 1300, []), (3, 2, [some 22, some 24]), (7, 2, [some 23, none]), (100, 1300, []), (7, 2, [some 25, none]), (100, 1300, []), (102, 3, [some 27, some 29, some 31]), (7, 2, [some 28, none]), (100, 1300, []), (7, 2, [some 30, none]), (100, 1300, []), (7, 2, [some 32, none]), (100, 1300, []), (102, 3, [some 34, some 36, some 38]), (7, 2, [some 35, none]), (100, 1300, []), (7, 2, [some 37, none]), (100, 1300, []), (7, 2, [some 39, none]), (100, 1300, []), (102, 3, [some 41, some 43, some 45]), (7, 2, [some 42, none]), (100, 1300, []), (7, 2, [some 44, none]), (100, 1300, []), (7, 2, [some 46, none]), (100, 1300, []), (7, 2, [some 48, none]), (100, 1300, []), (7, 2, [some 50, none]), (100, 1300, []), (7, 2, [some 52, none]), (100, 1300, []), (7, 2, [some 54, none]), (100, 1300, []), (7, 2, [some 56, none]), (100, 1300, []), (7, 2, [some 58, none]), (100, 1300, []), (7, 2, [some 60, none]), (100, 1300, []), (7, 2, [some 62, none]), (100, 1300, []), (8, 2, [some 64, none]), (100, 12, []), (8, 2, [some 66, none]), (100, 12, []), (6, 3, [some 68, some 69, none]), (100, 8, []), (100, 8, []), (0, 2, [some 71, none]), (100, 60, []), (0, 2, [some 73, none]), (100, 60, []), (4, 2, [some 75, some 76]), (100, 4, []), (100, 48, []), (100, 9, []), (9, 1, [some 79]), (100, 18, []), (8, 2, [some 81, none]), (100, 12, []), (6, 3, [some 83, some 84, none]), (100, 8, []), (100, 8, []), (11, 30, [some 86, some 87, none, some 88, some 89, some 90, some 91, some 92, some 93, some 94, some 95, some 96, some 97, some 104, some 105, some 106, some 107, some 108, some 109, some 110, some 111, some 112, some 113, none, none, some 114, some 115, none, some 116, some 117]), (100, 48, []), (100, 48, []), (100, 1024, []), (100, 32, []), (100, 1024, []), (101, 1024, []), (100, 1025, []), (100, 2500, []), (100, 2500, []), (100, 2500, []), (100, 2500, []), (103, 6, [some 98, some 99, some 100, some 101, some 102, some 103]), (100, 2500, []), (100, 2500, []), (100, 2500, []), (100, 2500, []), (100, 2500, []), (100, 2500, []), (100, 2500, []), (100, 2500, []), (100, 2500, []), (100, 2500, []), (100, 2500, []), (100, 2500, []), (100, 2500, []), (100, 2500, []), (101, 1024, []), (100, 60, []), (100, 9, []), (100, 120, []), (100, 4, []), (103, 4, [some 118, some 119, some 120, some 121]), (100, 12, []), (100, 12, []), (100, 12, []), (100, 12, [])]
theorem s0_len : S0.length = 122 := rfl
theorem s0_0 : S0[0]? = some (10, 14, [some 1, some 10, some 15, some 63, some 65, some 67, some 70, some 72, some 74, some 77, some 78, some 80, some 82, none]) := rfl
theorem s0_1 : S0[1]? = some (1, 10, [some 2, none, none, none, some 4, some 5, some 6, some 7, some 8, some 9]) := rfl
theorem s0_2 : S0[2]? = some (9, 1, [some 3]) := rfl
theorem s0_3 : S0[3]? = some (100, 18, []) := rfl
theorem s0_4 : S0[4]? = some (100, 192, []) := rfl
theorem s0_5 : S0[5]? = some (100, 1024, []) := rfl
theorem s0_6 : S0[6]? = some (100, 32, []) := rfl
theorem s0_7 : S0[7]? = some (100, 1024, []) := rfl
theorem s0_8 : S0[8]? = some (101, 1024, []) := rfl
theorem s0_9 : S0[9]? = some (100, 1024, []) := rfl
theorem s0_10 : S0[10]? = some (5, 5, [some 11, some 12, some 13, some 14, none]) := rfl
theorem s0_11 : S0[11]? = some (100, 1024, []) := rfl
theorem s0_12 : S0[12]? = some (100, 1024, []) := rfl
theorem s0_13 : S0[13]? = some (100, 1024, []) := rfl
theorem s0_14 : S0[14]? = some (100, 1025, []) := rfl
theorem s0_15 : S0[15]? = some (2, 13, [some 16, some 21, some 26, some 33, some 40, some 47, some 49, some 51, some 53, some 55, some 57, some 59, some 61]) := rfl
theorem s0_16 : S0[16]? = some (3, 2, [some 17, some 19]) := rfl
theorem s0_17 : S0[17]? = some (7, 2, [some 18, none]) := rfl
theorem s0_18 : S0[18]? = some (100, 1300, []) := rfl
theorem s0_19 : S0[19]? = some (7, 2, [some 20, none]) := rfl
theorem s0_20 : S0[20]? = some (100, 1300, []) := rfl
theorem s0_21 : S0[21]? = some (3, 2, [some 22, some 24]) := rfl
theorem s0_22 : S0[22]? = some (7, 2, [some 23, none]) := rfl
theorem s0_23 : S0[23]? = some (100, 1300, []) := rfl
theorem s0_24 : S0[24]? = some (7, 2, [some 25, none]) := rfl
theorem s0_25 : S0[25]? = some (100, 1300, []) := rfl
theorem s0_26 : S0[26]? = some (102, 3, [some 27, some 29, some 31]) := rfl
theorem s0_27 : S0[27]? = some (7, 2, [some 28, none]) := rfl
theorem s0_28 : S0[28]? = some (100, 1300, []) := rfl
theorem s0_29 : S0[29]? = some (7, 2, [some 30, none]) := rfl
theorem s0_30 : S0[30]? = some (100, 1300, []) := rfl
theorem s0_31 : S0[31]? = some (7, 2, [some 32, none]) := rfl
theorem s0_32 : S0[32]? = some (100, 1300, []) := rfl
theorem s0_33 : S0[33]? = some (102, 3, [some 34, some 36, some 38]) := rfl
theorem s0_34 : S0[34]? = some (7, 2, [some 35, none]) := rfl
theorem s0_35 : S0[35]? = some (100, 1300, []) := rfl
theorem s0_36 : S0[36]? = some (7, 2, [some 37, none]) := rfl
theorem s0_37 : S0[37]? = some (100, 1300, []) := rfl
theorem s0_38 : S0[38]? = some (7, 2, [some 39, none]) := rfl
theorem s0_39 : S0[39]? = some (100, 1300, []) := rfl
theorem s0_40 : S0[40]? = some (102, 3, [some 41, some 43, some 45]) := rfl
theorem s0_41 : S0[41]? = some (7, 2, [some 42, none]) := rfl
theorem s0_42 : S0[42]? = some (100, 1300, []) := rfl
theorem s0_43 : S0[43]? = some (7, 2, [some 44, none]) := rfl
theorem s0_44 : S0[44]? = some (100, 1300, []) := rfl
theorem s0_45 : S0[45]? = some (7, 2, [some 46, none]) := rfl
theorem s0_46 : S0[46]? = some (100, 1300, []) := rfl
theorem s0_47 : S0[47]? = some (7, 2, [some 48, none]) := rfl
theorem s0_48 : S0[48]? = some (100, 1300, []) := rfl
theorem s0_49 : S0[49]? = some (7, 2, [some 50, none]) := rfl
theorem s0_50 : S0[50]? = some (100, 1300, []) := rfl
theorem s0_51 : S0[51]? = some (7, 2, [some 52, none]) := rfl
theorem s0_52 : S0[52]? = some (100, 1300, []) := rfl
theorem s0_53 : S0[53]? = some (7, 2, [some 54, none]) := rfl
theorem s0_54 : S0[54]? = some (100, 1300, []) := rfl
theorem s0_55 : S0[55]? = some (7, 2, [some 56, none]) := rfl
theorem s0_56 : S0[56]? = some (100, 1300, []) := rfl
theorem s0_57 : S0[57]? = some (7, 2, [some 58, none]) := rfl
theorem s0_58 : S0[58]? = some (100, 1300, []) := rfl
theorem s0_59 : S0[59]? = some (7, 2, [some 60, none]) := rfl
theorem s0_60 : S0[60]? = some (100, 1300, []) := rfl
theorem s0_61 : S0[61]? = some (7, 2, [some 62, none]) := rfl
theorem s0_62 : S0[62]? = some (100, 1300, []) := rfl
theorem s0_63 : S0[63]? = some (8, 2, [some 64, none]) := rfl
theorem s0_64 : S0[64]? = some (100, 12, []) := rfl
theorem s0_65 : S0[65]? = some (8, 2, [some 66, none]) := rfl
theorem s0_66 : S0[66]? = some (100, 12, []) := rfl
theorem s0_67 : S0[67]? = some (6, 3, [some 68, some 69, none]) := rfl
theorem s0_68 : S0[68]? = some (100, 8, []) := rfl
theorem s0_69 : S0[69]? = some (100, 8, []) := rfl
theorem s0_70 : S0[70]? = some (0, 2, [some 71, none]) := rfl
theorem s0_71 : S0[71]? = some (100, 60, []) := rfl
theorem s0_72 : S0[72]? = some (0, 2, [some 73, none]) := rfl
theorem s0_73 : S0[73]? = some (100, 60, []) := rfl
theorem s0_74 : S0[74]? = some (4, 2, [some 75, some 76]) := rfl
theorem s0_75 : S0[75]? = some (100, 4, []) := rfl
theorem s0_76 : S0[76]? = some (100, 48, []) := rfl
theorem s0_77 : S0[77]? = some (100, 9, []) := rfl
theorem s0_78 : S0[78]? = some (9, 1, [some 79]) := rfl
theorem s0_79 : S0[79]? = some (100, 18, []) := rfl
theorem s0_80 : S0[80]? = some (8, 2, [some 81, none]) := rfl
theorem s0_81 : S0[81]? = some (100, 12, []) := rfl
theorem s0_82 : S0[82]? = some (6, 3, [some 83, some 84, none]) := rfl
theorem s0_83 : S0[83]? = some (100, 8, []) := rfl
theorem s0_84 : S0[84]? = some (100, 8, []) := rfl
theorem s0_85 : S0[85]? = some (11, 30, [some 86, some 87, none, some 88, some 89, some 90, some 91, some 92, some 93, some 94, some 95, some 96, some 97, some 104, some 105, some 106, some 107, some 108, some 109, some 110, some 111, some 112, some 113, none, none, some 114, some 115, none, some 116, some 117]) := rfl
theorem s0_86 : S0[86]? = some (100, 48, []) := rfl
theorem s0_87 : S0[87]? = some (100, 48, []) := rfl
theorem s0_88 : S0[88]? = some (100, 1024, []) := rfl
theorem s0_89 : S0[89]? = some (100, 32, []) := rfl
theorem s0_90 : S0[90]? = some (100, 1024, []) := rfl
theorem s0_91 : S0[91]? = some (101, 1024, []) := rfl
theorem s0_92 : S0[92]? = some (100, 1025, []) := rfl
theorem s0_93 : S0[93]? = some (100, 2500, []) := rfl
theorem s0_94 : S0[94]? = some (100, 2500, []) := rfl
theorem s0_95 : S0[95]? = some (100, 2500, []) := rfl
theorem s0_96 : S0[96]? = some (100, 2500, []) := rfl
theorem s0_97 : S0[97]? = some (103, 6, [some 98, some 99, some 100, some 101, some 102, some 103]) := rfl
theorem s0_98 : S0[98]? = some (100, 2500, []) := rfl
theorem s0_99 : S0[99]? = some (100, 2500, []) := rfl
theorem s0_100 : S0[100]? = some (100, 2500, []) := rfl
theorem s0_101 : S0[101]? = some (100, 2500, []) := rfl
theorem s0_102 : S0[102]? = some (100, 2500, []) := rfl
theorem s0_103 : S0[103]? = some (100, 2500, []) := rfl
theorem s0_104 : S0[104]? = some (100, 2500, []) := rfl
theorem s0_105 : S0[105]? = some (100, 2500, []) := rfl
theorem s0_106 : S0[106]? = some (100, 2500, []) := rfl
theorem s0_107 : S0[107]? = some (100, 2500, []) := rfl
theorem s0_108 : S0[108]? = some (100, 2500, []) := rfl
theorem s0_109 : S0[109]? = some (100, 2500, []) := rfl
theorem s0_110 : S0[110]? = some (100, 2500, []) := rfl
theorem s0_111 : S0[111]? = some (100, 2500, []) := rfl
theorem s0_112 : S0[112]? = some (101, 1024, []) := rfl
theorem s0_113 : S0[113]? = some (100, 60, []) := rfl
theorem s0_114 : S0[114]? = some (100, 9, []) := rfl
theorem s0_115 : S0[115]? = some (100, 120, []) := rfl
theorem s0_116 : S0[116]? = some (100, 4, []) := rfl
theorem s0_117 : S0[117]? = some (103, 4, [some 118, some 119, some 120, some 121]) := rfl
theorem s0_118 : S0[118]? = some (100, 12, []) := rfl
theorem s0_119 : S0[119]? = some (100, 12, []) := rfl
theorem s0_120 : S0[120]? = some (100, 12, []) := rfl
theorem s0_121 : S0[121]? = some (100, 12, []) := rfl
theorem wiX0 : ∀ w ∈ u_ws RX0 TX0 2, w ∈ ax_tb := by
  intro w hw
  obtain ⟨j, hj, rfl⟩ := List.mem_map.mp hw
  have hj : j < 2 := List.mem_range.mp hj
  match j, hj with
  | 0, _ => exact (ax_in1_1 (i := 215) rfl rfl)
  | 1, _ => exact (ax_in1_1 (i := 217) rfl rfl)
  | j + 2, h => exact absurd h (by omega)
theorem clX0 : ax_cl 0 RX0 TX0 2 tyX0 := ⟨by decide, rfl, wiX0, tyX0_ok, nmX0, by decide⟩
theorem wiX1 : ∀ w ∈ u_ws RX1 TX1 10, w ∈ ax_tb := by
  intro w hw
  obtain ⟨j, hj, rfl⟩ := List.mem_map.mp hw
  have hj : j < 10 := List.mem_range.mp hj
  match j, hj with
  | 0, _ => exact (ax_in1_1 (i := 52) rfl rfl)
  | 1, _ => exact (ax_in1_1 (i := 54) rfl rfl)
  | 2, _ => exact (ax_in1_1 (i := 56) rfl rfl)
  | 3, _ => exact (ax_in1_1 (i := 58) rfl rfl)
  | 4, _ => exact (ax_in1_1 (i := 60) rfl rfl)
  | 5, _ => exact (ax_in1_1 (i := 62) rfl rfl)
  | 6, _ => exact (ax_in1_1 (i := 64) rfl rfl)
  | 7, _ => exact (ax_in1_1 (i := 66) rfl rfl)
  | 8, _ => exact (ax_in1_1 (i := 68) rfl rfl)
  | 9, _ => exact (ax_in1_1 (i := 70) rfl rfl)
  | j + 10, h => exact absurd h (by omega)
theorem clX1 : ax_cl 1 RX1 TX1 10 tyX1 := ⟨by decide, rfl, wiX1, tyX1_ok, nmX1, by decide⟩
theorem wiX2 : ∀ w ∈ u_ws RX2 TX2 13, w ∈ ax_tb := by
  intro w hw
  obtain ⟨j, hj, rfl⟩ := List.mem_map.mp hw
  have hj : j < 13 := List.mem_range.mp hj
  match j, hj with
  | 0, _ => exact (ax_in1_1 (i := 147) rfl rfl)
  | 1, _ => exact (ax_in1_1 (i := 149) rfl rfl)
  | 2, _ => exact (ax_in1_1 (i := 151) rfl rfl)
  | 3, _ => exact (ax_in1_1 (i := 153) rfl rfl)
  | 4, _ => exact (ax_in1_1 (i := 155) rfl rfl)
  | 5, _ => exact (ax_in1_1 (i := 157) rfl rfl)
  | 6, _ => exact (ax_in1_1 (i := 159) rfl rfl)
  | 7, _ => exact (ax_in1_1 (i := 161) rfl rfl)
  | 8, _ => exact (ax_in1_1 (i := 163) rfl rfl)
  | 9, _ => exact (ax_in1_1 (i := 165) rfl rfl)
  | 10, _ => exact (ax_in1_1 (i := 167) rfl rfl)
  | 11, _ => exact (ax_in1_1 (i := 169) rfl rfl)
  | 12, _ => exact (ax_in1_1 (i := 171) rfl rfl)
  | j + 13, h => exact absurd h (by omega)
theorem clX2 : ax_cl 2 RX2 TX2 13 tyX2 := ⟨by decide, rfl, wiX2, tyX2_ok, nmX2, by decide⟩
theorem wiX3 : ∀ w ∈ u_ws RX3 TX3 2, w ∈ ax_tb := by
  intro w hw
  obtain ⟨j, hj, rfl⟩ := List.mem_map.mp hw
  have hj : j < 2 := List.mem_range.mp hj
  match j, hj with
  | 0, _ => exact (ax_in1_1 (i := 126) rfl rfl)
  | 1, _ => exact (ax_in1_1 (i := 128) rfl rfl)
  | j + 2, h => exact absurd h (by omega)
theorem clX3 : ax_cl 3 RX3 TX3 2 tyX3 := ⟨by decide, rfl, wiX3, tyX3_ok, nmX3, by decide⟩
theorem wiX4 : ∀ w ∈ u_ws RX4 TX4 2, w ∈ ax_tb := by
  intro w hw
  obtain ⟨j, hj, rfl⟩ := List.mem_map.mp hw
  have hj : j < 2 := List.mem_range.mp hj
  match j, hj with
  | 0, _ => exact (ax_in1_1 (i := 228) rfl rfl)
  | 1, _ => exact (ax_in1_1 (i := 230) rfl rfl)
  | j + 2, h => exact absurd h (by omega)
theorem clX4 : ax_cl 4 RX4 TX4 2 tyX4 := ⟨by decide, rfl, wiX4, tyX4_ok, nmX4, by decide⟩
theorem wiX5 : ∀ w ∈ u_ws RX5 TX5 5, w ∈ ax_tb := by
  intro w hw
  obtain ⟨j, hj, rfl⟩ := List.mem_map.mp hw
  have hj : j < 5 := List.mem_range.mp hj
  match j, hj with
  | 0, _ => exact (ax_in1_1 (i := 85) rfl rfl)
  | 1, _ => exact (ax_in1_1 (i := 87) rfl rfl)
  | 2, _ => exact (ax_in1_1 (i := 89) rfl rfl)
  | 3, _ => exact (ax_in1_1 (i := 91) rfl rfl)
  | 4, _ => exact (ax_in1_1 (i := 93) rfl rfl)
  | j + 5, h => exact absurd h (by omega)
theorem clX5 : ax_cl 5 RX5 TX5 5 tyX5 := ⟨by decide, rfl, wiX5, tyX5_ok, nmX5, by decide⟩
theorem wiX6 : ∀ w ∈ u_ws RX6 TX6 3, w ∈ ax_tb := by
  intro w hw
  obtain ⟨j, hj, rfl⟩ := List.mem_map.mp hw
  have hj : j < 3 := List.mem_range.mp hj
  match j, hj with
  | 0, _ => exact (ax_in1_1 (i := 199) rfl rfl)
  | 1, _ => exact (ax_in1_1 (i := 201) rfl rfl)
  | 2, _ => exact (ax_in1_1 (i := 203) rfl rfl)
  | j + 3, h => exact absurd h (by omega)
theorem clX6 : ax_cl 6 RX6 TX6 3 tyX6 := ⟨by decide, rfl, wiX6, tyX6_ok, nmX6, by decide⟩
theorem wiX7 : ∀ w ∈ u_ws RX7 TX7 2, w ∈ ax_tb := by
  intro w hw
  obtain ⟨j, hj, rfl⟩ := List.mem_map.mp hw
  have hj : j < 2 := List.mem_range.mp hj
  match j, hj with
  | 0, _ => exact (ax_in1_1 (i := 117) rfl rfl)
  | 1, _ => exact (ax_in1_1 (i := 119) rfl rfl)
  | j + 2, h => exact absurd h (by omega)
theorem clX7 : ax_cl 7 RX7 TX7 2 tyX7 := ⟨by decide, rfl, wiX7, tyX7_ok, nmX7, by decide⟩
theorem wiX8 : ∀ w ∈ u_ws RX8 TX8 2, w ∈ ax_tb := by
  intro w hw
  obtain ⟨j, hj, rfl⟩ := List.mem_map.mp hw
  have hj : j < 2 := List.mem_range.mp hj
  match j, hj with
  | 0, _ => exact (ax_in1_1 (i := 184) rfl rfl)
  | 1, _ => exact (ax_in1_1 (i := 186) rfl rfl)
  | j + 2, h => exact absurd h (by omega)
theorem clX8 : ax_cl 8 RX8 TX8 2 tyX8 := ⟨by decide, rfl, wiX8, tyX8_ok, nmX8, by decide⟩
theorem wiX9 : ∀ w ∈ u_ws RX9 TX9 1, w ∈ ax_tb := by
  intro w hw
  obtain ⟨j, hj, rfl⟩ := List.mem_map.mp hw
  have hj : j < 1 := List.mem_range.mp hj
  match j, hj with
  | 0, _ => exact (ax_in1_1 (i := 36) rfl rfl)
  | j + 1, h => exact absurd h (by omega)
theorem clX9 : ax_cl 9 RX9 TX9 1 tyX9 := ⟨by decide, rfl, wiX9, tyX9_ok, nmX9, by decide⟩
theorem wiX10 : ∀ w ∈ u_ws RX10 TX10 14, w ∈ ax_tb := by
  intro w hw
  obtain ⟨j, hj, rfl⟩ := List.mem_map.mp hw
  have hj : j < 14 := List.mem_range.mp hj
  match j, hj with
  | 0, _ => exact (ax_in1_2 (i := 9) rfl rfl)
  | 1, _ => exact (ax_in1_2 (i := 11) rfl rfl)
  | 2, _ => exact (ax_in1_2 (i := 13) rfl rfl)
  | 3, _ => exact (ax_in1_2 (i := 15) rfl rfl)
  | 4, _ => exact (ax_in1_2 (i := 17) rfl rfl)
  | 5, _ => exact (ax_in1_2 (i := 19) rfl rfl)
  | 6, _ => exact (ax_in1_2 (i := 21) rfl rfl)
  | 7, _ => exact (ax_in1_2 (i := 23) rfl rfl)
  | 8, _ => exact (ax_in1_2 (i := 25) rfl rfl)
  | 9, _ => exact (ax_in1_2 (i := 27) rfl rfl)
  | 10, _ => exact (ax_in1_2 (i := 29) rfl rfl)
  | 11, _ => exact (ax_in1_2 (i := 31) rfl rfl)
  | 12, _ => exact (ax_in1_2 (i := 33) rfl rfl)
  | 13, _ => exact (ax_in1_2 (i := 35) rfl rfl)
  | j + 14, h => exact absurd h (by omega)
theorem clX10 : ax_cl 10 RX10 TX10 14 tyX10 := ⟨by decide, rfl, wiX10, tyX10_ok, nmX10, by decide⟩
theorem wiX11 : ∀ w ∈ u_ws RX11 TX11 30, w ∈ ax_tb := by
  intro w hw
  obtain ⟨j, hj, rfl⟩ := List.mem_map.mp hw
  have hj : j < 30 := List.mem_range.mp hj
  match j, hj with
  | 0, _ => exact (ax_in1_4 (i := 137) rfl rfl)
  | 1, _ => exact (ax_in1_4 (i := 139) rfl rfl)
  | 2, _ => exact (ax_in1_4 (i := 141) rfl rfl)
  | 3, _ => exact (ax_in1_4 (i := 143) rfl rfl)
  | 4, _ => exact (ax_in1_4 (i := 145) rfl rfl)
  | 5, _ => exact (ax_in1_4 (i := 147) rfl rfl)
  | 6, _ => exact (ax_in1_4 (i := 149) rfl rfl)
  | 7, _ => exact (ax_in1_4 (i := 151) rfl rfl)
  | 8, _ => exact (ax_in1_4 (i := 153) rfl rfl)
  | 9, _ => exact (ax_in1_4 (i := 155) rfl rfl)
  | 10, _ => exact (ax_in1_4 (i := 157) rfl rfl)
  | 11, _ => exact (ax_in1_4 (i := 159) rfl rfl)
  | 12, _ => exact (ax_in1_4 (i := 161) rfl rfl)
  | 13, _ => exact (ax_in1_4 (i := 163) rfl rfl)
  | 14, _ => exact (ax_in1_4 (i := 165) rfl rfl)
  | 15, _ => exact (ax_in1_4 (i := 167) rfl rfl)
  | 16, _ => exact (ax_in1_4 (i := 169) rfl rfl)
  | 17, _ => exact (ax_in1_4 (i := 171) rfl rfl)
  | 18, _ => exact (ax_in1_4 (i := 173) rfl rfl)
  | 19, _ => exact (ax_in1_4 (i := 175) rfl rfl)
  | 20, _ => exact (ax_in1_4 (i := 177) rfl rfl)
  | 21, _ => exact (ax_in1_4 (i := 179) rfl rfl)
  | 22, _ => exact (ax_in1_4 (i := 181) rfl rfl)
  | 23, _ => exact (ax_in1_4 (i := 183) rfl rfl)
  | 24, _ => exact (ax_in1_4 (i := 185) rfl rfl)
  | 25, _ => exact (ax_in1_4 (i := 187) rfl rfl)
  | 26, _ => exact (ax_in1_4 (i := 189) rfl rfl)
  | 27, _ => exact (ax_in1_4 (i := 191) rfl rfl)
  | 28, _ => exact (ax_in1_4 (i := 193) rfl rfl)
  | 29, _ => exact (ax_in1_4 (i := 195) rfl rfl)
  | j + 30, h => exact absurd h (by omega)
theorem clX11 : ax_cl 11 RX11 TX11 30 tyX11 := ⟨by decide, rfl, wiX11, tyX11_ok, nmX11, by decide⟩
def kX10_init : ax_K := (yX10_init, cX10_init, 1, none)
def kX10_set : ax_K := (yX10_set, cX10_set, 6, some .int)
def kX10_of : ax_K := (yX10_of, cX10_of, 4, some .int)
def kX10_feed : ax_K := (yX10_feed, cX10_feed, 2, some .int)
def kX10_table : ax_K := (yX10_table, cX10_table, 3, some .int)
def kX10_value : ax_K := (yX10_value, cX10_value, 4, some .int)
def kX10_kept : ax_K := (yX10_kept, cX10_kept, 3, some .int)
def kX10_swap : ax_K := (yX10_swap, cX10_swap, 4, some .int)
def kX10_row : ax_K := (yX10_row, cX10_row, 4, some .int)
def kX10_pinched : ax_K := (yX10_pinched, cX10_pinched, 2, some .long)
def kX10_behind : ax_K := (yX10_behind, cX10_behind, 5, some .int)
def kX10_period : ax_K := (yX10_period, cX10_period, 3, some .int)
def kX10_fibre : ax_K := (yX10_fibre, cX10_fibre, 3, some .int)
def kX10_base : ax_K := (yX10_base, cX10_base, 2, some .int)
def kX10_rank : ax_K := (yX10_rank, cX10_rank, 2, some .int)
def kX10_cycles : ax_K := (yX10_cycles, cX10_cycles, 4, some .int)
def kX10_degree : ax_K := (yX10_degree, cX10_degree, 4, some .int)
def kX10_tell : ax_K := (yX10_tell, cX10_tell, 3, some .int)
def kX10_forget : ax_K := (yX10_forget, cX10_forget, 3, some .int)
def kX10_told : ax_K := (yX10_told, cX10_told, 2, some .int)
def kX10_moved : ax_K := (yX10_moved, cX10_moved, 2, some .int)
def kX10_move : ax_K := (yX10_move, cX10_move, 1, some .int)
def kX10_grows : ax_K := (yX10_grows, cX10_grows, 2, some .int)
def kX10_were : ax_K := (yX10_were, cX10_were, 7, some .long)
def kX10_odds : ax_K := (yX10_odds, cX10_odds, 9, some .long)
def kX10_plan : ax_K := (yX10_plan, cX10_plan, 3, some .int)
def kX10_ends : ax_K := (yX10_ends, cX10_ends, 3, some .int)
def kX10_write : ax_K := (yX10_write, cX10_write, 2, some .int)
def kX10_paper : ax_K := (yX10_paper, cX10_paper, 2, some .int)
def kX10_judge : ax_K := (yX10_judge, cX10_judge, 9, some .int)
def kX10_list : ax_K := (yX10_list, cX10_list, 3, some .int)
def kX10_put : ax_K := (yX10_put, cX10_put, 4, some .int)
def kX10_get : ax_K := (yX10_get, cX10_get, 3, some .long)
def kX10_image : ax_K := (yX10_image, cX10_image, 1, some .int)
def kX10_undo : ax_K := (yX10_undo, cX10_undo, 1, some .int)
def kX10_count : ax_K := (yX10_count, cX10_count, 2, some .int)
def kX10_isNumber : ax_K := (yX10_isNumber, cX10_isNumber, 1, some .boolean)
def kX10_isCoordinate : ax_K := (yX10_isCoordinate, cX10_isCoordinate, 1, some .boolean)
def kX10_isSpot : ax_K := (yX10_isSpot, cX10_isSpot, 2, some .boolean)
def kX10_isAxis : ax_K := (yX10_isAxis, cX10_isAxis, 1, some .boolean)
def kX10_isTable : ax_K := (yX10_isTable, cX10_isTable, 1, some .boolean)
def kX10_isPower : ax_K := (yX10_isPower, cX10_isPower, 3, some .boolean)
def kX10_modulo : ax_K := (yX10_modulo, cX10_modulo, 1, some .int)
def kX10_quotient : ax_K := (yX10_quotient, cX10_quotient, 4, some .int)
def kX10_quadraticAt : ax_K := (yX10_quadraticAt, cX10_quadraticAt, 4, some .int)
def kX10_powerAt : ax_K := (yX10_powerAt, cX10_powerAt, 2, some .int)
def kX10_drawn : ax_K := (yX10_drawn, cX10_drawn, 1, some .int)
def kX10_commonDivisor : ax_K := (yX10_commonDivisor, cX10_commonDivisor, 6, some .int)
def kX11_init : ax_K := (yX11_init, cX11_init, 1, none)
def kX11_in : ax_K := (yX11_in, cX11_in, 6, some .boolean)
def kX11_mod : ax_K := (yX11_mod, cX11_mod, 2, some .int)
def kX11_inverse : ax_K := (yX11_inverse, cX11_inverse, 3, some .int)
def kX11_by : ax_K := (yX11_by, cX11_by, 2, some .int)
def kX11_isCoordinate : ax_K := (yX11_isCoordinate, cX11_isCoordinate, 1, some .boolean)
def kX11_isSpot : ax_K := (yX11_isSpot, cX11_isSpot, 2, some .boolean)
def kX11_placeOf : ax_K := (yX11_placeOf, cX11_placeOf, 3, some .int)
def kX11_isPlace : ax_K := (yX11_isPlace, cX11_isPlace, 3, some .boolean)
def kX11_set : ax_K := (yX11_set, cX11_set, 7, some .int)
def kX11_of : ax_K := (yX11_of, cX11_of, 4, some .int)
def kX11_power : ax_K := (yX11_power, cX11_power, 2, some .int)
def kX11_valueAt : ax_K := (yX11_valueAt, cX11_valueAt, 7, some .int)
def kX11_value : ax_K := (yX11_value, cX11_value, 4, some .int)
def kX11_keptAt : ax_K := (yX11_keptAt, cX11_keptAt, 3, some .int)
def kX11_kept : ax_K := (yX11_kept, cX11_kept, 3, some .int)
def kX11_rowAt : ax_K := (yX11_rowAt, cX11_rowAt, 7, some .int)
def kX11_crossed : ax_K := (yX11_crossed, cX11_crossed, 6, some .int)
def kX11_row : ax_K := (yX11_row, cX11_row, 4, some .int)
def kX11_other : ax_K := (yX11_other, cX11_other, 8, some .int)
def kX11_swap : ax_K := (yX11_swap, cX11_swap, 4, some .int)
def kX11_pinched : ax_K := (yX11_pinched, cX11_pinched, 6, some .long)
def kX11_swapped : ax_K := (yX11_swapped, cX11_swapped, 6, some .int)
def kX11_step : ax_K := (yX11_step, cX11_step, 4, some .int)
def kX11_behind : ax_K := (yX11_behind, cX11_behind, 6, some .int)
def kX11_period : ax_K := (yX11_period, cX11_period, 5, some .int)
def kX11_findsKept : ax_K := (yX11_findsKept, cX11_findsKept, 2, none)
def kX11_nth : ax_K := (yX11_nth, cX11_nth, 5, some .int)
def kX11_fibre : ax_K := (yX11_fibre, cX11_fibre, 3, some .int)
def kX11_base : ax_K := (yX11_base, cX11_base, 2, some .int)
def kX11_rank : ax_K := (yX11_rank, cX11_rank, 5, some .int)
def kX11_lengthOf : ax_K := (yX11_lengthOf, cX11_lengthOf, 4, some .int)
def kX11_findsCycles : ax_K := (yX11_findsCycles, cX11_findsCycles, 6, none)
def kX11_cycles : ax_K := (yX11_cycles, cX11_cycles, 9, some .int)
def kX11_becomes : ax_K := (yX11_becomes, cX11_becomes, 3, none)
def kX11_constant : ax_K := (yX11_constant, cX11_constant, 2, none)
def kX11_trims : ax_K := (yX11_trims, cX11_trims, 2, none)
def kX11_sums : ax_K := (yX11_sums, cX11_sums, 7, none)
def kX11_times : ax_K := (yX11_times, cX11_times, 6, none)
def kX11_divides : ax_K := (yX11_divides, cX11_divides, 8, none)
def kX11_lowers : ax_K := (yX11_lowers, cX11_lowers, 3, none)
def kX11_rowsAt : ax_K := (yX11_rowsAt, cX11_rowsAt, 9, none)
def kX11_crosses : ax_K := (yX11_crosses, cX11_crosses, 4, none)
def kX11_isSwapped : ax_K := (yX11_isSwapped, cX11_isSwapped, 6, some .boolean)
def kX11_degree : ax_K := (yX11_degree, cX11_degree, 6, some .int)
def kX11_placeIn : ax_K := (yX11_placeIn, cX11_placeIn, 3, some .int)
def kX11_isTold : ax_K := (yX11_isTold, cX11_isTold, 3, some .boolean)
def kX11_tell : ax_K := (yX11_tell, cX11_tell, 6, some .int)
def kX11_forget : ax_K := (yX11_forget, cX11_forget, 5, some .int)
def kX11_told : ax_K := (yX11_told, cX11_told, 2, some .int)
def kX11_moves : ax_K := (yX11_moves, cX11_moves, 3, none)
def kX11_moved : ax_K := (yX11_moved, cX11_moved, 4, some .int)
def kX11_move : ax_K := (yX11_move, cX11_move, 2, some .int)
def kX11_grows : ax_K := (yX11_grows, cX11_grows, 8, some .int)
def kX11_were : ax_K := (yX11_were, cX11_were, 12, some .long)
def kX11_common : ax_K := (yX11_common, cX11_common, 2, some .int)
def kX11_odds : ax_K := (yX11_odds, cX11_odds, 9, some .long)
def kX11_plan : ax_K := (yX11_plan, cX11_plan, 4, some .int)
def kX11_ends : ax_K := (yX11_ends, cX11_ends, 9, some .int)
def kX11_feed : ax_K := (yX11_feed, cX11_feed, 2, some .int)
def kX11_here : ax_K := (yX11_here, cX11_here, 1, some .int)
def kX11_often : ax_K := (yX11_often, cX11_often, 3, some .int)
def kX11_isTerm : ax_K := (yX11_isTerm, cX11_isTerm, 4, some .boolean)
def kX11_table : ax_K := (yX11_table, cX11_table, 5, some .int)
def kX11_writes : ax_K := (yX11_writes, cX11_writes, 4, none)
def kX11_write : ax_K := (yX11_write, cX11_write, 4, some .int)
def kX11_paper : ax_K := (yX11_paper, cX11_paper, 2, some .int)
def kX11_isList : ax_K := (yX11_isList, cX11_isList, 1, some .boolean)
def kX11_judge : ax_K := (yX11_judge, cX11_judge, 7, some .int)
def kX11_list : ax_K := (yX11_list, cX11_list, 4, some .int)
def kX11_put : ax_K := (yX11_put, cX11_put, 4, some .int)
def kX11_get : ax_K := (yX11_get, cX11_get, 3, some .long)
def kX11_image : ax_K := (yX11_image, cX11_image, 2, some .int)
def kX11_undo : ax_K := (yX11_undo, cX11_undo, 2, some .int)
def kX11_count : ax_K := (yX11_count, cX11_count, 4, some .int)
def kX0_init : ax_K := (yX0_init, cX0_init, 1, none)
def kX0_append : ax_K := (yX0_append, cX0_append, 2, none)
def kX0_byteAt : ax_K := (yX0_byteAt, cX0_byteAt, 2, some .int)
def kX0_alikeFrom : ax_K := (yX0_alikeFrom, cX0_alikeFrom, 3, some .int)
def kX0_readTerms : ax_K := (yX0_readTerms, cX0_readTerms, 8, some .int)
def kX0_addTo : ax_K := (yX0_addTo, cX0_addTo, 3, none)
def kX0_writeTerms : ax_K := (yX0_writeTerms, cX0_writeTerms, 6, none)
def kX0_writeTerm : ax_K := (yX0_writeTerm, cX0_writeTerm, 5, none)
def kX1_init : ax_K := (yX1_init, cX1_init, 1, none)
def kX1_change : ax_K := (yX1_change, cX1_change, 5, none)
def kX1_changeAll : ax_K := (yX1_changeAll, cX1_changeAll, 4, none)
def kX1_changeBack : ax_K := (yX1_changeBack, cX1_changeBack, 2, none)
def kX1_learnRows : ax_K := (yX1_learnRows, cX1_learnRows, 10, none)
def kX1_knownRow : ax_K := (yX1_knownRow, cX1_knownRow, 5, some .int)
def kX1_rowOf : ax_K := (yX1_rowOf, cX1_rowOf, 4, some .int)
def kX1_pinchedLines : ax_K := (yX1_pinchedLines, cX1_pinchedLines, 6, some .long)
def kX1_swapOf : ax_K := (yX1_swapOf, cX1_swapOf, 4, some .int)
def kX1_knownSwap : ax_K := (yX1_knownSwap, cX1_knownSwap, 8, some .int)
def kX1_stepFrom : ax_K := (yX1_stepFrom, cX1_stepFrom, 4, some .int)
def kX1_stepBackFrom : ax_K := (yX1_stepBackFrom, cX1_stepBackFrom, 4, some .int)
def kX1_walk : ax_K := (yX1_walk, cX1_walk, 5, some .int)
def kX1_walkBack : ax_K := (yX1_walkBack, cX1_walkBack, 5, some .int)
def kX1_periodOf : ax_K := (yX1_periodOf, cX1_periodOf, 4, some .int)
def kX1_learnKept : ax_K := (yX1_learnKept, cX1_learnKept, 10, none)
def kX1_keeps : ax_K := (yX1_keeps, cX1_keeps, 3, some .boolean)
def kX1_spotWhereKept : ax_K := (yX1_spotWhereKept, cX1_spotWhereKept, 5, some .int)
def kX1_ranked : ax_K := (yX1_ranked, cX1_ranked, 7, some .int)
def kX1_reachOf : ax_K := (yX1_reachOf, cX1_reachOf, 7, some .int)
def kX1_reach : ax_K := (yX1_reach, cX1_reach, 3, some .int)
def kX2_init : ax_K := (yX2_init, cX2_init, 1, none)
def kX2_behindSteps : ax_K := (yX2_behindSteps, cX2_behindSteps, 6, some .int)
def kX2_swaps : ax_K := (yX2_swaps, cX2_swaps, 6, some .boolean)
def kX2_readSquares : ax_K := (yX2_readSquares, cX2_readSquares, 3, none)
def kX2_readRow : ax_K := (yX2_readRow, cX2_readRow, 7, none)
def kX2_readCross : ax_K := (yX2_readCross, cX2_readCross, 4, none)
def kX2_commonFactor : ax_K := (yX2_commonFactor, cX2_commonFactor, 5, some (.object "KeptCurves$Poly"))
def kX3_init : ax_K := (yX3_init, cX3_init, 1, none)
def kX3_ofDegree : ax_K := (yX3_ofDegree, cX3_ofDegree, 1, some .int)
def kX4_init : ax_K := (yX4_init, cX4_init, 1, none)
def kX4_isList : ax_K := (yX4_isList, cX4_isList, 2, some .boolean)
def kX4_sizeOf : ax_K := (yX4_sizeOf, cX4_sizeOf, 2, some .int)
def kX4_hasPlace : ax_K := (yX4_hasPlace, cX4_hasPlace, 3, some .boolean)
def kX4_numberAt : ax_K := (yX4_numberAt, cX4_numberAt, 3, some .int)
def kX4_change : ax_K := (yX4_change, cX4_change, 4, none)
def kX4_renew : ax_K := (yX4_renew, cX4_renew, 4, none)
def kX5_init : ax_K := (yX5_init, cX5_init, 1, none)
def kX5_learn : ax_K := (yX5_learn, cX5_learn, 5, none)
def kX5_isUnmarked : ax_K := (yX5_isUnmarked, cX5_isUnmarked, 2, some .boolean)
def kX5_goRound : ax_K := (yX5_goRound, cX5_goRound, 5, none)
def kX5_countThrough : ax_K := (yX5_countThrough, cX5_countThrough, 5, none)
def kX5_tallyOne : ax_K := (yX5_tallyOne, cX5_tallyOne, 2, none)
def kX5_total : ax_K := (yX5_total, cX5_total, 4, some .int)
def kX5_ofLength : ax_K := (yX5_ofLength, cX5_ofLength, 6, some .int)
def kX6_init : ax_K := (yX6_init, cX6_init, 1, none)
def kX6_isFull : ax_K := (yX6_isFull, cX6_isFull, 1, some .boolean)
def kX6_takes : ax_K := (yX6_takes, cX6_takes, 3, some .boolean)
def kX6_add : ax_K := (yX6_add, cX6_add, 3, none)
def kX6_copyFrom : ax_K := (yX6_copyFrom, cX6_copyFrom, 2, none)
def kX6_endOf : ax_K := (yX6_endOf, cX6_endOf, 5, some .int)
def kX6_swappedIfItGoes : ax_K := (yX6_swappedIfItGoes, cX6_swappedIfItGoes, 7, some .int)
def kX6_steppedAsFarAsItGoes : ax_K := (yX6_steppedAsFarAsItGoes, cX6_steppedAsFarAsItGoes, 8, some .int)
def kX7_init : ax_K := (yX7_init, cX7_init, 1, none)
def kX7_isZero : ax_K := (yX7_isZero, cX7_isZero, 1, some .boolean)
def kX7_clear : ax_K := (yX7_clear, cX7_clear, 2, none)
def kX7_becomeNumber : ax_K := (yX7_becomeNumber, cX7_becomeNumber, 2, none)
def kX7_becomeUnknown : ax_K := (yX7_becomeUnknown, cX7_becomeUnknown, 1, none)
def kX7_copyFrom : ax_K := (yX7_copyFrom, cX7_copyFrom, 2, none)
def kX7_trim : ax_K := (yX7_trim, cX7_trim, 2, none)
def kX7_addTimes : ax_K := (yX7_addTimes, cX7_addTimes, 4, none)
def kX7_addProduct : ax_K := (yX7_addProduct, cX7_addProduct, 7, none)
def kX7_divide : ax_K := (yX7_divide, cX7_divide, 7, none)
def kX8_init : ax_K := (yX8_init, cX8_init, 1, none)
def kX8_isFull : ax_K := (yX8_isFull, cX8_isFull, 1, some .boolean)
def kX8_holds : ax_K := (yX8_holds, cX8_holds, 3, some .boolean)
def kX8_spotAt : ax_K := (yX8_spotAt, cX8_spotAt, 2, some .int)
def kX8_add : ax_K := (yX8_add, cX8_add, 3, none)
def kX8_remove : ax_K := (yX8_remove, cX8_remove, 4, none)
def kX8_copyFrom : ax_K := (yX8_copyFrom, cX8_copyFrom, 2, none)
def kX8_becomeSteps : ax_K := (yX8_becomeSteps, cX8_becomeSteps, 5, none)
def kX9_init : ax_K := (yX9_init, cX9_init, 1, none)
def kX9_numberAt : ax_K := (yX9_numberAt, cX9_numberAt, 5, some .int)
def kX9_change : ax_K := (yX9_change, cX9_change, 6, none)
def kX9_copyFrom : ax_K := (yX9_copyFrom, cX9_copyFrom, 2, none)
def kX9_notZero : ax_K := (yX9_notZero, cX9_notZero, 6, some .int)
def kX9_numberAlong : ax_K := (yX9_numberAlong, cX9_numberAlong, 6, some .int)
def kX9_sumAt : ax_K := (yX9_sumAt, cX9_sumAt, 8, some .int)
def kX9_valueAt : ax_K := (yX9_valueAt, cX9_valueAt, 4, some .int)
def kX9_quotientAt : ax_K := (yX9_quotientAt, cX9_quotientAt, 3, some .int)
def kX9_numbersKeeping : ax_K := (yX9_numbersKeeping, cX9_numbersKeeping, 16, some .long)
def kL_law : ax_K := (yL_law, cL_law, 4, some .boolean)
def kJ9_floorMod_7cf53 : ax_K := (yJ9_floorMod_7cf53, cJ9_floorMod_7cf53, 3, some .int)
def kJ9_max_7cf53 : ax_K := (yJ9_max_7cf53, cJ9_max_7cf53, 2, some .int)
def kJ9_min_7cf53 : ax_K := (yJ9_min_7cf53, cJ9_min_7cf53, 2, some .int)
theorem jX10_init : ax_J kX10_init 0 := ⟨(ax_in1_1 (i := 19) rfl rfl), (ax_in1_1 (i := 1) rfl rfl), ⟨by decide +kernel, by decide +kernel, by decide +kernel⟩, by decide +kernel, by decide⟩
theorem jIX10_init : Cond.instanceMethod kX10_init.1 ∈ ax_tb := (ax_in1_1 (i := 18) rfl rfl)
theorem jX10_set : ax_J kX10_set 4 := ⟨(ax_in1_2 (i := 41) rfl rfl), (ax_in1_1 (i := 1) rfl rfl), ⟨by decide +kernel, by decide +kernel, by decide +kernel⟩, by decide +kernel, by decide⟩
theorem jIX10_set : Cond.instanceMethod kX10_set.1 ∈ ax_tb := (ax_in1_2 (i := 39) rfl rfl)
theorem jVX10_set : Cond.selects kX10_set.1.cls kX10_set.1 kX10_set.1 ∈ ax_tb := (ax_in1_2 (i := 40) rfl rfl)
theorem jX10_of : ax_J kX10_of 3 := ⟨(ax_in1_2 (i := 66) rfl rfl), (ax_in1_1 (i := 1) rfl rfl), ⟨by decide +kernel, by decide +kernel, by decide +kernel⟩, by decide +kernel, by decide⟩
theorem jIX10_of : Cond.instanceMethod kX10_of.1 ∈ ax_tb := (ax_in1_2 (i := 64) rfl rfl)
theorem jVX10_of : Cond.selects kX10_of.1.cls kX10_of.1 kX10_of.1 ∈ ax_tb := (ax_in1_2 (i := 65) rfl rfl)
theorem jX10_feed : ax_J kX10_feed 1 := ⟨(ax_in1_2 (i := 70) rfl rfl), (ax_in1_1 (i := 1) rfl rfl), ⟨by decide +kernel, by decide +kernel, by decide +kernel⟩, by decide +kernel, by decide⟩
theorem jIX10_feed : Cond.instanceMethod kX10_feed.1 ∈ ax_tb := (ax_in1_2 (i := 68) rfl rfl)
theorem jVX10_feed : Cond.selects kX10_feed.1.cls kX10_feed.1 kX10_feed.1 ∈ ax_tb := (ax_in1_2 (i := 69) rfl rfl)
theorem jX10_table : ax_J kX10_table 1 := ⟨(ax_in1_2 (i := 78) rfl rfl), (ax_in1_1 (i := 1) rfl rfl), ⟨by decide +kernel, by decide +kernel, by decide +kernel⟩, by decide +kernel, by decide⟩
theorem jIX10_table : Cond.instanceMethod kX10_table.1 ∈ ax_tb := (ax_in1_2 (i := 76) rfl rfl)
theorem jVX10_table : Cond.selects kX10_table.1.cls kX10_table.1 kX10_table.1 ∈ ax_tb := (ax_in1_2 (i := 77) rfl rfl)
theorem jX10_value : ax_J kX10_value 3 := ⟨(ax_in1_2 (i := 107) rfl rfl), (ax_in1_1 (i := 1) rfl rfl), ⟨by decide +kernel, by decide +kernel, by decide +kernel⟩, by decide +kernel, by decide⟩
theorem jIX10_value : Cond.instanceMethod kX10_value.1 ∈ ax_tb := (ax_in1_2 (i := 105) rfl rfl)
theorem jVX10_value : Cond.selects kX10_value.1.cls kX10_value.1 kX10_value.1 ∈ ax_tb := (ax_in1_2 (i := 106) rfl rfl)
theorem jX10_kept : ax_J kX10_kept 2 := ⟨(ax_in1_2 (i := 132) rfl rfl), (ax_in1_1 (i := 1) rfl rfl), ⟨by decide +kernel, by decide +kernel, by decide +kernel⟩, by decide +kernel, by decide⟩
theorem jIX10_kept : Cond.instanceMethod kX10_kept.1 ∈ ax_tb := (ax_in1_2 (i := 130) rfl rfl)
theorem jVX10_kept : Cond.selects kX10_kept.1.cls kX10_kept.1 kX10_kept.1 ∈ ax_tb := (ax_in1_2 (i := 131) rfl rfl)
theorem jX10_swap : ax_J kX10_swap 3 := ⟨(ax_in1_2 (i := 146) rfl rfl), (ax_in1_1 (i := 1) rfl rfl), ⟨by decide +kernel, by decide +kernel, by decide +kernel⟩, by decide +kernel, by decide⟩
theorem jIX10_swap : Cond.instanceMethod kX10_swap.1 ∈ ax_tb := (ax_in1_2 (i := 144) rfl rfl)
theorem jVX10_swap : Cond.selects kX10_swap.1.cls kX10_swap.1 kX10_swap.1 ∈ ax_tb := (ax_in1_2 (i := 145) rfl rfl)
theorem jX10_row : ax_J kX10_row 3 := ⟨(ax_in1_2 (i := 172) rfl rfl), (ax_in1_1 (i := 1) rfl rfl), ⟨by decide +kernel, by decide +kernel, by decide +kernel⟩, by decide +kernel, by decide⟩
theorem jIX10_row : Cond.instanceMethod kX10_row.1 ∈ ax_tb := (ax_in1_2 (i := 170) rfl rfl)
theorem jVX10_row : Cond.selects kX10_row.1.cls kX10_row.1 kX10_row.1 ∈ ax_tb := (ax_in1_2 (i := 171) rfl rfl)
theorem jX10_pinched : ax_J kX10_pinched 1 := ⟨(ax_in1_2 (i := 180) rfl rfl), (ax_in1_1 (i := 1) rfl rfl), ⟨by decide +kernel, by decide +kernel, by decide +kernel⟩, by decide +kernel, by decide⟩
theorem jIX10_pinched : Cond.instanceMethod kX10_pinched.1 ∈ ax_tb := (ax_in1_2 (i := 178) rfl rfl)
theorem jVX10_pinched : Cond.selects kX10_pinched.1.cls kX10_pinched.1 kX10_pinched.1 ∈ ax_tb := (ax_in1_2 (i := 179) rfl rfl)
theorem jX10_behind : ax_J kX10_behind 3 := ⟨(ax_in1_2 (i := 189) rfl rfl), (ax_in1_1 (i := 1) rfl rfl), ⟨by decide +kernel, by decide +kernel, by decide +kernel⟩, by decide +kernel, by decide⟩
theorem jIX10_behind : Cond.instanceMethod kX10_behind.1 ∈ ax_tb := (ax_in1_2 (i := 187) rfl rfl)
theorem jVX10_behind : Cond.selects kX10_behind.1.cls kX10_behind.1 kX10_behind.1 ∈ ax_tb := (ax_in1_2 (i := 188) rfl rfl)
theorem jX10_period : ax_J kX10_period 2 := ⟨(ax_in1_2 (i := 209) rfl rfl), (ax_in1_1 (i := 1) rfl rfl), ⟨by decide +kernel, by decide +kernel, by decide +kernel⟩, by decide +kernel, by decide⟩
theorem jIX10_period : Cond.instanceMethod kX10_period.1 ∈ ax_tb := (ax_in1_2 (i := 207) rfl rfl)
theorem jVX10_period : Cond.selects kX10_period.1.cls kX10_period.1 kX10_period.1 ∈ ax_tb := (ax_in1_2 (i := 208) rfl rfl)
theorem jX10_fibre : ax_J kX10_fibre 2 := ⟨(ax_in1_2 (i := 217) rfl rfl), (ax_in1_1 (i := 1) rfl rfl), ⟨by decide +kernel, by decide +kernel, by decide +kernel⟩, by decide +kernel, by decide⟩
theorem jIX10_fibre : Cond.instanceMethod kX10_fibre.1 ∈ ax_tb := (ax_in1_2 (i := 215) rfl rfl)
theorem jVX10_fibre : Cond.selects kX10_fibre.1.cls kX10_fibre.1 kX10_fibre.1 ∈ ax_tb := (ax_in1_2 (i := 216) rfl rfl)
theorem jX10_base : ax_J kX10_base 1 := ⟨(ax_in1_2 (i := 230) rfl rfl), (ax_in1_1 (i := 1) rfl rfl), ⟨by decide +kernel, by decide +kernel, by decide +kernel⟩, by decide +kernel, by decide⟩
theorem jIX10_base : Cond.instanceMethod kX10_base.1 ∈ ax_tb := (ax_in1_2 (i := 228) rfl rfl)
theorem jVX10_base : Cond.selects kX10_base.1.cls kX10_base.1 kX10_base.1 ∈ ax_tb := (ax_in1_2 (i := 229) rfl rfl)
theorem jX10_rank : ax_J kX10_rank 1 := ⟨(ax_in1_2 (i := 234) rfl rfl), (ax_in1_1 (i := 1) rfl rfl), ⟨by decide +kernel, by decide +kernel, by decide +kernel⟩, by decide +kernel, by decide⟩
theorem jIX10_rank : Cond.instanceMethod kX10_rank.1 ∈ ax_tb := (ax_in1_2 (i := 232) rfl rfl)
theorem jVX10_rank : Cond.selects kX10_rank.1.cls kX10_rank.1 kX10_rank.1 ∈ ax_tb := (ax_in1_2 (i := 233) rfl rfl)
theorem jX10_cycles : ax_J kX10_cycles 2 := ⟨(ax_in1_3 (i := 2) rfl rfl), (ax_in1_1 (i := 1) rfl rfl), ⟨by decide +kernel, by decide +kernel, by decide +kernel⟩, by decide +kernel, by decide⟩
theorem jIX10_cycles : Cond.instanceMethod kX10_cycles.1 ∈ ax_tb := (ax_in1_3 (i := 0) rfl rfl)
theorem jVX10_cycles : Cond.selects kX10_cycles.1.cls kX10_cycles.1 kX10_cycles.1 ∈ ax_tb := (ax_in1_3 (i := 1) rfl rfl)
theorem jX10_degree : ax_J kX10_degree 3 := ⟨(ax_in1_3 (i := 39) rfl rfl), (ax_in1_1 (i := 1) rfl rfl), ⟨by decide +kernel, by decide +kernel, by decide +kernel⟩, by decide +kernel, by decide⟩
theorem jIX10_degree : Cond.instanceMethod kX10_degree.1 ∈ ax_tb := (ax_in1_3 (i := 37) rfl rfl)
theorem jVX10_degree : Cond.selects kX10_degree.1.cls kX10_degree.1 kX10_degree.1 ∈ ax_tb := (ax_in1_3 (i := 38) rfl rfl)
theorem jX10_tell : ax_J kX10_tell 2 := ⟨(ax_in1_3 (i := 122) rfl rfl), (ax_in1_1 (i := 1) rfl rfl), ⟨by decide +kernel, by decide +kernel, by decide +kernel⟩, by decide +kernel, by decide⟩
theorem jIX10_tell : Cond.instanceMethod kX10_tell.1 ∈ ax_tb := (ax_in1_3 (i := 120) rfl rfl)
theorem jVX10_tell : Cond.selects kX10_tell.1.cls kX10_tell.1 kX10_tell.1 ∈ ax_tb := (ax_in1_3 (i := 121) rfl rfl)
theorem jX10_forget : ax_J kX10_forget 2 := ⟨(ax_in1_3 (i := 140) rfl rfl), (ax_in1_1 (i := 1) rfl rfl), ⟨by decide +kernel, by decide +kernel, by decide +kernel⟩, by decide +kernel, by decide⟩
theorem jIX10_forget : Cond.instanceMethod kX10_forget.1 ∈ ax_tb := (ax_in1_3 (i := 138) rfl rfl)
theorem jVX10_forget : Cond.selects kX10_forget.1.cls kX10_forget.1 kX10_forget.1 ∈ ax_tb := (ax_in1_3 (i := 139) rfl rfl)
theorem jX10_told : ax_J kX10_told 1 := ⟨(ax_in1_3 (i := 148) rfl rfl), (ax_in1_1 (i := 1) rfl rfl), ⟨by decide +kernel, by decide +kernel, by decide +kernel⟩, by decide +kernel, by decide⟩
theorem jIX10_told : Cond.instanceMethod kX10_told.1 ∈ ax_tb := (ax_in1_3 (i := 146) rfl rfl)
theorem jVX10_told : Cond.selects kX10_told.1.cls kX10_told.1 kX10_told.1 ∈ ax_tb := (ax_in1_3 (i := 147) rfl rfl)
theorem jX10_moved : ax_J kX10_moved 1 := ⟨(ax_in1_3 (i := 156) rfl rfl), (ax_in1_1 (i := 1) rfl rfl), ⟨by decide +kernel, by decide +kernel, by decide +kernel⟩, by decide +kernel, by decide⟩
theorem jIX10_moved : Cond.instanceMethod kX10_moved.1 ∈ ax_tb := (ax_in1_3 (i := 154) rfl rfl)
theorem jVX10_moved : Cond.selects kX10_moved.1.cls kX10_moved.1 kX10_moved.1 ∈ ax_tb := (ax_in1_3 (i := 155) rfl rfl)
theorem jX10_move : ax_J kX10_move 0 := ⟨(ax_in1_3 (i := 167) rfl rfl), (ax_in1_1 (i := 1) rfl rfl), ⟨by decide +kernel, by decide +kernel, by decide +kernel⟩, by decide +kernel, by decide⟩
theorem jIX10_move : Cond.instanceMethod kX10_move.1 ∈ ax_tb := (ax_in1_3 (i := 165) rfl rfl)
theorem jVX10_move : Cond.selects kX10_move.1.cls kX10_move.1 kX10_move.1 ∈ ax_tb := (ax_in1_3 (i := 166) rfl rfl)
theorem jX10_grows : ax_J kX10_grows 1 := ⟨(ax_in1_3 (i := 176) rfl rfl), (ax_in1_1 (i := 1) rfl rfl), ⟨by decide +kernel, by decide +kernel, by decide +kernel⟩, by decide +kernel, by decide⟩
theorem jIX10_grows : Cond.instanceMethod kX10_grows.1 ∈ ax_tb := (ax_in1_3 (i := 174) rfl rfl)
theorem jVX10_grows : Cond.selects kX10_grows.1.cls kX10_grows.1 kX10_grows.1 ∈ ax_tb := (ax_in1_3 (i := 175) rfl rfl)
theorem jX10_were : ax_J kX10_were 6 := ⟨(ax_in1_3 (i := 189) rfl rfl), (ax_in1_1 (i := 1) rfl rfl), ⟨by decide +kernel, by decide +kernel, by decide +kernel⟩, by decide +kernel, by decide⟩
theorem jIX10_were : Cond.instanceMethod kX10_were.1 ∈ ax_tb := (ax_in1_3 (i := 187) rfl rfl)
theorem jVX10_were : Cond.selects kX10_were.1.cls kX10_were.1 kX10_were.1 ∈ ax_tb := (ax_in1_3 (i := 188) rfl rfl)
theorem jX10_odds : ax_J kX10_odds 4 := ⟨(ax_in1_3 (i := 202) rfl rfl), (ax_in1_1 (i := 1) rfl rfl), ⟨by decide +kernel, by decide +kernel, by decide +kernel⟩, by decide +kernel, by decide⟩
theorem jIX10_odds : Cond.instanceMethod kX10_odds.1 ∈ ax_tb := (ax_in1_3 (i := 200) rfl rfl)
theorem jVX10_odds : Cond.selects kX10_odds.1.cls kX10_odds.1 kX10_odds.1 ∈ ax_tb := (ax_in1_3 (i := 201) rfl rfl)
theorem jX10_plan : ax_J kX10_plan 2 := ⟨(ax_in1_3 (i := 213) rfl rfl), (ax_in1_1 (i := 1) rfl rfl), ⟨by decide +kernel, by decide +kernel, by decide +kernel⟩, by decide +kernel, by decide⟩
theorem jIX10_plan : Cond.instanceMethod kX10_plan.1 ∈ ax_tb := (ax_in1_3 (i := 211) rfl rfl)
theorem jVX10_plan : Cond.selects kX10_plan.1.cls kX10_plan.1 kX10_plan.1 ∈ ax_tb := (ax_in1_3 (i := 212) rfl rfl)
theorem jX10_ends : ax_J kX10_ends 2 := ⟨(ax_in1_3 (i := 229) rfl rfl), (ax_in1_1 (i := 1) rfl rfl), ⟨by decide +kernel, by decide +kernel, by decide +kernel⟩, by decide +kernel, by decide⟩
theorem jIX10_ends : Cond.instanceMethod kX10_ends.1 ∈ ax_tb := (ax_in1_3 (i := 227) rfl rfl)
theorem jVX10_ends : Cond.selects kX10_ends.1.cls kX10_ends.1 kX10_ends.1 ∈ ax_tb := (ax_in1_3 (i := 228) rfl rfl)
theorem jX10_write : ax_J kX10_write 1 := ⟨(ax_in1_4 (i := 8) rfl rfl), (ax_in1_1 (i := 1) rfl rfl), ⟨by decide +kernel, by decide +kernel, by decide +kernel⟩, by decide +kernel, by decide⟩
theorem jIX10_write : Cond.instanceMethod kX10_write.1 ∈ ax_tb := (ax_in1_4 (i := 6) rfl rfl)
theorem jVX10_write : Cond.selects kX10_write.1.cls kX10_write.1 kX10_write.1 ∈ ax_tb := (ax_in1_4 (i := 7) rfl rfl)
theorem jX10_paper : ax_J kX10_paper 1 := ⟨(ax_in1_4 (i := 22) rfl rfl), (ax_in1_1 (i := 1) rfl rfl), ⟨by decide +kernel, by decide +kernel, by decide +kernel⟩, by decide +kernel, by decide⟩
theorem jIX10_paper : Cond.instanceMethod kX10_paper.1 ∈ ax_tb := (ax_in1_4 (i := 20) rfl rfl)
theorem jVX10_paper : Cond.selects kX10_paper.1.cls kX10_paper.1 kX10_paper.1 ∈ ax_tb := (ax_in1_4 (i := 21) rfl rfl)
theorem jX10_judge : ax_J kX10_judge 3 := ⟨(ax_in1_4 (i := 27) rfl rfl), (ax_in1_1 (i := 1) rfl rfl), ⟨by decide +kernel, by decide +kernel, by decide +kernel⟩, by decide +kernel, by decide⟩
theorem jIX10_judge : Cond.instanceMethod kX10_judge.1 ∈ ax_tb := (ax_in1_4 (i := 25) rfl rfl)
theorem jVX10_judge : Cond.selects kX10_judge.1.cls kX10_judge.1 kX10_judge.1 ∈ ax_tb := (ax_in1_4 (i := 26) rfl rfl)
theorem jX10_list : ax_J kX10_list 2 := ⟨(ax_in1_4 (i := 50) rfl rfl), (ax_in1_1 (i := 1) rfl rfl), ⟨by decide +kernel, by decide +kernel, by decide +kernel⟩, by decide +kernel, by decide⟩
theorem jIX10_list : Cond.instanceMethod kX10_list.1 ∈ ax_tb := (ax_in1_4 (i := 48) rfl rfl)
theorem jVX10_list : Cond.selects kX10_list.1.cls kX10_list.1 kX10_list.1 ∈ ax_tb := (ax_in1_4 (i := 49) rfl rfl)
theorem jX10_put : ax_J kX10_put 3 := ⟨(ax_in1_4 (i := 58) rfl rfl), (ax_in1_1 (i := 1) rfl rfl), ⟨by decide +kernel, by decide +kernel, by decide +kernel⟩, by decide +kernel, by decide⟩
theorem jIX10_put : Cond.instanceMethod kX10_put.1 ∈ ax_tb := (ax_in1_4 (i := 56) rfl rfl)
theorem jVX10_put : Cond.selects kX10_put.1.cls kX10_put.1 kX10_put.1 ∈ ax_tb := (ax_in1_4 (i := 57) rfl rfl)
theorem jX10_get : ax_J kX10_get 2 := ⟨(ax_in1_4 (i := 67) rfl rfl), (ax_in1_1 (i := 1) rfl rfl), ⟨by decide +kernel, by decide +kernel, by decide +kernel⟩, by decide +kernel, by decide⟩
theorem jIX10_get : Cond.instanceMethod kX10_get.1 ∈ ax_tb := (ax_in1_4 (i := 65) rfl rfl)
theorem jVX10_get : Cond.selects kX10_get.1.cls kX10_get.1 kX10_get.1 ∈ ax_tb := (ax_in1_4 (i := 66) rfl rfl)
theorem jX10_image : ax_J kX10_image 0 := ⟨(ax_in1_4 (i := 71) rfl rfl), (ax_in1_1 (i := 1) rfl rfl), ⟨by decide +kernel, by decide +kernel, by decide +kernel⟩, by decide +kernel, by decide⟩
theorem jIX10_image : Cond.instanceMethod kX10_image.1 ∈ ax_tb := (ax_in1_4 (i := 69) rfl rfl)
theorem jVX10_image : Cond.selects kX10_image.1.cls kX10_image.1 kX10_image.1 ∈ ax_tb := (ax_in1_4 (i := 70) rfl rfl)
theorem jX10_undo : ax_J kX10_undo 0 := ⟨(ax_in1_4 (i := 85) rfl rfl), (ax_in1_1 (i := 1) rfl rfl), ⟨by decide +kernel, by decide +kernel, by decide +kernel⟩, by decide +kernel, by decide⟩
theorem jIX10_undo : Cond.instanceMethod kX10_undo.1 ∈ ax_tb := (ax_in1_4 (i := 83) rfl rfl)
theorem jVX10_undo : Cond.selects kX10_undo.1.cls kX10_undo.1 kX10_undo.1 ∈ ax_tb := (ax_in1_4 (i := 84) rfl rfl)
theorem jX10_count : ax_J kX10_count 1 := ⟨(ax_in1_4 (i := 94) rfl rfl), (ax_in1_1 (i := 1) rfl rfl), ⟨by decide +kernel, by decide +kernel, by decide +kernel⟩, by decide +kernel, by decide⟩
theorem jIX10_count : Cond.instanceMethod kX10_count.1 ∈ ax_tb := (ax_in1_4 (i := 92) rfl rfl)
theorem jVX10_count : Cond.selects kX10_count.1.cls kX10_count.1 kX10_count.1 ∈ ax_tb := (ax_in1_4 (i := 93) rfl rfl)
theorem jX10_isNumber : ax_J kX10_isNumber 1 := ⟨(ax_in1_2 (i := 50) rfl rfl), (ax_in1_1 (i := 1) rfl rfl), ⟨by decide +kernel, by decide +kernel, by decide +kernel⟩, by decide +kernel, by decide⟩
theorem jSX10_isNumber : Cond.static kX10_isNumber.1 ∈ ax_tb := (ax_in1_2 (i := 49) rfl rfl)
theorem jX10_isCoordinate : ax_J kX10_isCoordinate 1 := ⟨(ax_in1_2 (i := 113) rfl rfl), (ax_in1_1 (i := 1) rfl rfl), ⟨by decide +kernel, by decide +kernel, by decide +kernel⟩, by decide +kernel, by decide⟩
theorem jSX10_isCoordinate : Cond.static kX10_isCoordinate.1 ∈ ax_tb := (ax_in1_2 (i := 112) rfl rfl)
theorem jX10_isSpot : ax_J kX10_isSpot 2 := ⟨(ax_in1_2 (i := 110) rfl rfl), (ax_in1_1 (i := 1) rfl rfl), ⟨by decide +kernel, by decide +kernel, by decide +kernel⟩, by decide +kernel, by decide⟩
theorem jSX10_isSpot : Cond.static kX10_isSpot.1 ∈ ax_tb := (ax_in1_2 (i := 109) rfl rfl)
theorem jX10_isAxis : ax_J kX10_isAxis 1 := ⟨(ax_in1_2 (i := 149) rfl rfl), (ax_in1_1 (i := 1) rfl rfl), ⟨by decide +kernel, by decide +kernel, by decide +kernel⟩, by decide +kernel, by decide⟩
theorem jSX10_isAxis : Cond.static kX10_isAxis.1 ∈ ax_tb := (ax_in1_2 (i := 148) rfl rfl)
theorem jX10_isTable : ax_J kX10_isTable 1 := ⟨(ax_in1_2 (i := 47) rfl rfl), (ax_in1_1 (i := 1) rfl rfl), ⟨by decide +kernel, by decide +kernel, by decide +kernel⟩, by decide +kernel, by decide⟩
theorem jSX10_isTable : Cond.static kX10_isTable.1 ∈ ax_tb := (ax_in1_2 (i := 46) rfl rfl)
theorem jX10_isPower : ax_J kX10_isPower 3 := ⟨(ax_in1_2 (i := 44) rfl rfl), (ax_in1_1 (i := 1) rfl rfl), ⟨by decide +kernel, by decide +kernel, by decide +kernel⟩, by decide +kernel, by decide⟩
theorem jSX10_isPower : Cond.static kX10_isPower.1 ∈ ax_tb := (ax_in1_2 (i := 43) rfl rfl)
theorem jX10_modulo : ax_J kX10_modulo 1 := ⟨(ax_in1_2 (i := 96) rfl rfl), (ax_in1_1 (i := 1) rfl rfl), ⟨by decide +kernel, by decide +kernel, by decide +kernel⟩, by decide +kernel, by decide⟩
theorem jSX10_modulo : Cond.static kX10_modulo.1 ∈ ax_tb := (ax_in1_2 (i := 95) rfl rfl)
theorem jX10_quotient : ax_J kX10_quotient 2 := ⟨(ax_in1_2 (i := 140) rfl rfl), (ax_in1_1 (i := 1) rfl rfl), ⟨by decide +kernel, by decide +kernel, by decide +kernel⟩, by decide +kernel, by decide⟩
theorem jSX10_quotient : Cond.static kX10_quotient.1 ∈ ax_tb := (ax_in1_2 (i := 139) rfl rfl)
theorem jX10_quadraticAt : ax_J kX10_quadraticAt 4 := ⟨(ax_in1_2 (i := 128) rfl rfl), (ax_in1_1 (i := 1) rfl rfl), ⟨by decide +kernel, by decide +kernel, by decide +kernel⟩, by decide +kernel, by decide⟩
theorem jSX10_quadraticAt : Cond.static kX10_quadraticAt.1 ∈ ax_tb := (ax_in1_2 (i := 127) rfl rfl)
theorem jX10_powerAt : ax_J kX10_powerAt 2 := ⟨(ax_in1_3 (i := 196) rfl rfl), (ax_in1_1 (i := 1) rfl rfl), ⟨by decide +kernel, by decide +kernel, by decide +kernel⟩, by decide +kernel, by decide⟩
theorem jSX10_powerAt : Cond.static kX10_powerAt.1 ∈ ax_tb := (ax_in1_3 (i := 195) rfl rfl)
theorem jX10_drawn : ax_J kX10_drawn 1 := ⟨(ax_in1_3 (i := 205) rfl rfl), (ax_in1_1 (i := 1) rfl rfl), ⟨by decide +kernel, by decide +kernel, by decide +kernel⟩, by decide +kernel, by decide⟩
theorem jSX10_drawn : Cond.static kX10_drawn.1 ∈ ax_tb := (ax_in1_3 (i := 204) rfl rfl)
theorem jX10_commonDivisor : ax_J kX10_commonDivisor 2 := ⟨(ax_in1_3 (i := 209) rfl rfl), (ax_in1_1 (i := 1) rfl rfl), ⟨by decide +kernel, by decide +kernel, by decide +kernel⟩, by decide +kernel, by decide⟩
theorem jSX10_commonDivisor : Cond.static kX10_commonDivisor.1 ∈ ax_tb := (ax_in1_3 (i := 208) rfl rfl)
theorem jX11_init : ax_J kX11_init 0 := ⟨(ax_in1_4 (i := 103) rfl rfl), (ax_in1_1 (i := 12) rfl rfl), ⟨by decide +kernel, by decide +kernel, by decide +kernel⟩, by decide +kernel, by decide⟩
theorem jIX11_init : Cond.instanceMethod kX11_init.1 ∈ ax_tb := (ax_in1_4 (i := 102) rfl rfl)
theorem jX11_in : ax_J kX11_in 3 := ⟨(ax_in1_4 (i := 207) rfl rfl), (ax_in1_1 (i := 12) rfl rfl), ⟨by decide +kernel, by decide +kernel, by decide +kernel⟩, by decide +kernel, by decide⟩
theorem jSX11_in : Cond.static kX11_in.1 ∈ ax_tb := (ax_in1_4 (i := 206) rfl rfl)
theorem jX11_mod : ax_J kX11_mod 1 := ⟨(ax_in1_5 (i := 23) rfl rfl), (ax_in1_1 (i := 12) rfl rfl), ⟨by decide +kernel, by decide +kernel, by decide +kernel⟩, by decide +kernel, by decide⟩
theorem jSX11_mod : Cond.static kX11_mod.1 ∈ ax_tb := (ax_in1_5 (i := 22) rfl rfl)
theorem jX11_inverse : ax_J kX11_inverse 1 := ⟨(ax_in1_5 (i := 8) rfl rfl), (ax_in1_1 (i := 12) rfl rfl), ⟨by decide +kernel, by decide +kernel, by decide +kernel⟩, by decide +kernel, by decide⟩
theorem jSX11_inverse : Cond.static kX11_inverse.1 ∈ ax_tb := (ax_in1_5 (i := 7) rfl rfl)
theorem jX11_by : ax_J kX11_by 2 := ⟨(ax_in1_5 (i := 5) rfl rfl), (ax_in1_1 (i := 12) rfl rfl), ⟨by decide +kernel, by decide +kernel, by decide +kernel⟩, by decide +kernel, by decide⟩
theorem jSX11_by : Cond.static kX11_by.1 ∈ ax_tb := (ax_in1_5 (i := 4) rfl rfl)
theorem jX11_isCoordinate : ax_J kX11_isCoordinate 1 := ⟨(ax_in1_4 (i := 226) rfl rfl), (ax_in1_1 (i := 12) rfl rfl), ⟨by decide +kernel, by decide +kernel, by decide +kernel⟩, by decide +kernel, by decide⟩
theorem jSX11_isCoordinate : Cond.static kX11_isCoordinate.1 ∈ ax_tb := (ax_in1_4 (i := 225) rfl rfl)
theorem jX11_isSpot : ax_J kX11_isSpot 2 := ⟨(ax_in1_4 (i := 223) rfl rfl), (ax_in1_1 (i := 12) rfl rfl), ⟨by decide +kernel, by decide +kernel, by decide +kernel⟩, by decide +kernel, by decide⟩
theorem jSX11_isSpot : Cond.static kX11_isSpot.1 ∈ ax_tb := (ax_in1_4 (i := 222) rfl rfl)
theorem jX11_placeOf : ax_J kX11_placeOf 3 := ⟨(ax_in1_4 (i := 212) rfl rfl), (ax_in1_1 (i := 12) rfl rfl), ⟨by decide +kernel, by decide +kernel, by decide +kernel⟩, by decide +kernel, by decide⟩
theorem jSX11_placeOf : Cond.static kX11_placeOf.1 ∈ ax_tb := (ax_in1_4 (i := 211) rfl rfl)
theorem jX11_isPlace : ax_J kX11_isPlace 3 := ⟨(ax_in1_4 (i := 204) rfl rfl), (ax_in1_1 (i := 12) rfl rfl), ⟨by decide +kernel, by decide +kernel, by decide +kernel⟩, by decide +kernel, by decide⟩
theorem jSX11_isPlace : Cond.static kX11_isPlace.1 ∈ ax_tb := (ax_in1_4 (i := 203) rfl rfl)
theorem jX11_set : ax_J kX11_set 4 := ⟨(ax_in1_4 (i := 201) rfl rfl), (ax_in1_1 (i := 12) rfl rfl), ⟨by decide +kernel, by decide +kernel, by decide +kernel⟩, by decide +kernel, by decide⟩
theorem jIX11_set : Cond.instanceMethod kX11_set.1 ∈ ax_tb := (ax_in1_4 (i := 199) rfl rfl)
theorem jVX11_set : Cond.selects kX11_set.1.cls kX11_set.1 kX11_set.1 ∈ ax_tb := (ax_in1_4 (i := 200) rfl rfl)
theorem jX11_of : ax_J kX11_of 3 := ⟨(ax_in1_4 (i := 216) rfl rfl), (ax_in1_1 (i := 12) rfl rfl), ⟨by decide +kernel, by decide +kernel, by decide +kernel⟩, by decide +kernel, by decide⟩
theorem jIX11_of : Cond.instanceMethod kX11_of.1 ∈ ax_tb := (ax_in1_4 (i := 214) rfl rfl)
theorem jVX11_of : Cond.selects kX11_of.1.cls kX11_of.1 kX11_of.1 ∈ ax_tb := (ax_in1_4 (i := 215) rfl rfl)
theorem jX11_power : ax_J kX11_power 2 := ⟨(ax_in1_4 (i := 234) rfl rfl), (ax_in1_1 (i := 12) rfl rfl), ⟨by decide +kernel, by decide +kernel, by decide +kernel⟩, by decide +kernel, by decide⟩
theorem jSX11_power : Cond.static kX11_power.1 ∈ ax_tb := (ax_in1_4 (i := 233) rfl rfl)
theorem jX11_valueAt : ax_J kX11_valueAt 3 := ⟨(ax_in1_4 (i := 231) rfl rfl), (ax_in1_1 (i := 12) rfl rfl), ⟨by decide +kernel, by decide +kernel, by decide +kernel⟩, by decide +kernel, by decide⟩
theorem jIX11_valueAt : Cond.instanceMethod kX11_valueAt.1 ∈ ax_tb := (ax_in1_4 (i := 230) rfl rfl)
theorem jVX11_valueAt : Cond.selects kX11_valueAt.1.cls kX11_valueAt.1 kX11_valueAt.1 ∈ ax_tb := (ax_in0 (i := 18) rfl rfl)
theorem jX11_value : ax_J kX11_value 3 := ⟨(ax_in1_4 (i := 220) rfl rfl), (ax_in1_1 (i := 12) rfl rfl), ⟨by decide +kernel, by decide +kernel, by decide +kernel⟩, by decide +kernel, by decide⟩
theorem jIX11_value : Cond.instanceMethod kX11_value.1 ∈ ax_tb := (ax_in1_4 (i := 218) rfl rfl)
theorem jVX11_value : Cond.selects kX11_value.1.cls kX11_value.1 kX11_value.1 ∈ ax_tb := (ax_in1_4 (i := 219) rfl rfl)
theorem jX11_keptAt : ax_J kX11_keptAt 2 := ⟨(ax_in1_5 (i := 2) rfl rfl), (ax_in1_1 (i := 12) rfl rfl), ⟨by decide +kernel, by decide +kernel, by decide +kernel⟩, by decide +kernel, by decide⟩
theorem jIX11_keptAt : Cond.instanceMethod kX11_keptAt.1 ∈ ax_tb := (ax_in1_5 (i := 1) rfl rfl)
theorem jVX11_keptAt : Cond.selects kX11_keptAt.1.cls kX11_keptAt.1 kX11_keptAt.1 ∈ ax_tb := (ax_in0 (i := 19) rfl rfl)
theorem jX11_kept : ax_J kX11_kept 2 := ⟨(ax_in1_4 (i := 238) rfl rfl), (ax_in1_1 (i := 12) rfl rfl), ⟨by decide +kernel, by decide +kernel, by decide +kernel⟩, by decide +kernel, by decide⟩
theorem jIX11_kept : Cond.instanceMethod kX11_kept.1 ∈ ax_tb := (ax_in1_4 (i := 236) rfl rfl)
theorem jVX11_kept : Cond.selects kX11_kept.1.cls kX11_kept.1 kX11_kept.1 ∈ ax_tb := (ax_in1_4 (i := 237) rfl rfl)
theorem jX11_rowAt : ax_J kX11_rowAt 4 := ⟨(ax_in1_5 (i := 20) rfl rfl), (ax_in1_1 (i := 12) rfl rfl), ⟨by decide +kernel, by decide +kernel, by decide +kernel⟩, by decide +kernel, by decide⟩
theorem jIX11_rowAt : Cond.instanceMethod kX11_rowAt.1 ∈ ax_tb := (ax_in1_5 (i := 19) rfl rfl)
theorem jVX11_rowAt : Cond.selects kX11_rowAt.1.cls kX11_rowAt.1 kX11_rowAt.1 ∈ ax_tb := (ax_in0 (i := 21) rfl rfl)
theorem jX11_crossed : ax_J kX11_crossed 3 := ⟨(ax_in1_5 (i := 16) rfl rfl), (ax_in1_1 (i := 12) rfl rfl), ⟨by decide +kernel, by decide +kernel, by decide +kernel⟩, by decide +kernel, by decide⟩
theorem jIX11_crossed : Cond.instanceMethod kX11_crossed.1 ∈ ax_tb := (ax_in1_5 (i := 15) rfl rfl)
theorem jVX11_crossed : Cond.selects kX11_crossed.1.cls kX11_crossed.1 kX11_crossed.1 ∈ ax_tb := (ax_in0 (i := 20) rfl rfl)
theorem jX11_row : ax_J kX11_row 3 := ⟨(ax_in1_5 (i := 12) rfl rfl), (ax_in1_1 (i := 12) rfl rfl), ⟨by decide +kernel, by decide +kernel, by decide +kernel⟩, by decide +kernel, by decide⟩
theorem jIX11_row : Cond.instanceMethod kX11_row.1 ∈ ax_tb := (ax_in1_5 (i := 10) rfl rfl)
theorem jVX11_row : Cond.selects kX11_row.1.cls kX11_row.1 kX11_row.1 ∈ ax_tb := (ax_in1_5 (i := 11) rfl rfl)
theorem jX11_other : ax_J kX11_other 3 := ⟨(ax_in1_5 (i := 31) rfl rfl), (ax_in1_1 (i := 12) rfl rfl), ⟨by decide +kernel, by decide +kernel, by decide +kernel⟩, by decide +kernel, by decide⟩
theorem jIX11_other : Cond.instanceMethod kX11_other.1 ∈ ax_tb := (ax_in1_5 (i := 30) rfl rfl)
theorem jVX11_other : Cond.selects kX11_other.1.cls kX11_other.1 kX11_other.1 ∈ ax_tb := (ax_in0 (i := 22) rfl rfl)
theorem jX11_swap : ax_J kX11_swap 3 := ⟨(ax_in1_5 (i := 27) rfl rfl), (ax_in1_1 (i := 12) rfl rfl), ⟨by decide +kernel, by decide +kernel, by decide +kernel⟩, by decide +kernel, by decide⟩
theorem jIX11_swap : Cond.instanceMethod kX11_swap.1 ∈ ax_tb := (ax_in1_5 (i := 25) rfl rfl)
theorem jVX11_swap : Cond.selects kX11_swap.1.cls kX11_swap.1 kX11_swap.1 ∈ ax_tb := (ax_in1_5 (i := 26) rfl rfl)
theorem jX11_pinched : ax_J kX11_pinched 1 := ⟨(ax_in1_5 (i := 35) rfl rfl), (ax_in1_1 (i := 12) rfl rfl), ⟨by decide +kernel, by decide +kernel, by decide +kernel⟩, by decide +kernel, by decide⟩
theorem jIX11_pinched : Cond.instanceMethod kX11_pinched.1 ∈ ax_tb := (ax_in1_5 (i := 33) rfl rfl)
theorem jVX11_pinched : Cond.selects kX11_pinched.1.cls kX11_pinched.1 kX11_pinched.1 ∈ ax_tb := (ax_in1_5 (i := 34) rfl rfl)
theorem jX11_swapped : ax_J kX11_swapped 2 := ⟨(ax_in1_5 (i := 50) rfl rfl), (ax_in1_1 (i := 12) rfl rfl), ⟨by decide +kernel, by decide +kernel, by decide +kernel⟩, by decide +kernel, by decide⟩
theorem jIX11_swapped : Cond.instanceMethod kX11_swapped.1 ∈ ax_tb := (ax_in1_5 (i := 49) rfl rfl)
theorem jVX11_swapped : Cond.selects kX11_swapped.1.cls kX11_swapped.1 kX11_swapped.1 ∈ ax_tb := (ax_in0 (i := 24) rfl rfl)
theorem jX11_step : ax_J kX11_step 2 := ⟨(ax_in1_5 (i := 46) rfl rfl), (ax_in1_1 (i := 12) rfl rfl), ⟨by decide +kernel, by decide +kernel, by decide +kernel⟩, by decide +kernel, by decide⟩
theorem jIX11_step : Cond.instanceMethod kX11_step.1 ∈ ax_tb := (ax_in1_5 (i := 45) rfl rfl)
theorem jVX11_step : Cond.selects kX11_step.1.cls kX11_step.1 kX11_step.1 ∈ ax_tb := (ax_in0 (i := 23) rfl rfl)
theorem jX11_behind : ax_J kX11_behind 3 := ⟨(ax_in1_5 (i := 40) rfl rfl), (ax_in1_1 (i := 12) rfl rfl), ⟨by decide +kernel, by decide +kernel, by decide +kernel⟩, by decide +kernel, by decide⟩
theorem jIX11_behind : Cond.instanceMethod kX11_behind.1 ∈ ax_tb := (ax_in1_5 (i := 38) rfl rfl)
theorem jVX11_behind : Cond.selects kX11_behind.1.cls kX11_behind.1 kX11_behind.1 ∈ ax_tb := (ax_in1_5 (i := 39) rfl rfl)
theorem jX11_period : ax_J kX11_period 2 := ⟨(ax_in1_5 (i := 54) rfl rfl), (ax_in1_1 (i := 12) rfl rfl), ⟨by decide +kernel, by decide +kernel, by decide +kernel⟩, by decide +kernel, by decide⟩
theorem jIX11_period : Cond.instanceMethod kX11_period.1 ∈ ax_tb := (ax_in1_5 (i := 52) rfl rfl)
theorem jVX11_period : Cond.selects kX11_period.1.cls kX11_period.1 kX11_period.1 ∈ ax_tb := (ax_in1_5 (i := 53) rfl rfl)
theorem jX11_findsKept : ax_J kX11_findsKept 0 := ⟨(ax_in1_5 (i := 66) rfl rfl), (ax_in1_1 (i := 12) rfl rfl), ⟨by decide +kernel, by decide +kernel, by decide +kernel⟩, by decide +kernel, by decide⟩
theorem jIX11_findsKept : Cond.instanceMethod kX11_findsKept.1 ∈ ax_tb := (ax_in1_5 (i := 65) rfl rfl)
theorem jVX11_findsKept : Cond.selects kX11_findsKept.1.cls kX11_findsKept.1 kX11_findsKept.1 ∈ ax_tb := (ax_in0 (i := 26) rfl rfl)
theorem jX11_nth : ax_J kX11_nth 2 := ⟨(ax_in1_5 (i := 62) rfl rfl), (ax_in1_1 (i := 12) rfl rfl), ⟨by decide +kernel, by decide +kernel, by decide +kernel⟩, by decide +kernel, by decide⟩
theorem jIX11_nth : Cond.instanceMethod kX11_nth.1 ∈ ax_tb := (ax_in1_5 (i := 61) rfl rfl)
theorem jVX11_nth : Cond.selects kX11_nth.1.cls kX11_nth.1 kX11_nth.1 ∈ ax_tb := (ax_in0 (i := 25) rfl rfl)
theorem jX11_fibre : ax_J kX11_fibre 2 := ⟨(ax_in1_5 (i := 58) rfl rfl), (ax_in1_1 (i := 12) rfl rfl), ⟨by decide +kernel, by decide +kernel, by decide +kernel⟩, by decide +kernel, by decide⟩
theorem jIX11_fibre : Cond.instanceMethod kX11_fibre.1 ∈ ax_tb := (ax_in1_5 (i := 56) rfl rfl)
theorem jVX11_fibre : Cond.selects kX11_fibre.1.cls kX11_fibre.1 kX11_fibre.1 ∈ ax_tb := (ax_in1_5 (i := 57) rfl rfl)
theorem jX11_base : ax_J kX11_base 1 := ⟨(ax_in1_5 (i := 70) rfl rfl), (ax_in1_1 (i := 12) rfl rfl), ⟨by decide +kernel, by decide +kernel, by decide +kernel⟩, by decide +kernel, by decide⟩
theorem jIX11_base : Cond.instanceMethod kX11_base.1 ∈ ax_tb := (ax_in1_5 (i := 68) rfl rfl)
theorem jVX11_base : Cond.selects kX11_base.1.cls kX11_base.1 kX11_base.1 ∈ ax_tb := (ax_in1_5 (i := 69) rfl rfl)
theorem jX11_rank : ax_J kX11_rank 1 := ⟨(ax_in1_5 (i := 74) rfl rfl), (ax_in1_1 (i := 12) rfl rfl), ⟨by decide +kernel, by decide +kernel, by decide +kernel⟩, by decide +kernel, by decide⟩
theorem jIX11_rank : Cond.instanceMethod kX11_rank.1 ∈ ax_tb := (ax_in1_5 (i := 72) rfl rfl)
theorem jVX11_rank : Cond.selects kX11_rank.1.cls kX11_rank.1 kX11_rank.1 ∈ ax_tb := (ax_in1_5 (i := 73) rfl rfl)
theorem jX11_lengthOf : ax_J kX11_lengthOf 1 := ⟨(ax_in1_5 (i := 88) rfl rfl), (ax_in1_1 (i := 12) rfl rfl), ⟨by decide +kernel, by decide +kernel, by decide +kernel⟩, by decide +kernel, by decide⟩
theorem jIX11_lengthOf : Cond.instanceMethod kX11_lengthOf.1 ∈ ax_tb := (ax_in1_5 (i := 87) rfl rfl)
theorem jVX11_lengthOf : Cond.selects kX11_lengthOf.1.cls kX11_lengthOf.1 kX11_lengthOf.1 ∈ ax_tb := (ax_in0 (i := 28) rfl rfl)
theorem jX11_findsCycles : ax_J kX11_findsCycles 1 := ⟨(ax_in1_5 (i := 84) rfl rfl), (ax_in1_1 (i := 12) rfl rfl), ⟨by decide +kernel, by decide +kernel, by decide +kernel⟩, by decide +kernel, by decide⟩
theorem jIX11_findsCycles : Cond.instanceMethod kX11_findsCycles.1 ∈ ax_tb := (ax_in1_5 (i := 83) rfl rfl)
theorem jVX11_findsCycles : Cond.selects kX11_findsCycles.1.cls kX11_findsCycles.1 kX11_findsCycles.1 ∈ ax_tb := (ax_in0 (i := 27) rfl rfl)
theorem jX11_cycles : ax_J kX11_cycles 2 := ⟨(ax_in1_5 (i := 78) rfl rfl), (ax_in1_1 (i := 12) rfl rfl), ⟨by decide +kernel, by decide +kernel, by decide +kernel⟩, by decide +kernel, by decide⟩
theorem jIX11_cycles : Cond.instanceMethod kX11_cycles.1 ∈ ax_tb := (ax_in1_5 (i := 76) rfl rfl)
theorem jVX11_cycles : Cond.selects kX11_cycles.1.cls kX11_cycles.1 kX11_cycles.1 ∈ ax_tb := (ax_in1_5 (i := 77) rfl rfl)
theorem jX11_becomes : ax_J kX11_becomes 2 := ⟨(ax_in1_5 (i := 113) rfl rfl), (ax_in1_1 (i := 12) rfl rfl), ⟨by decide +kernel, by decide +kernel, by decide +kernel⟩, by decide +kernel, by decide⟩
theorem jSX11_becomes : Cond.static kX11_becomes.1 ∈ ax_tb := (ax_in1_5 (i := 112) rfl rfl)
theorem jX11_constant : ax_J kX11_constant 2 := ⟨(ax_in1_5 (i := 96) rfl rfl), (ax_in1_1 (i := 12) rfl rfl), ⟨by decide +kernel, by decide +kernel, by decide +kernel⟩, by decide +kernel, by decide⟩
theorem jSX11_constant : Cond.static kX11_constant.1 ∈ ax_tb := (ax_in1_5 (i := 95) rfl rfl)
theorem jX11_trims : ax_J kX11_trims 2 := ⟨(ax_in1_5 (i := 110) rfl rfl), (ax_in1_1 (i := 12) rfl rfl), ⟨by decide +kernel, by decide +kernel, by decide +kernel⟩, by decide +kernel, by decide⟩
theorem jSX11_trims : Cond.static kX11_trims.1 ∈ ax_tb := (ax_in1_5 (i := 109) rfl rfl)
theorem jX11_sums : ax_J kX11_sums 5 := ⟨(ax_in1_5 (i := 116) rfl rfl), (ax_in1_1 (i := 12) rfl rfl), ⟨by decide +kernel, by decide +kernel, by decide +kernel⟩, by decide +kernel, by decide⟩
theorem jSX11_sums : Cond.static kX11_sums.1 ∈ ax_tb := (ax_in1_5 (i := 115) rfl rfl)
theorem jX11_times : ax_J kX11_times 3 := ⟨(ax_in1_5 (i := 107) rfl rfl), (ax_in1_1 (i := 12) rfl rfl), ⟨by decide +kernel, by decide +kernel, by decide +kernel⟩, by decide +kernel, by decide⟩
theorem jSX11_times : Cond.static kX11_times.1 ∈ ax_tb := (ax_in1_5 (i := 106) rfl rfl)
theorem jX11_divides : ax_J kX11_divides 3 := ⟨(ax_in1_5 (i := 127) rfl rfl), (ax_in1_1 (i := 12) rfl rfl), ⟨by decide +kernel, by decide +kernel, by decide +kernel⟩, by decide +kernel, by decide⟩
theorem jSX11_divides : Cond.static kX11_divides.1 ∈ ax_tb := (ax_in1_5 (i := 126) rfl rfl)
theorem jX11_lowers : ax_J kX11_lowers 2 := ⟨(ax_in1_5 (i := 124) rfl rfl), (ax_in1_1 (i := 12) rfl rfl), ⟨by decide +kernel, by decide +kernel, by decide +kernel⟩, by decide +kernel, by decide⟩
theorem jIX11_lowers : Cond.instanceMethod kX11_lowers.1 ∈ ax_tb := (ax_in1_5 (i := 123) rfl rfl)
theorem jVX11_lowers : Cond.selects kX11_lowers.1.cls kX11_lowers.1 kX11_lowers.1 ∈ ax_tb := (ax_in0 (i := 32) rfl rfl)
theorem jX11_rowsAt : ax_J kX11_rowsAt 3 := ⟨(ax_in1_5 (i := 104) rfl rfl), (ax_in1_1 (i := 12) rfl rfl), ⟨by decide +kernel, by decide +kernel, by decide +kernel⟩, by decide +kernel, by decide⟩
theorem jIX11_rowsAt : Cond.instanceMethod kX11_rowsAt.1 ∈ ax_tb := (ax_in1_5 (i := 103) rfl rfl)
theorem jVX11_rowsAt : Cond.selects kX11_rowsAt.1.cls kX11_rowsAt.1 kX11_rowsAt.1 ∈ ax_tb := (ax_in0 (i := 30) rfl rfl)
theorem jX11_crosses : ax_J kX11_crosses 3 := ⟨(ax_in1_5 (i := 120) rfl rfl), (ax_in1_1 (i := 12) rfl rfl), ⟨by decide +kernel, by decide +kernel, by decide +kernel⟩, by decide +kernel, by decide⟩
theorem jIX11_crosses : Cond.instanceMethod kX11_crosses.1 ∈ ax_tb := (ax_in1_5 (i := 119) rfl rfl)
theorem jVX11_crosses : Cond.selects kX11_crosses.1.cls kX11_crosses.1 kX11_crosses.1 ∈ ax_tb := (ax_in0 (i := 31) rfl rfl)
theorem jX11_isSwapped : ax_J kX11_isSwapped 5 := ⟨(ax_in1_5 (i := 100) rfl rfl), (ax_in1_1 (i := 12) rfl rfl), ⟨by decide +kernel, by decide +kernel, by decide +kernel⟩, by decide +kernel, by decide⟩
theorem jIX11_isSwapped : Cond.instanceMethod kX11_isSwapped.1 ∈ ax_tb := (ax_in1_5 (i := 99) rfl rfl)
theorem jVX11_isSwapped : Cond.selects kX11_isSwapped.1.cls kX11_isSwapped.1 kX11_isSwapped.1 ∈ ax_tb := (ax_in0 (i := 29) rfl rfl)
theorem jX11_degree : ax_J kX11_degree 3 := ⟨(ax_in1_5 (i := 92) rfl rfl), (ax_in1_1 (i := 12) rfl rfl), ⟨by decide +kernel, by decide +kernel, by decide +kernel⟩, by decide +kernel, by decide⟩
theorem jIX11_degree : Cond.instanceMethod kX11_degree.1 ∈ ax_tb := (ax_in1_5 (i := 90) rfl rfl)
theorem jVX11_degree : Cond.selects kX11_degree.1.cls kX11_degree.1 kX11_degree.1 ∈ ax_tb := (ax_in1_5 (i := 91) rfl rfl)
theorem jX11_placeIn : ax_J kX11_placeIn 1 := ⟨(ax_in1_5 (i := 139) rfl rfl), (ax_in1_1 (i := 12) rfl rfl), ⟨by decide +kernel, by decide +kernel, by decide +kernel⟩, by decide +kernel, by decide⟩
theorem jIX11_placeIn : Cond.instanceMethod kX11_placeIn.1 ∈ ax_tb := (ax_in1_5 (i := 138) rfl rfl)
theorem jVX11_placeIn : Cond.selects kX11_placeIn.1.cls kX11_placeIn.1 kX11_placeIn.1 ∈ ax_tb := (ax_in0 (i := 34) rfl rfl)
theorem jX11_isTold : ax_J kX11_isTold 1 := ⟨(ax_in1_5 (i := 135) rfl rfl), (ax_in1_1 (i := 12) rfl rfl), ⟨by decide +kernel, by decide +kernel, by decide +kernel⟩, by decide +kernel, by decide⟩
theorem jIX11_isTold : Cond.instanceMethod kX11_isTold.1 ∈ ax_tb := (ax_in1_5 (i := 134) rfl rfl)
theorem jVX11_isTold : Cond.selects kX11_isTold.1.cls kX11_isTold.1 kX11_isTold.1 ∈ ax_tb := (ax_in0 (i := 33) rfl rfl)
theorem jX11_tell : ax_J kX11_tell 2 := ⟨(ax_in1_5 (i := 131) rfl rfl), (ax_in1_1 (i := 12) rfl rfl), ⟨by decide +kernel, by decide +kernel, by decide +kernel⟩, by decide +kernel, by decide⟩
theorem jIX11_tell : Cond.instanceMethod kX11_tell.1 ∈ ax_tb := (ax_in1_5 (i := 129) rfl rfl)
theorem jVX11_tell : Cond.selects kX11_tell.1.cls kX11_tell.1 kX11_tell.1 ∈ ax_tb := (ax_in1_5 (i := 130) rfl rfl)
theorem jX11_forget : ax_J kX11_forget 2 := ⟨(ax_in1_5 (i := 143) rfl rfl), (ax_in1_1 (i := 12) rfl rfl), ⟨by decide +kernel, by decide +kernel, by decide +kernel⟩, by decide +kernel, by decide⟩
theorem jIX11_forget : Cond.instanceMethod kX11_forget.1 ∈ ax_tb := (ax_in1_5 (i := 141) rfl rfl)
theorem jVX11_forget : Cond.selects kX11_forget.1.cls kX11_forget.1 kX11_forget.1 ∈ ax_tb := (ax_in1_5 (i := 142) rfl rfl)
theorem jX11_told : ax_J kX11_told 1 := ⟨(ax_in1_5 (i := 147) rfl rfl), (ax_in1_1 (i := 12) rfl rfl), ⟨by decide +kernel, by decide +kernel, by decide +kernel⟩, by decide +kernel, by decide⟩
theorem jIX11_told : Cond.instanceMethod kX11_told.1 ∈ ax_tb := (ax_in1_5 (i := 145) rfl rfl)
theorem jVX11_told : Cond.selects kX11_told.1.cls kX11_told.1 kX11_told.1 ∈ ax_tb := (ax_in1_5 (i := 146) rfl rfl)
theorem jX11_moves : ax_J kX11_moves 0 := ⟨(ax_in1_5 (i := 155) rfl rfl), (ax_in1_1 (i := 12) rfl rfl), ⟨by decide +kernel, by decide +kernel, by decide +kernel⟩, by decide +kernel, by decide⟩
theorem jIX11_moves : Cond.instanceMethod kX11_moves.1 ∈ ax_tb := (ax_in1_5 (i := 154) rfl rfl)
theorem jVX11_moves : Cond.selects kX11_moves.1.cls kX11_moves.1 kX11_moves.1 ∈ ax_tb := (ax_in0 (i := 35) rfl rfl)
theorem jX11_moved : ax_J kX11_moved 1 := ⟨(ax_in1_5 (i := 151) rfl rfl), (ax_in1_1 (i := 12) rfl rfl), ⟨by decide +kernel, by decide +kernel, by decide +kernel⟩, by decide +kernel, by decide⟩
theorem jIX11_moved : Cond.instanceMethod kX11_moved.1 ∈ ax_tb := (ax_in1_5 (i := 149) rfl rfl)
theorem jVX11_moved : Cond.selects kX11_moved.1.cls kX11_moved.1 kX11_moved.1 ∈ ax_tb := (ax_in1_5 (i := 150) rfl rfl)
theorem jX11_move : ax_J kX11_move 0 := ⟨(ax_in1_5 (i := 159) rfl rfl), (ax_in1_1 (i := 12) rfl rfl), ⟨by decide +kernel, by decide +kernel, by decide +kernel⟩, by decide +kernel, by decide⟩
theorem jIX11_move : Cond.instanceMethod kX11_move.1 ∈ ax_tb := (ax_in1_5 (i := 157) rfl rfl)
theorem jVX11_move : Cond.selects kX11_move.1.cls kX11_move.1 kX11_move.1 ∈ ax_tb := (ax_in1_5 (i := 158) rfl rfl)
theorem jX11_grows : ax_J kX11_grows 1 := ⟨(ax_in1_5 (i := 163) rfl rfl), (ax_in1_1 (i := 12) rfl rfl), ⟨by decide +kernel, by decide +kernel, by decide +kernel⟩, by decide +kernel, by decide⟩
theorem jIX11_grows : Cond.instanceMethod kX11_grows.1 ∈ ax_tb := (ax_in1_5 (i := 161) rfl rfl)
theorem jVX11_grows : Cond.selects kX11_grows.1.cls kX11_grows.1 kX11_grows.1 ∈ ax_tb := (ax_in1_5 (i := 162) rfl rfl)
theorem jX11_were : ax_J kX11_were 6 := ⟨(ax_in1_5 (i := 168) rfl rfl), (ax_in1_1 (i := 12) rfl rfl), ⟨by decide +kernel, by decide +kernel, by decide +kernel⟩, by decide +kernel, by decide⟩
theorem jIX11_were : Cond.instanceMethod kX11_were.1 ∈ ax_tb := (ax_in1_5 (i := 166) rfl rfl)
theorem jVX11_were : Cond.selects kX11_were.1.cls kX11_were.1 kX11_were.1 ∈ ax_tb := (ax_in1_5 (i := 167) rfl rfl)
theorem jX11_common : ax_J kX11_common 2 := ⟨(ax_in1_5 (i := 176) rfl rfl), (ax_in1_1 (i := 12) rfl rfl), ⟨by decide +kernel, by decide +kernel, by decide +kernel⟩, by decide +kernel, by decide⟩
theorem jSX11_common : Cond.static kX11_common.1 ∈ ax_tb := (ax_in1_5 (i := 175) rfl rfl)
theorem jX11_odds : ax_J kX11_odds 4 := ⟨(ax_in1_5 (i := 172) rfl rfl), (ax_in1_1 (i := 12) rfl rfl), ⟨by decide +kernel, by decide +kernel, by decide +kernel⟩, by decide +kernel, by decide⟩
theorem jIX11_odds : Cond.instanceMethod kX11_odds.1 ∈ ax_tb := (ax_in1_5 (i := 170) rfl rfl)
theorem jVX11_odds : Cond.selects kX11_odds.1.cls kX11_odds.1 kX11_odds.1 ∈ ax_tb := (ax_in1_5 (i := 171) rfl rfl)
theorem jX11_plan : ax_J kX11_plan 2 := ⟨(ax_in1_5 (i := 180) rfl rfl), (ax_in1_1 (i := 12) rfl rfl), ⟨by decide +kernel, by decide +kernel, by decide +kernel⟩, by decide +kernel, by decide⟩
theorem jIX11_plan : Cond.instanceMethod kX11_plan.1 ∈ ax_tb := (ax_in1_5 (i := 178) rfl rfl)
theorem jVX11_plan : Cond.selects kX11_plan.1.cls kX11_plan.1 kX11_plan.1 ∈ ax_tb := (ax_in1_5 (i := 179) rfl rfl)
theorem jX11_ends : ax_J kX11_ends 2 := ⟨(ax_in1_5 (i := 185) rfl rfl), (ax_in1_1 (i := 12) rfl rfl), ⟨by decide +kernel, by decide +kernel, by decide +kernel⟩, by decide +kernel, by decide⟩
theorem jIX11_ends : Cond.instanceMethod kX11_ends.1 ∈ ax_tb := (ax_in1_5 (i := 183) rfl rfl)
theorem jVX11_ends : Cond.selects kX11_ends.1.cls kX11_ends.1 kX11_ends.1 ∈ ax_tb := (ax_in1_5 (i := 184) rfl rfl)
theorem jX11_feed : ax_J kX11_feed 1 := ⟨(ax_in1_5 (i := 189) rfl rfl), (ax_in1_1 (i := 12) rfl rfl), ⟨by decide +kernel, by decide +kernel, by decide +kernel⟩, by decide +kernel, by decide⟩
theorem jIX11_feed : Cond.instanceMethod kX11_feed.1 ∈ ax_tb := (ax_in1_5 (i := 187) rfl rfl)
theorem jVX11_feed : Cond.selects kX11_feed.1.cls kX11_feed.1 kX11_feed.1 ∈ ax_tb := (ax_in1_5 (i := 188) rfl rfl)
theorem jX11_here : ax_J kX11_here 0 := ⟨(ax_in1_5 (i := 198) rfl rfl), (ax_in1_1 (i := 12) rfl rfl), ⟨by decide +kernel, by decide +kernel, by decide +kernel⟩, by decide +kernel, by decide⟩
theorem jIX11_here : Cond.instanceMethod kX11_here.1 ∈ ax_tb := (ax_in1_5 (i := 197) rfl rfl)
theorem jVX11_here : Cond.selects kX11_here.1.cls kX11_here.1 kX11_here.1 ∈ ax_tb := (ax_in0 (i := 36) rfl rfl)
theorem jX11_often : ax_J kX11_often 1 := ⟨(ax_in1_5 (i := 209) rfl rfl), (ax_in1_1 (i := 12) rfl rfl), ⟨by decide +kernel, by decide +kernel, by decide +kernel⟩, by decide +kernel, by decide⟩
theorem jIX11_often : Cond.instanceMethod kX11_often.1 ∈ ax_tb := (ax_in1_5 (i := 208) rfl rfl)
theorem jVX11_often : Cond.selects kX11_often.1.cls kX11_often.1 kX11_often.1 ∈ ax_tb := (ax_in0 (i := 38) rfl rfl)
theorem jX11_isTerm : ax_J kX11_isTerm 0 := ⟨(ax_in1_5 (i := 202) rfl rfl), (ax_in1_1 (i := 12) rfl rfl), ⟨by decide +kernel, by decide +kernel, by decide +kernel⟩, by decide +kernel, by decide⟩
theorem jIX11_isTerm : Cond.instanceMethod kX11_isTerm.1 ∈ ax_tb := (ax_in1_5 (i := 201) rfl rfl)
theorem jVX11_isTerm : Cond.selects kX11_isTerm.1.cls kX11_isTerm.1 kX11_isTerm.1 ∈ ax_tb := (ax_in0 (i := 37) rfl rfl)
theorem jX11_table : ax_J kX11_table 1 := ⟨(ax_in1_5 (i := 194) rfl rfl), (ax_in1_1 (i := 12) rfl rfl), ⟨by decide +kernel, by decide +kernel, by decide +kernel⟩, by decide +kernel, by decide⟩
theorem jIX11_table : Cond.instanceMethod kX11_table.1 ∈ ax_tb := (ax_in1_5 (i := 192) rfl rfl)
theorem jVX11_table : Cond.selects kX11_table.1.cls kX11_table.1 kX11_table.1 ∈ ax_tb := (ax_in1_5 (i := 193) rfl rfl)
theorem jX11_writes : ax_J kX11_writes 2 := ⟨(ax_in1_5 (i := 217) rfl rfl), (ax_in1_1 (i := 12) rfl rfl), ⟨by decide +kernel, by decide +kernel, by decide +kernel⟩, by decide +kernel, by decide⟩
theorem jIX11_writes : Cond.instanceMethod kX11_writes.1 ∈ ax_tb := (ax_in1_5 (i := 216) rfl rfl)
theorem jVX11_writes : Cond.selects kX11_writes.1.cls kX11_writes.1 kX11_writes.1 ∈ ax_tb := (ax_in0 (i := 39) rfl rfl)
theorem jX11_write : ax_J kX11_write 1 := ⟨(ax_in1_5 (i := 213) rfl rfl), (ax_in1_1 (i := 12) rfl rfl), ⟨by decide +kernel, by decide +kernel, by decide +kernel⟩, by decide +kernel, by decide⟩
theorem jIX11_write : Cond.instanceMethod kX11_write.1 ∈ ax_tb := (ax_in1_5 (i := 211) rfl rfl)
theorem jVX11_write : Cond.selects kX11_write.1.cls kX11_write.1 kX11_write.1 ∈ ax_tb := (ax_in1_5 (i := 212) rfl rfl)
theorem jX11_paper : ax_J kX11_paper 1 := ⟨(ax_in1_5 (i := 221) rfl rfl), (ax_in1_1 (i := 12) rfl rfl), ⟨by decide +kernel, by decide +kernel, by decide +kernel⟩, by decide +kernel, by decide⟩
theorem jIX11_paper : Cond.instanceMethod kX11_paper.1 ∈ ax_tb := (ax_in1_5 (i := 219) rfl rfl)
theorem jVX11_paper : Cond.selects kX11_paper.1.cls kX11_paper.1 kX11_paper.1 ∈ ax_tb := (ax_in1_5 (i := 220) rfl rfl)
theorem jX11_isList : ax_J kX11_isList 1 := ⟨(ax_in1_5 (i := 228) rfl rfl), (ax_in1_1 (i := 12) rfl rfl), ⟨by decide +kernel, by decide +kernel, by decide +kernel⟩, by decide +kernel, by decide⟩
theorem jSX11_isList : Cond.static kX11_isList.1 ∈ ax_tb := (ax_in1_5 (i := 227) rfl rfl)
theorem jX11_judge : ax_J kX11_judge 3 := ⟨(ax_in1_5 (i := 225) rfl rfl), (ax_in1_1 (i := 12) rfl rfl), ⟨by decide +kernel, by decide +kernel, by decide +kernel⟩, by decide +kernel, by decide⟩
theorem jIX11_judge : Cond.instanceMethod kX11_judge.1 ∈ ax_tb := (ax_in1_5 (i := 223) rfl rfl)
theorem jVX11_judge : Cond.selects kX11_judge.1.cls kX11_judge.1 kX11_judge.1 ∈ ax_tb := (ax_in1_5 (i := 224) rfl rfl)
theorem jX11_list : ax_J kX11_list 2 := ⟨(ax_in1_5 (i := 232) rfl rfl), (ax_in1_1 (i := 12) rfl rfl), ⟨by decide +kernel, by decide +kernel, by decide +kernel⟩, by decide +kernel, by decide⟩
theorem jIX11_list : Cond.instanceMethod kX11_list.1 ∈ ax_tb := (ax_in1_5 (i := 230) rfl rfl)
theorem jVX11_list : Cond.selects kX11_list.1.cls kX11_list.1 kX11_list.1 ∈ ax_tb := (ax_in1_5 (i := 231) rfl rfl)
theorem jX11_put : ax_J kX11_put 3 := ⟨(ax_in1_5 (i := 236) rfl rfl), (ax_in1_1 (i := 12) rfl rfl), ⟨by decide +kernel, by decide +kernel, by decide +kernel⟩, by decide +kernel, by decide⟩
theorem jIX11_put : Cond.instanceMethod kX11_put.1 ∈ ax_tb := (ax_in1_5 (i := 234) rfl rfl)
theorem jVX11_put : Cond.selects kX11_put.1.cls kX11_put.1 kX11_put.1 ∈ ax_tb := (ax_in1_5 (i := 235) rfl rfl)
theorem jX11_get : ax_J kX11_get 2 := ⟨(ax_in1_6 (i := 0) rfl rfl), (ax_in1_1 (i := 12) rfl rfl), ⟨by decide +kernel, by decide +kernel, by decide +kernel⟩, by decide +kernel, by decide⟩
theorem jIX11_get : Cond.instanceMethod kX11_get.1 ∈ ax_tb := (ax_in1_5 (i := 238) rfl rfl)
theorem jVX11_get : Cond.selects kX11_get.1.cls kX11_get.1 kX11_get.1 ∈ ax_tb := (ax_in1_5 (i := 239) rfl rfl)
theorem jX11_image : ax_J kX11_image 0 := ⟨(ax_in1_6 (i := 4) rfl rfl), (ax_in1_1 (i := 12) rfl rfl), ⟨by decide +kernel, by decide +kernel, by decide +kernel⟩, by decide +kernel, by decide⟩
theorem jIX11_image : Cond.instanceMethod kX11_image.1 ∈ ax_tb := (ax_in1_6 (i := 2) rfl rfl)
theorem jVX11_image : Cond.selects kX11_image.1.cls kX11_image.1 kX11_image.1 ∈ ax_tb := (ax_in1_6 (i := 3) rfl rfl)
theorem jX11_undo : ax_J kX11_undo 0 := ⟨(ax_in1_6 (i := 8) rfl rfl), (ax_in1_1 (i := 12) rfl rfl), ⟨by decide +kernel, by decide +kernel, by decide +kernel⟩, by decide +kernel, by decide⟩
theorem jIX11_undo : Cond.instanceMethod kX11_undo.1 ∈ ax_tb := (ax_in1_6 (i := 6) rfl rfl)
theorem jVX11_undo : Cond.selects kX11_undo.1.cls kX11_undo.1 kX11_undo.1 ∈ ax_tb := (ax_in1_6 (i := 7) rfl rfl)
theorem jX11_count : ax_J kX11_count 1 := ⟨(ax_in1_6 (i := 12) rfl rfl), (ax_in1_1 (i := 12) rfl rfl), ⟨by decide +kernel, by decide +kernel, by decide +kernel⟩, by decide +kernel, by decide⟩
theorem jIX11_count : Cond.instanceMethod kX11_count.1 ∈ ax_tb := (ax_in1_6 (i := 10) rfl rfl)
theorem jVX11_count : Cond.selects kX11_count.1.cls kX11_count.1 kX11_count.1 ∈ ax_tb := (ax_in1_6 (i := 11) rfl rfl)
theorem jX0_init : ax_J kX0_init 0 := ⟨(ax_in1_1 (i := 210) rfl rfl), (ax_in1_1 (i := 10) rfl rfl), ⟨by decide +kernel, by decide +kernel, by decide +kernel⟩, by decide +kernel, by decide⟩
theorem jIX0_init : Cond.instanceMethod kX0_init.1 ∈ ax_tb := (ax_in1_1 (i := 209) rfl rfl)
theorem jX0_append : ax_J kX0_append 1 := ⟨(ax_in1_2 (i := 74) rfl rfl), (ax_in1_1 (i := 10) rfl rfl), ⟨by decide +kernel, by decide +kernel, by decide +kernel⟩, by decide +kernel, by decide⟩
theorem jIX0_append : Cond.instanceMethod kX0_append.1 ∈ ax_tb := (ax_in1_2 (i := 72) rfl rfl)
theorem jVX0_append : Cond.selects kX0_append.1.cls kX0_append.1 kX0_append.1 ∈ ax_tb := (ax_in1_2 (i := 73) rfl rfl)
theorem jX0_byteAt : ax_J kX0_byteAt 1 := ⟨(ax_in1_2 (i := 86) rfl rfl), (ax_in1_1 (i := 10) rfl rfl), ⟨by decide +kernel, by decide +kernel, by decide +kernel⟩, by decide +kernel, by decide⟩
theorem jIX0_byteAt : Cond.instanceMethod kX0_byteAt.1 ∈ ax_tb := (ax_in1_2 (i := 84) rfl rfl)
theorem jVX0_byteAt : Cond.selects kX0_byteAt.1.cls kX0_byteAt.1 kX0_byteAt.1 ∈ ax_tb := (ax_in1_2 (i := 85) rfl rfl)
theorem jX0_alikeFrom : ax_J kX0_alikeFrom 2 := ⟨(ax_in1_2 (i := 90) rfl rfl), (ax_in1_1 (i := 10) rfl rfl), ⟨by decide +kernel, by decide +kernel, by decide +kernel⟩, by decide +kernel, by decide⟩
theorem jIX0_alikeFrom : Cond.instanceMethod kX0_alikeFrom.1 ∈ ax_tb := (ax_in1_2 (i := 89) rfl rfl)
theorem jVX0_alikeFrom : Cond.selects kX0_alikeFrom.1.cls kX0_alikeFrom.1 kX0_alikeFrom.1 ∈ ax_tb := (ax_in0 (i := 0) rfl rfl)
theorem jX0_readTerms : ax_J kX0_readTerms 1 := ⟨(ax_in1_2 (i := 82) rfl rfl), (ax_in1_1 (i := 10) rfl rfl), ⟨by decide +kernel, by decide +kernel, by decide +kernel⟩, by decide +kernel, by decide⟩
theorem jIX0_readTerms : Cond.instanceMethod kX0_readTerms.1 ∈ ax_tb := (ax_in1_2 (i := 80) rfl rfl)
theorem jVX0_readTerms : Cond.selects kX0_readTerms.1.cls kX0_readTerms.1 kX0_readTerms.1 ∈ ax_tb := (ax_in1_2 (i := 81) rfl rfl)
theorem jX0_addTo : ax_J kX0_addTo 3 := ⟨(ax_in1_2 (i := 93) rfl rfl), (ax_in1_1 (i := 10) rfl rfl), ⟨by decide +kernel, by decide +kernel, by decide +kernel⟩, by decide +kernel, by decide⟩
theorem jSX0_addTo : Cond.static kX0_addTo.1 ∈ ax_tb := (ax_in1_2 (i := 92) rfl rfl)
theorem jX0_writeTerms : ax_J kX0_writeTerms 2 := ⟨(ax_in1_4 (i := 12) rfl rfl), (ax_in1_1 (i := 10) rfl rfl), ⟨by decide +kernel, by decide +kernel, by decide +kernel⟩, by decide +kernel, by decide⟩
theorem jIX0_writeTerms : Cond.instanceMethod kX0_writeTerms.1 ∈ ax_tb := (ax_in1_4 (i := 10) rfl rfl)
theorem jVX0_writeTerms : Cond.selects kX0_writeTerms.1.cls kX0_writeTerms.1 kX0_writeTerms.1 ∈ ax_tb := (ax_in1_4 (i := 11) rfl rfl)
theorem jX0_writeTerm : ax_J kX0_writeTerm 3 := ⟨(ax_in1_4 (i := 17) rfl rfl), (ax_in1_1 (i := 10) rfl rfl), ⟨by decide +kernel, by decide +kernel, by decide +kernel⟩, by decide +kernel, by decide⟩
theorem jIX0_writeTerm : Cond.instanceMethod kX0_writeTerm.1 ∈ ax_tb := (ax_in1_4 (i := 16) rfl rfl)
theorem jVX0_writeTerm : Cond.selects kX0_writeTerm.1.cls kX0_writeTerm.1 kX0_writeTerm.1 ∈ ax_tb := (ax_in0 (i := 17) rfl rfl)
theorem jX1_init : ax_J kX1_init 0 := ⟨(ax_in1_1 (i := 27) rfl rfl), (ax_in1_1 (i := 2) rfl rfl), ⟨by decide +kernel, by decide +kernel, by decide +kernel⟩, by decide +kernel, by decide⟩
theorem jIX1_init : Cond.instanceMethod kX1_init.1 ∈ ax_tb := (ax_in1_1 (i := 26) rfl rfl)
theorem jX1_change : ax_J kX1_change 4 := ⟨(ax_in1_2 (i := 58) rfl rfl), (ax_in1_1 (i := 2) rfl rfl), ⟨by decide +kernel, by decide +kernel, by decide +kernel⟩, by decide +kernel, by decide⟩
theorem jIX1_change : Cond.instanceMethod kX1_change.1 ∈ ax_tb := (ax_in1_2 (i := 56) rfl rfl)
theorem jVX1_change : Cond.selects kX1_change.1.cls kX1_change.1 kX1_change.1 ∈ ax_tb := (ax_in1_2 (i := 57) rfl rfl)
theorem jX1_changeAll : ax_J kX1_changeAll 2 := ⟨(ax_in1_2 (i := 103) rfl rfl), (ax_in1_1 (i := 2) rfl rfl), ⟨by decide +kernel, by decide +kernel, by decide +kernel⟩, by decide +kernel, by decide⟩
theorem jIX1_changeAll : Cond.instanceMethod kX1_changeAll.1 ∈ ax_tb := (ax_in1_2 (i := 101) rfl rfl)
theorem jVX1_changeAll : Cond.selects kX1_changeAll.1.cls kX1_changeAll.1 kX1_changeAll.1 ∈ ax_tb := (ax_in1_2 (i := 102) rfl rfl)
theorem jX1_changeBack : ax_J kX1_changeBack 1 := ⟨(ax_in1_4 (i := 89) rfl rfl), (ax_in1_1 (i := 2) rfl rfl), ⟨by decide +kernel, by decide +kernel, by decide +kernel⟩, by decide +kernel, by decide⟩
theorem jIX1_changeBack : Cond.instanceMethod kX1_changeBack.1 ∈ ax_tb := (ax_in1_4 (i := 87) rfl rfl)
theorem jVX1_changeBack : Cond.selects kX1_changeBack.1.cls kX1_changeBack.1 kX1_changeBack.1 ∈ ax_tb := (ax_in1_4 (i := 88) rfl rfl)
theorem jX1_learnRows : ax_J kX1_learnRows 0 := ⟨(ax_in1_2 (i := 157) rfl rfl), (ax_in1_1 (i := 2) rfl rfl), ⟨by decide +kernel, by decide +kernel, by decide +kernel⟩, by decide +kernel, by decide⟩
theorem jIX1_learnRows : Cond.instanceMethod kX1_learnRows.1 ∈ ax_tb := (ax_in1_2 (i := 156) rfl rfl)
theorem jVX1_learnRows : Cond.selects kX1_learnRows.1.cls kX1_learnRows.1 kX1_learnRows.1 ∈ ax_tb := (ax_in0 (i := 1) rfl rfl)
theorem jX1_knownRow : ax_J kX1_knownRow 3 := ⟨(ax_in1_2 (i := 167) rfl rfl), (ax_in1_1 (i := 2) rfl rfl), ⟨by decide +kernel, by decide +kernel, by decide +kernel⟩, by decide +kernel, by decide⟩
theorem jIX1_knownRow : Cond.instanceMethod kX1_knownRow.1 ∈ ax_tb := (ax_in1_2 (i := 166) rfl rfl)
theorem jVX1_knownRow : Cond.selects kX1_knownRow.1.cls kX1_knownRow.1 kX1_knownRow.1 ∈ ax_tb := (ax_in0 (i := 3) rfl rfl)
theorem jX1_rowOf : ax_J kX1_rowOf 3 := ⟨(ax_in1_2 (i := 176) rfl rfl), (ax_in1_1 (i := 2) rfl rfl), ⟨by decide +kernel, by decide +kernel, by decide +kernel⟩, by decide +kernel, by decide⟩
theorem jIX1_rowOf : Cond.instanceMethod kX1_rowOf.1 ∈ ax_tb := (ax_in1_2 (i := 174) rfl rfl)
theorem jVX1_rowOf : Cond.selects kX1_rowOf.1.cls kX1_rowOf.1 kX1_rowOf.1 ∈ ax_tb := (ax_in1_2 (i := 175) rfl rfl)
theorem jX1_pinchedLines : ax_J kX1_pinchedLines 1 := ⟨(ax_in1_2 (i := 184) rfl rfl), (ax_in1_1 (i := 2) rfl rfl), ⟨by decide +kernel, by decide +kernel, by decide +kernel⟩, by decide +kernel, by decide⟩
theorem jIX1_pinchedLines : Cond.instanceMethod kX1_pinchedLines.1 ∈ ax_tb := (ax_in1_2 (i := 182) rfl rfl)
theorem jVX1_pinchedLines : Cond.selects kX1_pinchedLines.1.cls kX1_pinchedLines.1 kX1_pinchedLines.1 ∈ ax_tb := (ax_in1_2 (i := 183) rfl rfl)
theorem jX1_swapOf : ax_J kX1_swapOf 3 := ⟨(ax_in1_2 (i := 153) rfl rfl), (ax_in1_1 (i := 2) rfl rfl), ⟨by decide +kernel, by decide +kernel, by decide +kernel⟩, by decide +kernel, by decide⟩
theorem jIX1_swapOf : Cond.instanceMethod kX1_swapOf.1 ∈ ax_tb := (ax_in1_2 (i := 151) rfl rfl)
theorem jVX1_swapOf : Cond.selects kX1_swapOf.1.cls kX1_swapOf.1 kX1_swapOf.1 ∈ ax_tb := (ax_in1_2 (i := 152) rfl rfl)
theorem jX1_knownSwap : ax_J kX1_knownSwap 3 := ⟨(ax_in1_2 (i := 163) rfl rfl), (ax_in1_1 (i := 2) rfl rfl), ⟨by decide +kernel, by decide +kernel, by decide +kernel⟩, by decide +kernel, by decide⟩
theorem jIX1_knownSwap : Cond.instanceMethod kX1_knownSwap.1 ∈ ax_tb := (ax_in1_2 (i := 162) rfl rfl)
theorem jVX1_knownSwap : Cond.selects kX1_knownSwap.1.cls kX1_knownSwap.1 kX1_knownSwap.1 ∈ ax_tb := (ax_in0 (i := 2) rfl rfl)
theorem jX1_stepFrom : ax_J kX1_stepFrom 1 := ⟨(ax_in1_2 (i := 205) rfl rfl), (ax_in1_1 (i := 2) rfl rfl), ⟨by decide +kernel, by decide +kernel, by decide +kernel⟩, by decide +kernel, by decide⟩
theorem jIX1_stepFrom : Cond.instanceMethod kX1_stepFrom.1 ∈ ax_tb := (ax_in1_2 (i := 203) rfl rfl)
theorem jVX1_stepFrom : Cond.selects kX1_stepFrom.1.cls kX1_stepFrom.1 kX1_stepFrom.1 ∈ ax_tb := (ax_in1_2 (i := 204) rfl rfl)
theorem jX1_stepBackFrom : ax_J kX1_stepBackFrom 1 := ⟨(ax_in1_2 (i := 197) rfl rfl), (ax_in1_1 (i := 2) rfl rfl), ⟨by decide +kernel, by decide +kernel, by decide +kernel⟩, by decide +kernel, by decide⟩
theorem jIX1_stepBackFrom : Cond.instanceMethod kX1_stepBackFrom.1 ∈ ax_tb := (ax_in1_2 (i := 195) rfl rfl)
theorem jVX1_stepBackFrom : Cond.selects kX1_stepBackFrom.1.cls kX1_stepBackFrom.1 kX1_stepBackFrom.1 ∈ ax_tb := (ax_in1_2 (i := 196) rfl rfl)
theorem jX1_walk : ax_J kX1_walk 2 := ⟨(ax_in1_2 (i := 201) rfl rfl), (ax_in1_1 (i := 2) rfl rfl), ⟨by decide +kernel, by decide +kernel, by decide +kernel⟩, by decide +kernel, by decide⟩
theorem jIX1_walk : Cond.instanceMethod kX1_walk.1 ∈ ax_tb := (ax_in1_2 (i := 199) rfl rfl)
theorem jVX1_walk : Cond.selects kX1_walk.1.cls kX1_walk.1 kX1_walk.1 ∈ ax_tb := (ax_in1_2 (i := 200) rfl rfl)
theorem jX1_walkBack : ax_J kX1_walkBack 2 := ⟨(ax_in1_2 (i := 193) rfl rfl), (ax_in1_1 (i := 2) rfl rfl), ⟨by decide +kernel, by decide +kernel, by decide +kernel⟩, by decide +kernel, by decide⟩
theorem jIX1_walkBack : Cond.instanceMethod kX1_walkBack.1 ∈ ax_tb := (ax_in1_2 (i := 191) rfl rfl)
theorem jVX1_walkBack : Cond.selects kX1_walkBack.1.cls kX1_walkBack.1 kX1_walkBack.1 ∈ ax_tb := (ax_in1_2 (i := 192) rfl rfl)
theorem jX1_periodOf : ax_J kX1_periodOf 1 := ⟨(ax_in1_2 (i := 213) rfl rfl), (ax_in1_1 (i := 2) rfl rfl), ⟨by decide +kernel, by decide +kernel, by decide +kernel⟩, by decide +kernel, by decide⟩
theorem jIX1_periodOf : Cond.instanceMethod kX1_periodOf.1 ∈ ax_tb := (ax_in1_2 (i := 211) rfl rfl)
theorem jVX1_periodOf : Cond.selects kX1_periodOf.1.cls kX1_periodOf.1 kX1_periodOf.1 ∈ ax_tb := (ax_in1_2 (i := 212) rfl rfl)
theorem jX1_learnKept : ax_J kX1_learnKept 0 := ⟨(ax_in1_2 (i := 225) rfl rfl), (ax_in1_1 (i := 2) rfl rfl), ⟨by decide +kernel, by decide +kernel, by decide +kernel⟩, by decide +kernel, by decide⟩
theorem jIX1_learnKept : Cond.instanceMethod kX1_learnKept.1 ∈ ax_tb := (ax_in1_2 (i := 224) rfl rfl)
theorem jVX1_learnKept : Cond.selects kX1_learnKept.1.cls kX1_learnKept.1 kX1_learnKept.1 ∈ ax_tb := (ax_in0 (i := 4) rfl rfl)
theorem jX1_keeps : ax_J kX1_keeps 2 := ⟨(ax_in1_3 (i := 23) rfl rfl), (ax_in1_1 (i := 2) rfl rfl), ⟨by decide +kernel, by decide +kernel, by decide +kernel⟩, by decide +kernel, by decide⟩
theorem jIX1_keeps : Cond.instanceMethod kX1_keeps.1 ∈ ax_tb := (ax_in1_3 (i := 21) rfl rfl)
theorem jVX1_keeps : Cond.selects kX1_keeps.1.cls kX1_keeps.1 kX1_keeps.1 ∈ ax_tb := (ax_in1_3 (i := 22) rfl rfl)
theorem jX1_spotWhereKept : ax_J kX1_spotWhereKept 2 := ⟨(ax_in1_2 (i := 221) rfl rfl), (ax_in1_1 (i := 2) rfl rfl), ⟨by decide +kernel, by decide +kernel, by decide +kernel⟩, by decide +kernel, by decide⟩
theorem jIX1_spotWhereKept : Cond.instanceMethod kX1_spotWhereKept.1 ∈ ax_tb := (ax_in1_2 (i := 219) rfl rfl)
theorem jVX1_spotWhereKept : Cond.selects kX1_spotWhereKept.1.cls kX1_spotWhereKept.1 kX1_spotWhereKept.1 ∈ ax_tb := (ax_in1_2 (i := 220) rfl rfl)
theorem jX1_ranked : ax_J kX1_ranked 1 := ⟨(ax_in1_2 (i := 238) rfl rfl), (ax_in1_1 (i := 2) rfl rfl), ⟨by decide +kernel, by decide +kernel, by decide +kernel⟩, by decide +kernel, by decide⟩
theorem jIX1_ranked : Cond.instanceMethod kX1_ranked.1 ∈ ax_tb := (ax_in1_2 (i := 236) rfl rfl)
theorem jVX1_ranked : Cond.selects kX1_ranked.1.cls kX1_ranked.1 kX1_ranked.1 ∈ ax_tb := (ax_in1_2 (i := 237) rfl rfl)
theorem jX1_reachOf : ax_J kX1_reachOf 2 := ⟨(ax_in1_3 (i := 180) rfl rfl), (ax_in1_1 (i := 2) rfl rfl), ⟨by decide +kernel, by decide +kernel, by decide +kernel⟩, by decide +kernel, by decide⟩
theorem jIX1_reachOf : Cond.instanceMethod kX1_reachOf.1 ∈ ax_tb := (ax_in1_3 (i := 178) rfl rfl)
theorem jVX1_reachOf : Cond.selects kX1_reachOf.1.cls kX1_reachOf.1 kX1_reachOf.1 ∈ ax_tb := (ax_in1_3 (i := 179) rfl rfl)
theorem jX1_reach : ax_J kX1_reach 2 := ⟨(ax_in1_3 (i := 185) rfl rfl), (ax_in1_1 (i := 2) rfl rfl), ⟨by decide +kernel, by decide +kernel, by decide +kernel⟩, by decide +kernel, by decide⟩
theorem jIX1_reach : Cond.instanceMethod kX1_reach.1 ∈ ax_tb := (ax_in1_3 (i := 184) rfl rfl)
theorem jVX1_reach : Cond.selects kX1_reach.1.cls kX1_reach.1 kX1_reach.1 ∈ ax_tb := (ax_in0 (i := 14) rfl rfl)
theorem jX2_init : ax_J kX2_init 0 := ⟨(ax_in1_1 (i := 100) rfl rfl), (ax_in1_1 (i := 5) rfl rfl), ⟨by decide +kernel, by decide +kernel, by decide +kernel⟩, by decide +kernel, by decide⟩
theorem jIX2_init : Cond.instanceMethod kX2_init.1 ∈ ax_tb := (ax_in1_1 (i := 99) rfl rfl)
theorem jX2_behindSteps : ax_J kX2_behindSteps 4 := ⟨(ax_in1_3 (i := 43) rfl rfl), (ax_in1_1 (i := 5) rfl rfl), ⟨by decide +kernel, by decide +kernel, by decide +kernel⟩, by decide +kernel, by decide⟩
theorem jIX2_behindSteps : Cond.instanceMethod kX2_behindSteps.1 ∈ ax_tb := (ax_in1_3 (i := 41) rfl rfl)
theorem jVX2_behindSteps : Cond.selects kX2_behindSteps.1.cls kX2_behindSteps.1 kX2_behindSteps.1 ∈ ax_tb := (ax_in1_3 (i := 42) rfl rfl)
theorem jX2_swaps : ax_J kX2_swaps 4 := ⟨(ax_in1_3 (i := 64) rfl rfl), (ax_in1_1 (i := 5) rfl rfl), ⟨by decide +kernel, by decide +kernel, by decide +kernel⟩, by decide +kernel, by decide⟩
theorem jIX2_swaps : Cond.instanceMethod kX2_swaps.1 ∈ ax_tb := (ax_in1_3 (i := 63) rfl rfl)
theorem jVX2_swaps : Cond.selects kX2_swaps.1.cls kX2_swaps.1 kX2_swaps.1 ∈ ax_tb := (ax_in0 (i := 9) rfl rfl)
theorem jX2_readSquares : ax_J kX2_readSquares 1 := ⟨(ax_in1_3 (i := 68) rfl rfl), (ax_in1_1 (i := 5) rfl rfl), ⟨by decide +kernel, by decide +kernel, by decide +kernel⟩, by decide +kernel, by decide⟩
theorem jIX2_readSquares : Cond.instanceMethod kX2_readSquares.1 ∈ ax_tb := (ax_in1_3 (i := 67) rfl rfl)
theorem jVX2_readSquares : Cond.selects kX2_readSquares.1.cls kX2_readSquares.1 kX2_readSquares.1 ∈ ax_tb := (ax_in0 (i := 10) rfl rfl)
theorem jX2_readRow : ax_J kX2_readRow 5 := ⟨(ax_in1_3 (i := 83) rfl rfl), (ax_in1_1 (i := 5) rfl rfl), ⟨by decide +kernel, by decide +kernel, by decide +kernel⟩, by decide +kernel, by decide⟩
theorem jIX2_readRow : Cond.instanceMethod kX2_readRow.1 ∈ ax_tb := (ax_in1_3 (i := 82) rfl rfl)
theorem jVX2_readRow : Cond.selects kX2_readRow.1.cls kX2_readRow.1 kX2_readRow.1 ∈ ax_tb := (ax_in0 (i := 11) rfl rfl)
theorem jX2_readCross : ax_J kX2_readCross 3 := ⟨(ax_in1_3 (i := 92) rfl rfl), (ax_in1_1 (i := 5) rfl rfl), ⟨by decide +kernel, by decide +kernel, by decide +kernel⟩, by decide +kernel, by decide⟩
theorem jIX2_readCross : Cond.instanceMethod kX2_readCross.1 ∈ ax_tb := (ax_in1_3 (i := 91) rfl rfl)
theorem jVX2_readCross : Cond.selects kX2_readCross.1.cls kX2_readCross.1 kX2_readCross.1 ∈ ax_tb := (ax_in0 (i := 12) rfl rfl)
theorem jX2_commonFactor : ax_J kX2_commonFactor 0 := ⟨(ax_in1_3 (i := 100) rfl rfl), (ax_in1_1 (i := 5) rfl rfl), ⟨by decide +kernel, by decide +kernel, by decide +kernel⟩, by decide +kernel, by decide⟩
theorem jIX2_commonFactor : Cond.instanceMethod kX2_commonFactor.1 ∈ ax_tb := (ax_in1_3 (i := 99) rfl rfl)
theorem jVX2_commonFactor : Cond.selects kX2_commonFactor.1.cls kX2_commonFactor.1 kX2_commonFactor.1 ∈ ax_tb := (ax_in0 (i := 13) rfl rfl)
theorem jX3_init : ax_J kX3_init 0 := ⟨(ax_in1_1 (i := 106) rfl rfl), (ax_in1_1 (i := 6) rfl rfl), ⟨by decide +kernel, by decide +kernel, by decide +kernel⟩, by decide +kernel, by decide⟩
theorem jIX3_init : Cond.instanceMethod kX3_init.1 ∈ ax_tb := (ax_in1_1 (i := 105) rfl rfl)
theorem jX3_ofDegree : ax_J kX3_ofDegree 0 := ⟨(ax_in1_3 (i := 116) rfl rfl), (ax_in1_1 (i := 6) rfl rfl), ⟨by decide +kernel, by decide +kernel, by decide +kernel⟩, by decide +kernel, by decide⟩
theorem jIX3_ofDegree : Cond.instanceMethod kX3_ofDegree.1 ∈ ax_tb := (ax_in1_3 (i := 114) rfl rfl)
theorem jVX3_ofDegree : Cond.selects kX3_ofDegree.1.cls kX3_ofDegree.1 kX3_ofDegree.1 ∈ ax_tb := (ax_in1_3 (i := 115) rfl rfl)
theorem jX4_init : ax_J kX4_init 0 := ⟨(ax_in1_1 (i := 224) rfl rfl), (ax_in1_1 (i := 11) rfl rfl), ⟨by decide +kernel, by decide +kernel, by decide +kernel⟩, by decide +kernel, by decide⟩
theorem jIX4_init : Cond.instanceMethod kX4_init.1 ∈ ax_tb := (ax_in1_1 (i := 223) rfl rfl)
theorem jX4_isList : ax_J kX4_isList 1 := ⟨(ax_in1_4 (i := 31) rfl rfl), (ax_in1_1 (i := 11) rfl rfl), ⟨by decide +kernel, by decide +kernel, by decide +kernel⟩, by decide +kernel, by decide⟩
theorem jIX4_isList : Cond.instanceMethod kX4_isList.1 ∈ ax_tb := (ax_in1_4 (i := 29) rfl rfl)
theorem jVX4_isList : Cond.selects kX4_isList.1.cls kX4_isList.1 kX4_isList.1 ∈ ax_tb := (ax_in1_4 (i := 30) rfl rfl)
theorem jX4_sizeOf : ax_J kX4_sizeOf 1 := ⟨(ax_in1_4 (i := 35) rfl rfl), (ax_in1_1 (i := 11) rfl rfl), ⟨by decide +kernel, by decide +kernel, by decide +kernel⟩, by decide +kernel, by decide⟩
theorem jIX4_sizeOf : Cond.instanceMethod kX4_sizeOf.1 ∈ ax_tb := (ax_in1_4 (i := 33) rfl rfl)
theorem jVX4_sizeOf : Cond.selects kX4_sizeOf.1.cls kX4_sizeOf.1 kX4_sizeOf.1 ∈ ax_tb := (ax_in1_4 (i := 34) rfl rfl)
theorem jX4_hasPlace : ax_J kX4_hasPlace 2 := ⟨(ax_in1_4 (i := 45) rfl rfl), (ax_in1_1 (i := 11) rfl rfl), ⟨by decide +kernel, by decide +kernel, by decide +kernel⟩, by decide +kernel, by decide⟩
theorem jIX4_hasPlace : Cond.instanceMethod kX4_hasPlace.1 ∈ ax_tb := (ax_in1_4 (i := 43) rfl rfl)
theorem jVX4_hasPlace : Cond.selects kX4_hasPlace.1.cls kX4_hasPlace.1 kX4_hasPlace.1 ∈ ax_tb := (ax_in1_4 (i := 44) rfl rfl)
theorem jX4_numberAt : ax_J kX4_numberAt 2 := ⟨(ax_in1_4 (i := 41) rfl rfl), (ax_in1_1 (i := 11) rfl rfl), ⟨by decide +kernel, by decide +kernel, by decide +kernel⟩, by decide +kernel, by decide⟩
theorem jIX4_numberAt : Cond.instanceMethod kX4_numberAt.1 ∈ ax_tb := (ax_in1_4 (i := 39) rfl rfl)
theorem jVX4_numberAt : Cond.selects kX4_numberAt.1.cls kX4_numberAt.1 kX4_numberAt.1 ∈ ax_tb := (ax_in1_4 (i := 40) rfl rfl)
theorem jX4_change : ax_J kX4_change 3 := ⟨(ax_in1_4 (i := 63) rfl rfl), (ax_in1_1 (i := 11) rfl rfl), ⟨by decide +kernel, by decide +kernel, by decide +kernel⟩, by decide +kernel, by decide⟩
theorem jIX4_change : Cond.instanceMethod kX4_change.1 ∈ ax_tb := (ax_in1_4 (i := 61) rfl rfl)
theorem jVX4_change : Cond.selects kX4_change.1.cls kX4_change.1 kX4_change.1 ∈ ax_tb := (ax_in1_4 (i := 62) rfl rfl)
theorem jX4_renew : ax_J kX4_renew 2 := ⟨(ax_in1_4 (i := 54) rfl rfl), (ax_in1_1 (i := 11) rfl rfl), ⟨by decide +kernel, by decide +kernel, by decide +kernel⟩, by decide +kernel, by decide⟩
theorem jIX4_renew : Cond.instanceMethod kX4_renew.1 ∈ ax_tb := (ax_in1_4 (i := 52) rfl rfl)
theorem jVX4_renew : Cond.selects kX4_renew.1.cls kX4_renew.1 kX4_renew.1 ∈ ax_tb := (ax_in1_4 (i := 53) rfl rfl)
theorem jX5_init : ax_J kX5_init 0 := ⟨(ax_in1_1 (i := 78) rfl rfl), (ax_in1_1 (i := 4) rfl rfl), ⟨by decide +kernel, by decide +kernel, by decide +kernel⟩, by decide +kernel, by decide⟩
theorem jIX5_init : Cond.instanceMethod kX5_init.1 ∈ ax_tb := (ax_in1_1 (i := 77) rfl rfl)
theorem jX5_learn : ax_J kX5_learn 1 := ⟨(ax_in1_3 (i := 6) rfl rfl), (ax_in1_1 (i := 4) rfl rfl), ⟨by decide +kernel, by decide +kernel, by decide +kernel⟩, by decide +kernel, by decide⟩
theorem jIX5_learn : Cond.instanceMethod kX5_learn.1 ∈ ax_tb := (ax_in1_3 (i := 4) rfl rfl)
theorem jVX5_learn : Cond.selects kX5_learn.1.cls kX5_learn.1 kX5_learn.1 ∈ ax_tb := (ax_in1_3 (i := 5) rfl rfl)
theorem jX5_isUnmarked : ax_J kX5_isUnmarked 1 := ⟨(ax_in1_3 (i := 10) rfl rfl), (ax_in1_1 (i := 4) rfl rfl), ⟨by decide +kernel, by decide +kernel, by decide +kernel⟩, by decide +kernel, by decide⟩
theorem jIX5_isUnmarked : Cond.instanceMethod kX5_isUnmarked.1 ∈ ax_tb := (ax_in1_3 (i := 9) rfl rfl)
theorem jVX5_isUnmarked : Cond.selects kX5_isUnmarked.1.cls kX5_isUnmarked.1 kX5_isUnmarked.1 ∈ ax_tb := (ax_in0 (i := 5) rfl rfl)
theorem jX5_goRound : ax_J kX5_goRound 2 := ⟨(ax_in1_3 (i := 15) rfl rfl), (ax_in1_1 (i := 4) rfl rfl), ⟨by decide +kernel, by decide +kernel, by decide +kernel⟩, by decide +kernel, by decide⟩
theorem jIX5_goRound : Cond.instanceMethod kX5_goRound.1 ∈ ax_tb := (ax_in1_3 (i := 14) rfl rfl)
theorem jVX5_goRound : Cond.selects kX5_goRound.1.cls kX5_goRound.1 kX5_goRound.1 ∈ ax_tb := (ax_in0 (i := 6) rfl rfl)
theorem jX5_countThrough : ax_J kX5_countThrough 2 := ⟨(ax_in1_3 (i := 19) rfl rfl), (ax_in1_1 (i := 4) rfl rfl), ⟨by decide +kernel, by decide +kernel, by decide +kernel⟩, by decide +kernel, by decide⟩
theorem jIX5_countThrough : Cond.instanceMethod kX5_countThrough.1 ∈ ax_tb := (ax_in1_3 (i := 17) rfl rfl)
theorem jVX5_countThrough : Cond.selects kX5_countThrough.1.cls kX5_countThrough.1 kX5_countThrough.1 ∈ ax_tb := (ax_in1_3 (i := 18) rfl rfl)
theorem jX5_tallyOne : ax_J kX5_tallyOne 1 := ⟨(ax_in1_3 (i := 27) rfl rfl), (ax_in1_1 (i := 4) rfl rfl), ⟨by decide +kernel, by decide +kernel, by decide +kernel⟩, by decide +kernel, by decide⟩
theorem jIX5_tallyOne : Cond.instanceMethod kX5_tallyOne.1 ∈ ax_tb := (ax_in1_3 (i := 26) rfl rfl)
theorem jVX5_tallyOne : Cond.selects kX5_tallyOne.1.cls kX5_tallyOne.1 kX5_tallyOne.1 ∈ ax_tb := (ax_in0 (i := 7) rfl rfl)
theorem jX5_total : ax_J kX5_total 1 := ⟨(ax_in1_3 (i := 31) rfl rfl), (ax_in1_1 (i := 4) rfl rfl), ⟨by decide +kernel, by decide +kernel, by decide +kernel⟩, by decide +kernel, by decide⟩
theorem jIX5_total : Cond.instanceMethod kX5_total.1 ∈ ax_tb := (ax_in1_3 (i := 29) rfl rfl)
theorem jVX5_total : Cond.selects kX5_total.1.cls kX5_total.1 kX5_total.1 ∈ ax_tb := (ax_in1_3 (i := 30) rfl rfl)
theorem jX5_ofLength : ax_J kX5_ofLength 1 := ⟨(ax_in1_3 (i := 35) rfl rfl), (ax_in1_1 (i := 4) rfl rfl), ⟨by decide +kernel, by decide +kernel, by decide +kernel⟩, by decide +kernel, by decide⟩
theorem jIX5_ofLength : Cond.instanceMethod kX5_ofLength.1 ∈ ax_tb := (ax_in1_3 (i := 33) rfl rfl)
theorem jVX5_ofLength : Cond.selects kX5_ofLength.1.cls kX5_ofLength.1 kX5_ofLength.1 ∈ ax_tb := (ax_in1_3 (i := 34) rfl rfl)
theorem jX6_init : ax_J kX6_init 0 := ⟨(ax_in1_1 (i := 193) rfl rfl), (ax_in1_1 (i := 9) rfl rfl), ⟨by decide +kernel, by decide +kernel, by decide +kernel⟩, by decide +kernel, by decide⟩
theorem jIX6_init : Cond.instanceMethod kX6_init.1 ∈ ax_tb := (ax_in1_1 (i := 192) rfl rfl)
theorem jX6_isFull : ax_J kX6_isFull 0 := ⟨(ax_in1_3 (i := 221) rfl rfl), (ax_in1_1 (i := 9) rfl rfl), ⟨by decide +kernel, by decide +kernel, by decide +kernel⟩, by decide +kernel, by decide⟩
theorem jIX6_isFull : Cond.instanceMethod kX6_isFull.1 ∈ ax_tb := (ax_in1_3 (i := 219) rfl rfl)
theorem jVX6_isFull : Cond.selects kX6_isFull.1.cls kX6_isFull.1 kX6_isFull.1 ∈ ax_tb := (ax_in1_3 (i := 220) rfl rfl)
theorem jX6_takes : ax_J kX6_takes 2 := ⟨(ax_in1_3 (i := 217) rfl rfl), (ax_in1_1 (i := 9) rfl rfl), ⟨by decide +kernel, by decide +kernel, by decide +kernel⟩, by decide +kernel, by decide⟩
theorem jIX6_takes : Cond.instanceMethod kX6_takes.1 ∈ ax_tb := (ax_in1_3 (i := 215) rfl rfl)
theorem jVX6_takes : Cond.selects kX6_takes.1.cls kX6_takes.1 kX6_takes.1 ∈ ax_tb := (ax_in1_3 (i := 216) rfl rfl)
theorem jX6_add : ax_J kX6_add 2 := ⟨(ax_in1_3 (i := 225) rfl rfl), (ax_in1_1 (i := 9) rfl rfl), ⟨by decide +kernel, by decide +kernel, by decide +kernel⟩, by decide +kernel, by decide⟩
theorem jIX6_add : Cond.instanceMethod kX6_add.1 ∈ ax_tb := (ax_in1_3 (i := 223) rfl rfl)
theorem jVX6_add : Cond.selects kX6_add.1.cls kX6_add.1 kX6_add.1 ∈ ax_tb := (ax_in1_3 (i := 224) rfl rfl)
theorem jX6_copyFrom : ax_J kX6_copyFrom 1 := ⟨(ax_in1_4 (i := 80) rfl rfl), (ax_in1_1 (i := 9) rfl rfl), ⟨by decide +kernel, by decide +kernel, by decide +kernel⟩, by decide +kernel, by decide⟩
theorem jIX6_copyFrom : Cond.instanceMethod kX6_copyFrom.1 ∈ ax_tb := (ax_in1_4 (i := 78) rfl rfl)
theorem jVX6_copyFrom : Cond.selects kX6_copyFrom.1.cls kX6_copyFrom.1 kX6_copyFrom.1 ∈ ax_tb := (ax_in1_4 (i := 79) rfl rfl)
theorem jX6_endOf : ax_J kX6_endOf 2 := ⟨(ax_in1_3 (i := 233) rfl rfl), (ax_in1_1 (i := 9) rfl rfl), ⟨by decide +kernel, by decide +kernel, by decide +kernel⟩, by decide +kernel, by decide⟩
theorem jIX6_endOf : Cond.instanceMethod kX6_endOf.1 ∈ ax_tb := (ax_in1_3 (i := 231) rfl rfl)
theorem jVX6_endOf : Cond.selects kX6_endOf.1.cls kX6_endOf.1 kX6_endOf.1 ∈ ax_tb := (ax_in1_3 (i := 232) rfl rfl)
theorem jX6_swappedIfItGoes : ax_J kX6_swappedIfItGoes 3 := ⟨(ax_in1_3 (i := 237) rfl rfl), (ax_in1_1 (i := 9) rfl rfl), ⟨by decide +kernel, by decide +kernel, by decide +kernel⟩, by decide +kernel, by decide⟩
theorem jIX6_swappedIfItGoes : Cond.instanceMethod kX6_swappedIfItGoes.1 ∈ ax_tb := (ax_in1_3 (i := 236) rfl rfl)
theorem jVX6_swappedIfItGoes : Cond.selects kX6_swappedIfItGoes.1.cls kX6_swappedIfItGoes.1 kX6_swappedIfItGoes.1 ∈ ax_tb := (ax_in0 (i := 15) rfl rfl)
theorem jX6_steppedAsFarAsItGoes : ax_J kX6_steppedAsFarAsItGoes 4 := ⟨(ax_in1_4 (i := 2) rfl rfl), (ax_in1_1 (i := 9) rfl rfl), ⟨by decide +kernel, by decide +kernel, by decide +kernel⟩, by decide +kernel, by decide⟩
theorem jIX6_steppedAsFarAsItGoes : Cond.instanceMethod kX6_steppedAsFarAsItGoes.1 ∈ ax_tb := (ax_in1_4 (i := 1) rfl rfl)
theorem jVX6_steppedAsFarAsItGoes : Cond.selects kX6_steppedAsFarAsItGoes.1.cls kX6_steppedAsFarAsItGoes.1 kX6_steppedAsFarAsItGoes.1 ∈ ax_tb := (ax_in0 (i := 16) rfl rfl)
theorem jX7_init : ax_J kX7_init 0 := ⟨(ax_in1_1 (i := 112) rfl rfl), (ax_in1_1 (i := 7) rfl rfl), ⟨by decide +kernel, by decide +kernel, by decide +kernel⟩, by decide +kernel, by decide⟩
theorem jIX7_init : Cond.instanceMethod kX7_init.1 ∈ ax_tb := (ax_in1_1 (i := 111) rfl rfl)
theorem jX7_isZero : ax_J kX7_isZero 0 := ⟨(ax_in1_3 (i := 96) rfl rfl), (ax_in1_1 (i := 7) rfl rfl), ⟨by decide +kernel, by decide +kernel, by decide +kernel⟩, by decide +kernel, by decide⟩
theorem jIX7_isZero : Cond.instanceMethod kX7_isZero.1 ∈ ax_tb := (ax_in1_3 (i := 94) rfl rfl)
theorem jVX7_isZero : Cond.selects kX7_isZero.1.cls kX7_isZero.1 kX7_isZero.1 ∈ ax_tb := (ax_in1_3 (i := 95) rfl rfl)
theorem jX7_clear : ax_J kX7_clear 0 := ⟨(ax_in1_3 (i := 51) rfl rfl), (ax_in1_1 (i := 7) rfl rfl), ⟨by decide +kernel, by decide +kernel, by decide +kernel⟩, by decide +kernel, by decide⟩
theorem jIX7_clear : Cond.instanceMethod kX7_clear.1 ∈ ax_tb := (ax_in1_3 (i := 49) rfl rfl)
theorem jVX7_clear : Cond.selects kX7_clear.1.cls kX7_clear.1 kX7_clear.1 ∈ ax_tb := (ax_in1_3 (i := 50) rfl rfl)
theorem jX7_becomeNumber : ax_J kX7_becomeNumber 1 := ⟨(ax_in1_3 (i := 55) rfl rfl), (ax_in1_1 (i := 7) rfl rfl), ⟨by decide +kernel, by decide +kernel, by decide +kernel⟩, by decide +kernel, by decide⟩
theorem jIX7_becomeNumber : Cond.instanceMethod kX7_becomeNumber.1 ∈ ax_tb := (ax_in1_3 (i := 53) rfl rfl)
theorem jVX7_becomeNumber : Cond.selects kX7_becomeNumber.1.cls kX7_becomeNumber.1 kX7_becomeNumber.1 ∈ ax_tb := (ax_in1_3 (i := 54) rfl rfl)
theorem jX7_becomeUnknown : ax_J kX7_becomeUnknown 0 := ⟨(ax_in1_3 (i := 47) rfl rfl), (ax_in1_1 (i := 7) rfl rfl), ⟨by decide +kernel, by decide +kernel, by decide +kernel⟩, by decide +kernel, by decide⟩
theorem jIX7_becomeUnknown : Cond.instanceMethod kX7_becomeUnknown.1 ∈ ax_tb := (ax_in1_3 (i := 45) rfl rfl)
theorem jVX7_becomeUnknown : Cond.selects kX7_becomeUnknown.1.cls kX7_becomeUnknown.1 kX7_becomeUnknown.1 ∈ ax_tb := (ax_in1_3 (i := 46) rfl rfl)
theorem jX7_copyFrom : ax_J kX7_copyFrom 1 := ⟨(ax_in1_3 (i := 104) rfl rfl), (ax_in1_1 (i := 7) rfl rfl), ⟨by decide +kernel, by decide +kernel, by decide +kernel⟩, by decide +kernel, by decide⟩
theorem jIX7_copyFrom : Cond.instanceMethod kX7_copyFrom.1 ∈ ax_tb := (ax_in1_3 (i := 102) rfl rfl)
theorem jVX7_copyFrom : Cond.selects kX7_copyFrom.1.cls kX7_copyFrom.1 kX7_copyFrom.1 ∈ ax_tb := (ax_in1_3 (i := 103) rfl rfl)
theorem jX7_trim : ax_J kX7_trim 1 := ⟨(ax_in1_3 (i := 60) rfl rfl), (ax_in1_1 (i := 7) rfl rfl), ⟨by decide +kernel, by decide +kernel, by decide +kernel⟩, by decide +kernel, by decide⟩
theorem jIX7_trim : Cond.instanceMethod kX7_trim.1 ∈ ax_tb := (ax_in1_3 (i := 59) rfl rfl)
theorem jVX7_trim : Cond.selects kX7_trim.1.cls kX7_trim.1 kX7_trim.1 ∈ ax_tb := (ax_in0 (i := 8) rfl rfl)
theorem jX7_addTimes : ax_J kX7_addTimes 2 := ⟨(ax_in1_3 (i := 88) rfl rfl), (ax_in1_1 (i := 7) rfl rfl), ⟨by decide +kernel, by decide +kernel, by decide +kernel⟩, by decide +kernel, by decide⟩
theorem jIX7_addTimes : Cond.instanceMethod kX7_addTimes.1 ∈ ax_tb := (ax_in1_3 (i := 86) rfl rfl)
theorem jVX7_addTimes : Cond.selects kX7_addTimes.1.cls kX7_addTimes.1 kX7_addTimes.1 ∈ ax_tb := (ax_in1_3 (i := 87) rfl rfl)
theorem jX7_addProduct : ax_J kX7_addProduct 3 := ⟨(ax_in1_3 (i := 73) rfl rfl), (ax_in1_1 (i := 7) rfl rfl), ⟨by decide +kernel, by decide +kernel, by decide +kernel⟩, by decide +kernel, by decide⟩
theorem jIX7_addProduct : Cond.instanceMethod kX7_addProduct.1 ∈ ax_tb := (ax_in1_3 (i := 71) rfl rfl)
theorem jVX7_addProduct : Cond.selects kX7_addProduct.1.cls kX7_addProduct.1 kX7_addProduct.1 ∈ ax_tb := (ax_in1_3 (i := 72) rfl rfl)
theorem jX7_divide : ax_J kX7_divide 2 := ⟨(ax_in1_3 (i := 111) rfl rfl), (ax_in1_1 (i := 7) rfl rfl), ⟨by decide +kernel, by decide +kernel, by decide +kernel⟩, by decide +kernel, by decide⟩
theorem jIX7_divide : Cond.instanceMethod kX7_divide.1 ∈ ax_tb := (ax_in1_3 (i := 109) rfl rfl)
theorem jVX7_divide : Cond.selects kX7_divide.1.cls kX7_divide.1 kX7_divide.1 ∈ ax_tb := (ax_in1_3 (i := 110) rfl rfl)
theorem jX8_init : ax_J kX8_init 0 := ⟨(ax_in1_1 (i := 178) rfl rfl), (ax_in1_1 (i := 8) rfl rfl), ⟨by decide +kernel, by decide +kernel, by decide +kernel⟩, by decide +kernel, by decide⟩
theorem jIX8_init : Cond.instanceMethod kX8_init.1 ∈ ax_tb := (ax_in1_1 (i := 177) rfl rfl)
theorem jX8_isFull : ax_J kX8_isFull 0 := ⟨(ax_in1_3 (i := 130) rfl rfl), (ax_in1_1 (i := 8) rfl rfl), ⟨by decide +kernel, by decide +kernel, by decide +kernel⟩, by decide +kernel, by decide⟩
theorem jIX8_isFull : Cond.instanceMethod kX8_isFull.1 ∈ ax_tb := (ax_in1_3 (i := 128) rfl rfl)
theorem jVX8_isFull : Cond.selects kX8_isFull.1.cls kX8_isFull.1 kX8_isFull.1 ∈ ax_tb := (ax_in1_3 (i := 129) rfl rfl)
theorem jX8_holds : ax_J kX8_holds 1 := ⟨(ax_in1_3 (i := 126) rfl rfl), (ax_in1_1 (i := 8) rfl rfl), ⟨by decide +kernel, by decide +kernel, by decide +kernel⟩, by decide +kernel, by decide⟩
theorem jIX8_holds : Cond.instanceMethod kX8_holds.1 ∈ ax_tb := (ax_in1_3 (i := 124) rfl rfl)
theorem jVX8_holds : Cond.selects kX8_holds.1.cls kX8_holds.1 kX8_holds.1 ∈ ax_tb := (ax_in1_3 (i := 125) rfl rfl)
theorem jX8_spotAt : ax_J kX8_spotAt 1 := ⟨(ax_in1_3 (i := 152) rfl rfl), (ax_in1_1 (i := 8) rfl rfl), ⟨by decide +kernel, by decide +kernel, by decide +kernel⟩, by decide +kernel, by decide⟩
theorem jIX8_spotAt : Cond.instanceMethod kX8_spotAt.1 ∈ ax_tb := (ax_in1_3 (i := 150) rfl rfl)
theorem jVX8_spotAt : Cond.selects kX8_spotAt.1.cls kX8_spotAt.1 kX8_spotAt.1 ∈ ax_tb := (ax_in1_3 (i := 151) rfl rfl)
theorem jX8_add : ax_J kX8_add 1 := ⟨(ax_in1_3 (i := 134) rfl rfl), (ax_in1_1 (i := 8) rfl rfl), ⟨by decide +kernel, by decide +kernel, by decide +kernel⟩, by decide +kernel, by decide⟩
theorem jIX8_add : Cond.instanceMethod kX8_add.1 ∈ ax_tb := (ax_in1_3 (i := 132) rfl rfl)
theorem jVX8_add : Cond.selects kX8_add.1.cls kX8_add.1 kX8_add.1 ∈ ax_tb := (ax_in1_3 (i := 133) rfl rfl)
theorem jX8_remove : ax_J kX8_remove 1 := ⟨(ax_in1_3 (i := 144) rfl rfl), (ax_in1_1 (i := 8) rfl rfl), ⟨by decide +kernel, by decide +kernel, by decide +kernel⟩, by decide +kernel, by decide⟩
theorem jIX8_remove : Cond.instanceMethod kX8_remove.1 ∈ ax_tb := (ax_in1_3 (i := 142) rfl rfl)
theorem jVX8_remove : Cond.selects kX8_remove.1.cls kX8_remove.1 kX8_remove.1 ∈ ax_tb := (ax_in1_3 (i := 143) rfl rfl)
theorem jX8_copyFrom : ax_J kX8_copyFrom 1 := ⟨(ax_in1_3 (i := 171) rfl rfl), (ax_in1_1 (i := 8) rfl rfl), ⟨by decide +kernel, by decide +kernel, by decide +kernel⟩, by decide +kernel, by decide⟩
theorem jIX8_copyFrom : Cond.instanceMethod kX8_copyFrom.1 ∈ ax_tb := (ax_in1_3 (i := 169) rfl rfl)
theorem jVX8_copyFrom : Cond.selects kX8_copyFrom.1.cls kX8_copyFrom.1 kX8_copyFrom.1 ∈ ax_tb := (ax_in1_3 (i := 170) rfl rfl)
theorem jX8_becomeSteps : ax_J kX8_becomeSteps 2 := ⟨(ax_in1_3 (i := 160) rfl rfl), (ax_in1_1 (i := 8) rfl rfl), ⟨by decide +kernel, by decide +kernel, by decide +kernel⟩, by decide +kernel, by decide⟩
theorem jIX8_becomeSteps : Cond.instanceMethod kX8_becomeSteps.1 ∈ ax_tb := (ax_in1_3 (i := 158) rfl rfl)
theorem jVX8_becomeSteps : Cond.selects kX8_becomeSteps.1.cls kX8_becomeSteps.1 kX8_becomeSteps.1 ∈ ax_tb := (ax_in1_3 (i := 159) rfl rfl)
theorem jX9_init : ax_J kX9_init 0 := ⟨(ax_in1_1 (i := 33) rfl rfl), (ax_in1_1 (i := 3) rfl rfl), ⟨by decide +kernel, by decide +kernel, by decide +kernel⟩, by decide +kernel, by decide⟩
theorem jIX9_init : Cond.instanceMethod kX9_init.1 ∈ ax_tb := (ax_in1_1 (i := 32) rfl rfl)
theorem jX9_numberAt : ax_J kX9_numberAt 3 := ⟨(ax_in1_2 (i := 54) rfl rfl), (ax_in1_1 (i := 3) rfl rfl), ⟨by decide +kernel, by decide +kernel, by decide +kernel⟩, by decide +kernel, by decide⟩
theorem jIX9_numberAt : Cond.instanceMethod kX9_numberAt.1 ∈ ax_tb := (ax_in1_2 (i := 52) rfl rfl)
theorem jVX9_numberAt : Cond.selects kX9_numberAt.1.cls kX9_numberAt.1 kX9_numberAt.1 ∈ ax_tb := (ax_in1_2 (i := 53) rfl rfl)
theorem jX9_change : ax_J kX9_change 4 := ⟨(ax_in1_2 (i := 62) rfl rfl), (ax_in1_1 (i := 3) rfl rfl), ⟨by decide +kernel, by decide +kernel, by decide +kernel⟩, by decide +kernel, by decide⟩
theorem jIX9_change : Cond.instanceMethod kX9_change.1 ∈ ax_tb := (ax_in1_2 (i := 60) rfl rfl)
theorem jVX9_change : Cond.selects kX9_change.1.cls kX9_change.1 kX9_change.1 ∈ ax_tb := (ax_in1_2 (i := 61) rfl rfl)
theorem jX9_copyFrom : ax_J kX9_copyFrom 1 := ⟨(ax_in1_4 (i := 75) rfl rfl), (ax_in1_1 (i := 3) rfl rfl), ⟨by decide +kernel, by decide +kernel, by decide +kernel⟩, by decide +kernel, by decide⟩
theorem jIX9_copyFrom : Cond.instanceMethod kX9_copyFrom.1 ∈ ax_tb := (ax_in1_4 (i := 73) rfl rfl)
theorem jVX9_copyFrom : Cond.selects kX9_copyFrom.1.cls kX9_copyFrom.1 kX9_copyFrom.1 ∈ ax_tb := (ax_in1_4 (i := 74) rfl rfl)
theorem jX9_notZero : ax_J kX9_notZero 0 := ⟨(ax_in1_4 (i := 98) rfl rfl), (ax_in1_1 (i := 3) rfl rfl), ⟨by decide +kernel, by decide +kernel, by decide +kernel⟩, by decide +kernel, by decide⟩
theorem jIX9_notZero : Cond.instanceMethod kX9_notZero.1 ∈ ax_tb := (ax_in1_4 (i := 96) rfl rfl)
theorem jVX9_notZero : Cond.selects kX9_notZero.1.cls kX9_notZero.1 kX9_notZero.1 ∈ ax_tb := (ax_in1_4 (i := 97) rfl rfl)
theorem jX9_numberAlong : ax_J kX9_numberAlong 4 := ⟨(ax_in1_2 (i := 125) rfl rfl), (ax_in1_1 (i := 3) rfl rfl), ⟨by decide +kernel, by decide +kernel, by decide +kernel⟩, by decide +kernel, by decide⟩
theorem jIX9_numberAlong : Cond.instanceMethod kX9_numberAlong.1 ∈ ax_tb := (ax_in1_2 (i := 123) rfl rfl)
theorem jVX9_numberAlong : Cond.selects kX9_numberAlong.1.cls kX9_numberAlong.1 kX9_numberAlong.1 ∈ ax_tb := (ax_in1_2 (i := 124) rfl rfl)
theorem jX9_sumAt : ax_J kX9_sumAt 4 := ⟨(ax_in1_2 (i := 121) rfl rfl), (ax_in1_1 (i := 3) rfl rfl), ⟨by decide +kernel, by decide +kernel, by decide +kernel⟩, by decide +kernel, by decide⟩
theorem jIX9_sumAt : Cond.instanceMethod kX9_sumAt.1 ∈ ax_tb := (ax_in1_2 (i := 119) rfl rfl)
theorem jVX9_sumAt : Cond.selects kX9_sumAt.1.cls kX9_sumAt.1 kX9_sumAt.1 ∈ ax_tb := (ax_in1_2 (i := 120) rfl rfl)
theorem jX9_valueAt : ax_J kX9_valueAt 3 := ⟨(ax_in1_2 (i := 117) rfl rfl), (ax_in1_1 (i := 3) rfl rfl), ⟨by decide +kernel, by decide +kernel, by decide +kernel⟩, by decide +kernel, by decide⟩
theorem jIX9_valueAt : Cond.instanceMethod kX9_valueAt.1 ∈ ax_tb := (ax_in1_2 (i := 115) rfl rfl)
theorem jVX9_valueAt : Cond.selects kX9_valueAt.1.cls kX9_valueAt.1 kX9_valueAt.1 ∈ ax_tb := (ax_in1_2 (i := 116) rfl rfl)
theorem jX9_quotientAt : ax_J kX9_quotientAt 2 := ⟨(ax_in1_2 (i := 136) rfl rfl), (ax_in1_1 (i := 3) rfl rfl), ⟨by decide +kernel, by decide +kernel, by decide +kernel⟩, by decide +kernel, by decide⟩
theorem jIX9_quotientAt : Cond.instanceMethod kX9_quotientAt.1 ∈ ax_tb := (ax_in1_2 (i := 134) rfl rfl)
theorem jVX9_quotientAt : Cond.selects kX9_quotientAt.1.cls kX9_quotientAt.1 kX9_quotientAt.1 ∈ ax_tb := (ax_in1_2 (i := 135) rfl rfl)
theorem jX9_numbersKeeping : ax_J kX9_numbersKeeping 6 := ⟨(ax_in1_3 (i := 193) rfl rfl), (ax_in1_1 (i := 3) rfl rfl), ⟨by decide +kernel, by decide +kernel, by decide +kernel⟩, by decide +kernel, by decide⟩
theorem jIX9_numbersKeeping : Cond.instanceMethod kX9_numbersKeeping.1 ∈ ax_tb := (ax_in1_3 (i := 191) rfl rfl)
theorem jVX9_numbersKeeping : Cond.selects kX9_numbersKeeping.1.cls kX9_numbersKeeping.1 kX9_numbersKeeping.1 ∈ ax_tb := (ax_in1_3 (i := 192) rfl rfl)
theorem jJ9_floorMod_7cf53 : ax_J kJ9_floorMod_7cf53 2 := ⟨(ax_in1_2 (i := 99) rfl rfl), (ax_in1_1 (i := 13) rfl rfl), ⟨by decide +kernel, by decide +kernel, by decide +kernel⟩, by decide +kernel, by decide⟩
theorem jSJ9_floorMod_7cf53 : Cond.static kJ9_floorMod_7cf53.1 ∈ ax_tb := (ax_in1_2 (i := 98) rfl rfl)
theorem jJ9_max_7cf53 : ax_J kJ9_max_7cf53 2 := ⟨(ax_in1_3 (i := 76) rfl rfl), (ax_in1_1 (i := 13) rfl rfl), ⟨by decide +kernel, by decide +kernel, by decide +kernel⟩, by decide +kernel, by decide⟩
theorem jSJ9_max_7cf53 : Cond.static kJ9_max_7cf53.1 ∈ ax_tb := (ax_in1_3 (i := 75) rfl rfl)
theorem jJ9_min_7cf53 : ax_J kJ9_min_7cf53 2 := ⟨(ax_in1_3 (i := 79) rfl rfl), (ax_in1_1 (i := 13) rfl rfl), ⟨by decide +kernel, by decide +kernel, by decide +kernel⟩, by decide +kernel, by decide⟩
theorem jSJ9_min_7cf53 : Cond.static kJ9_min_7cf53.1 ∈ ax_tb := (ax_in1_3 (i := 78) rfl rfl)
