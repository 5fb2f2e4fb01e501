theorem kt_0 : gKT[0]? = some (5, 11, 0, [(3, 1), (3, 94), (3, 23), (3, 27), (3, 31), (3, 42), (3, 47)]) := rfl
theorem kt_1 : gKT[1]? = some (5, 2, 0, [(0, 0), (3, 2), (3, 3), (3, 4), (3, 5), (3, 9), (3, 14), (3, 18)]) := rfl
theorem kt_2 : gKT[2]? = some (0, 6, 0, []) := rfl
theorem kt_3 : gKT[3]? = some (0, 6, 0, []) := rfl
theorem kt_4 : gKT[4]? = some (0, 6, 0, []) := rfl
theorem kt_5 : gKT[5]? = some (5, 3, 0, [(0, 0), (3, 6), (3, 7), (3, 8)]) := rfl
theorem kt_6 : gKT[6]? = some (0, 12, 0, []) := rfl
theorem kt_7 : gKT[7]? = some (0, 12, 0, []) := rfl
theorem kt_8 : gKT[8]? = some (0, 12, 0, []) := rfl
theorem kt_9 : gKT[9]? = some (5, 7, 0, [(0, 0), (3, 10), (3, 11), (3, 12), (3, 13)]) := rfl
theorem kt_10 : gKT[10]? = some (0, 3, 0, []) := rfl
theorem kt_11 : gKT[11]? = some (0, 3, 0, []) := rfl
theorem kt_12 : gKT[12]? = some (0, 3, 0, []) := rfl
theorem kt_13 : gKT[13]? = some (0, 3, 0, []) := rfl
theorem kt_14 : gKT[14]? = some (5, 1, 0, [(0, 0), (3, 15), (3, 16), (3, 17)]) := rfl
theorem kt_15 : gKT[15]? = some (0, 2, 0, []) := rfl
theorem kt_16 : gKT[16]? = some (0, 2, 0, []) := rfl
theorem kt_17 : gKT[17]? = some (0, 2, 0, []) := rfl
theorem kt_18 : gKT[18]? = some (5, 9, 0, [(0, 0), (3, 19), (3, 20), (3, 21), (3, 22)]) := rfl
theorem kt_19 : gKT[19]? = some (0, 3, 0, []) := rfl
theorem kt_20 : gKT[20]? = some (0, 3, 0, []) := rfl
theorem kt_21 : gKT[21]? = some (0, 3, 0, []) := rfl
theorem kt_22 : gKT[22]? = some (0, 3, 0, []) := rfl
theorem kt_23 : gKT[23]? = some (5, 8, 0, [(3, 1), (3, 94), (0, 0), (3, 24), (3, 25), (3, 26)]) := rfl
theorem kt_24 : gKT[24]? = some (0, 20, 0, []) := rfl
theorem kt_25 : gKT[25]? = some (2, 20, 0, []) := rfl
theorem kt_26 : gKT[26]? = some (0, 6, 0, []) := rfl
theorem kt_27 : gKT[27]? = some (5, 0, 0, [(3, 1), (3, 28), (3, 29), (3, 30)]) := rfl
theorem kt_28 : gKT[28]? = some (0, 6, 0, []) := rfl
theorem kt_29 : gKT[29]? = some (2, 6, 0, []) := rfl
theorem kt_30 : gKT[30]? = some (0, 6, 0, []) := rfl
theorem kt_31 : gKT[31]? = some (5, 10, 0, [(3, 1), (3, 132), (0, 0), (3, 32), (3, 33), (3, 34), (3, 35), (3, 36)]) := rfl
theorem kt_32 : gKT[32]? = some (0, 5, 0, []) := rfl
theorem kt_33 : gKT[33]? = some (0, 5, 0, []) := rfl
theorem kt_34 : gKT[34]? = some (0, 6, 0, []) := rfl
theorem kt_35 : gKT[35]? = some (0, 6, 0, []) := rfl
theorem kt_36 : gKT[36]? = some (3, 5, 37, []) := rfl
theorem kt_37 : gKT[37]? = some (0, 6, 0, []) := rfl
theorem kt_38 : gKT[38]? = some (0, 6, 0, []) := rfl
theorem kt_39 : gKT[39]? = some (0, 6, 0, []) := rfl
theorem kt_40 : gKT[40]? = some (0, 6, 0, []) := rfl
theorem kt_41 : gKT[41]? = some (0, 6, 0, []) := rfl
theorem kt_42 : gKT[42]? = some (5, 4, 0, [(3, 1), (3, 94), (0, 0), (3, 43), (0, 0), (0, 0), (0, 0), (3, 44), (3, 45), (3, 46), (0, 0)]) := rfl
theorem kt_43 : gKT[43]? = some (0, 200, 0, []) := rfl
theorem kt_44 : gKT[44]? = some (1, 201, 0, []) := rfl
theorem kt_45 : gKT[45]? = some (1, 201, 0, []) := rfl
theorem kt_46 : gKT[46]? = some (1, 201, 0, []) := rfl
theorem kt_47 : gKT[47]? = some (5, 5, 0, [(3, 1), (3, 94), (3, 42), (3, 48), (3, 49), (3, 50), (3, 51), (3, 52)]) := rfl
theorem kt_48 : gKT[48]? = some (0, 6, 0, []) := rfl
theorem kt_49 : gKT[49]? = some (0, 3, 0, []) := rfl
theorem kt_50 : gKT[50]? = some (0, 3, 0, []) := rfl
theorem kt_51 : gKT[51]? = some (0, 3, 0, []) := rfl
theorem kt_52 : gKT[52]? = some (0, 8, 0, []) := rfl
theorem kt_53 : gKT[53]? = some (5, 12, 0, [(0, 0), (0, 0), (3, 54), (3, 55), (3, 56), (0, 0), (3, 57), (3, 58), (3, 59), (0, 0), (3, 60), (3, 61), (3, 62), (3, 63), (0, 0), (3, 64), (3, 65), (3, 66), (0, 0), (3, 67), (3, 68), (3, 69), (3, 70), (3, 71), (2, 0), (0, 0), (3, 72), (3, 73), (3, 74), (3, 75), (3, 76), (0, 0), (3, 77), (3, 78), (3, 79), (3, 80), (3, 81), (0, 0), (3, 82), (3, 83), (3, 84), (3, 85), (3, 86), (3, 87), (0, 0), (3, 88), (3, 89), (3, 90), (3, 91), (3, 92), (0, 0), (0, 0), (0, 0), (3, 93)]) := rfl
theorem kt_54 : gKT[54]? = some (0, 6, 0, []) := rfl
theorem kt_55 : gKT[55]? = some (0, 6, 0, []) := rfl
theorem kt_56 : gKT[56]? = some (0, 6, 0, []) := rfl
theorem kt_57 : gKT[57]? = some (0, 12, 0, []) := rfl
theorem kt_58 : gKT[58]? = some (0, 12, 0, []) := rfl
theorem kt_59 : gKT[59]? = some (0, 12, 0, []) := rfl
theorem kt_60 : gKT[60]? = some (0, 3, 0, []) := rfl
theorem kt_61 : gKT[61]? = some (0, 3, 0, []) := rfl
theorem kt_62 : gKT[62]? = some (0, 3, 0, []) := rfl
theorem kt_63 : gKT[63]? = some (0, 3, 0, []) := rfl
theorem kt_64 : gKT[64]? = some (0, 2, 0, []) := rfl
theorem kt_65 : gKT[65]? = some (0, 2, 0, []) := rfl
theorem kt_66 : gKT[66]? = some (0, 2, 0, []) := rfl
theorem kt_67 : gKT[67]? = some (0, 3, 0, []) := rfl
theorem kt_68 : gKT[68]? = some (0, 3, 0, []) := rfl
theorem kt_69 : gKT[69]? = some (0, 3, 0, []) := rfl
theorem kt_70 : gKT[70]? = some (0, 3, 0, []) := rfl
theorem kt_71 : gKT[71]? = some (2, 6, 0, []) := rfl
theorem kt_72 : gKT[72]? = some (0, 12, 0, []) := rfl
theorem kt_73 : gKT[73]? = some (0, 3, 0, []) := rfl
theorem kt_74 : gKT[74]? = some (2, 36, 0, []) := rfl
theorem kt_75 : gKT[75]? = some (2, 6, 0, []) := rfl
theorem kt_76 : gKT[76]? = some (2, 36, 0, []) := rfl
theorem kt_77 : gKT[77]? = some (0, 20, 0, []) := rfl
theorem kt_78 : gKT[78]? = some (2, 20, 0, []) := rfl
theorem kt_79 : gKT[79]? = some (0, 6, 0, []) := rfl
theorem kt_80 : gKT[80]? = some (0, 6, 0, []) := rfl
theorem kt_81 : gKT[81]? = some (2, 6, 0, []) := rfl
theorem kt_82 : gKT[82]? = some (0, 5, 0, []) := rfl
theorem kt_83 : gKT[83]? = some (0, 5, 0, []) := rfl
theorem kt_84 : gKT[84]? = some (1, 6, 0, []) := rfl
theorem kt_85 : gKT[85]? = some (0, 6, 0, []) := rfl
theorem kt_86 : gKT[86]? = some (0, 6, 0, []) := rfl
theorem kt_87 : gKT[87]? = some (0, 30, 0, []) := rfl
theorem kt_88 : gKT[88]? = some (0, 200, 0, []) := rfl
theorem kt_89 : gKT[89]? = some (1, 201, 0, []) := rfl
theorem kt_90 : gKT[90]? = some (1, 201, 0, []) := rfl
theorem kt_91 : gKT[91]? = some (0, 201, 0, []) := rfl
theorem kt_92 : gKT[92]? = some (0, 6, 0, []) := rfl
theorem kt_93 : gKT[93]? = some (0, 6, 0, []) := rfl
theorem kt_94 : gKT[94]? = some (5, 6, 0, [(3, 1), (0, 0), (3, 95), (3, 96), (3, 97), (3, 98), (3, 99), (2, 0), (0, 0)]) := rfl
theorem kt_95 : gKT[95]? = some (0, 32, 0, []) := rfl
theorem kt_96 : gKT[96]? = some (4, 32, 100, []) := rfl
theorem kt_97 : gKT[97]? = some (2, 32, 0, []) := rfl
theorem kt_98 : gKT[98]? = some (2, 6, 0, []) := rfl
theorem kt_99 : gKT[99]? = some (2, 6, 0, []) := rfl
theorem kt_100 : gKT[100]? = some (2, 36, 0, []) := rfl
theorem kt_101 : gKT[101]? = some (2, 36, 0, []) := rfl
theorem kt_102 : gKT[102]? = some (2, 36, 0, []) := rfl
theorem kt_103 : gKT[103]? = some (2, 36, 0, []) := rfl
theorem kt_104 : gKT[104]? = some (2, 36, 0, []) := rfl
theorem kt_105 : gKT[105]? = some (2, 36, 0, []) := rfl
theorem kt_106 : gKT[106]? = some (2, 36, 0, []) := rfl
theorem kt_107 : gKT[107]? = some (2, 36, 0, []) := rfl
theorem kt_108 : gKT[108]? = some (2, 36, 0, []) := rfl
theorem kt_109 : gKT[109]? = some (2, 36, 0, []) := rfl
theorem kt_110 : gKT[110]? = some (2, 36, 0, []) := rfl
theorem kt_111 : gKT[111]? = some (2, 36, 0, []) := rfl
theorem kt_112 : gKT[112]? = some (2, 36, 0, []) := rfl
theorem kt_113 : gKT[113]? = some (2, 36, 0, []) := rfl
theorem kt_114 : gKT[114]? = some (2, 36, 0, []) := rfl
theorem kt_115 : gKT[115]? = some (2, 36, 0, []) := rfl
theorem kt_116 : gKT[116]? = some (2, 36, 0, []) := rfl
theorem kt_117 : gKT[117]? = some (2, 36, 0, []) := rfl
theorem kt_118 : gKT[118]? = some (2, 36, 0, []) := rfl
theorem kt_119 : gKT[119]? = some (2, 36, 0, []) := rfl
theorem kt_120 : gKT[120]? = some (2, 36, 0, []) := rfl
theorem kt_121 : gKT[121]? = some (2, 36, 0, []) := rfl
theorem kt_122 : gKT[122]? = some (2, 36, 0, []) := rfl
theorem kt_123 : gKT[123]? = some (2, 36, 0, []) := rfl
theorem kt_124 : gKT[124]? = some (2, 36, 0, []) := rfl
theorem kt_125 : gKT[125]? = some (2, 36, 0, []) := rfl
theorem kt_126 : gKT[126]? = some (2, 36, 0, []) := rfl
theorem kt_127 : gKT[127]? = some (2, 36, 0, []) := rfl
theorem kt_128 : gKT[128]? = some (2, 36, 0, []) := rfl
theorem kt_129 : gKT[129]? = some (2, 36, 0, []) := rfl
theorem kt_130 : gKT[130]? = some (2, 36, 0, []) := rfl
theorem kt_131 : gKT[131]? = some (2, 36, 0, []) := rfl
theorem kt_132 : gKT[132]? = some (5, 6, 0, [(3, 1), (0, 0), (3, 133), (3, 134), (3, 135), (3, 136), (3, 137), (2, 0), (0, 0)]) := rfl
theorem kt_133 : gKT[133]? = some (0, 1, 0, []) := rfl
theorem kt_134 : gKT[134]? = some (4, 1, 138, []) := rfl
theorem kt_135 : gKT[135]? = some (2, 1, 0, []) := rfl
theorem kt_136 : gKT[136]? = some (2, 6, 0, []) := rfl
theorem kt_137 : gKT[137]? = some (2, 6, 0, []) := rfl
theorem kt_138 : gKT[138]? = some (2, 36, 0, []) := rfl
theorem kt_gen {k t n b : Nat} {f : List (Nat × Nat)} (h : gKT[k]? = some (t, n, b, f)) : gKT[k]? = some (t, gLen k, b, f) := by
  unfold gLen
  rw [List.getD_eq_getElem?_getD, h]
  rfl
def gRt (t : Nat) : Prop := t = 94 ∨ t = 132
def gSl (t : Nat) : Nat := if t = 94 then 32 else 1
theorem gRt_A : gRt 94 := Or.inl rfl
theorem gRt_B : gRt 132 := Or.inr rfl
theorem ktR_0 {t : Nat} (h : gRt t) : gKT[t]? = some (5, 6, 0, [(3, 1), (0, 0), (3, t + 1), (3, t + 2), (3, t + 3), (3, t + 4), (3, t + 5), (2, 0), (0, 0)]) := by
  rcases h with rfl | rfl <;> rfl
theorem ktR_1 {t : Nat} (h : gRt t) : gKT[t + 1]? = some (0, gSl t, 0, []) := by
  rcases h with rfl | rfl <;> rfl
theorem ktR_2 {t : Nat} (h : gRt t) : gKT[t + 2]? = some (4, gSl t, t + 6, []) := by
  rcases h with rfl | rfl <;> rfl
theorem ktR_3 {t : Nat} (h : gRt t) : gKT[t + 3]? = some (2, gSl t, 0, []) := by
  rcases h with rfl | rfl <;> rfl
theorem ktR_4 {t : Nat} (h : gRt t) : gKT[t + 4]? = some (2, 6, 0, []) := by
  rcases h with rfl | rfl <;> rfl
theorem ktR_5 {t : Nat} (h : gRt t) : gKT[t + 5]? = some (2, 6, 0, []) := by
  rcases h with rfl | rfl <;> rfl
theorem ktR_row {t : Nat} (h : gRt t) {i ni : Int} (hn : ni = (gSl t : Int)) (hi : 0 ≤ i ∧ i < ni) : gKT[t + 6 + i.toNat]? = some (2, 36, 0, []) := by
  subst hn
  have key : ∀ a : Nat, a < 32 → gKT[94 + 6 + a]? = some (2, 36, 0, []) := fun a h => match a, h with
    | 0, _ => rfl
    | 1, _ => rfl
    | 2, _ => rfl
    | 3, _ => rfl
    | 4, _ => rfl
    | 5, _ => rfl
    | 6, _ => rfl
    | 7, _ => rfl
    | 8, _ => rfl
    | 9, _ => rfl
    | 10, _ => rfl
    | 11, _ => rfl
    | 12, _ => rfl
    | 13, _ => rfl
    | 14, _ => rfl
    | 15, _ => rfl
    | 16, _ => rfl
    | 17, _ => rfl
    | 18, _ => rfl
    | 19, _ => rfl
    | 20, _ => rfl
    | 21, _ => rfl
    | 22, _ => rfl
    | 23, _ => rfl
    | 24, _ => rfl
    | 25, _ => rfl
    | 26, _ => rfl
    | 27, _ => rfl
    | 28, _ => rfl
    | 29, _ => rfl
    | 30, _ => rfl
    | 31, _ => rfl
    | a + 32, h => absurd h (by omega)
  have key2 : ∀ a : Nat, a < 1 → gKT[132 + 6 + a]? = some (2, 36, 0, []) := fun a h => match a, h with
    | 0, _ => rfl
    | a + 1, h => absurd h (by omega)
  rcases h with rfl | rfl
  · exact key _ (by have h1 : gSl 94 = 32 := rfl; rw [h1] at hi; omega)
  · exact key2 _ (by have h1 : gSl 132 = 1 := rfl; rw [h1] at hi; omega)
theorem kt_mil {i ni : Int} (hn : ni = 5) (hi : 0 ≤ i ∧ i < ni) : gKT[37 + i.toNat]? = some (0, 6, 0, []) := by
  subst hn
  have key : ∀ a : Nat, a < 5 → gKT[37 + a]? = some (0, 6, 0, []) := fun a h => match a, h with
    | 0, _ => rfl
    | 1, _ => rfl
    | 2, _ => rfl
    | 3, _ => rfl
    | 4, _ => rfl
    | a + 5, h => absurd h (by omega)
  exact key _ (by omega)
theorem tb_1 {w : Cond} (h : w ∈ tables_1_1) : w ∈ lw_tbl := List.mem_append_right _ (List.mem_append_left _ h)
theorem tb_2 {w : Cond} (h : w ∈ tables_1_2) : w ∈ lw_tbl := List.mem_append_right _ (List.mem_append_right _ (List.mem_append_left _ h))
theorem tb_3 {w : Cond} (h : w ∈ tables_1_3) : w ∈ lw_tbl := List.mem_append_right _ (List.mem_append_right _ (List.mem_append_right _ (List.mem_append_left _ h)))
theorem tb_4 {w : Cond} (h : w ∈ tables_1_4) : w ∈ lw_tbl := List.mem_append_right _ (List.mem_append_right _ (List.mem_append_right _ (List.mem_append_right _ (List.mem_append_left _ h))))
theorem tb_5 {w : Cond} (h : w ∈ tables_1_5) : w ∈ lw_tbl := List.mem_append_right _ (List.mem_append_right _ (List.mem_append_right _ (List.mem_append_right _ (List.mem_append_right _ (List.mem_append_left _ h)))))
theorem tb_6 {w : Cond} (h : w ∈ tables_1_6) : w ∈ lw_tbl := List.mem_append_right _ (List.mem_append_right _ (List.mem_append_right _ (List.mem_append_right _ (List.mem_append_right _ (List.mem_append_right _ (List.mem_append_left _ h))))))
theorem tb_7 {w : Cond} (h : w ∈ tables_1_7) : w ∈ lw_tbl := List.mem_append_right _ (List.mem_append_right _ (List.mem_append_right _ (List.mem_append_right _ (List.mem_append_right _ (List.mem_append_right _ (List.mem_append_right _ (List.mem_append_left _ h)))))))
theorem tb_8 {w : Cond} (h : w ∈ tables_1_8) : w ∈ lw_tbl := List.mem_append_right _ (List.mem_append_right _ (List.mem_append_right _ (List.mem_append_right _ (List.mem_append_right _ (List.mem_append_right _ (List.mem_append_right _ (List.mem_append_right _ (h))))))))
theorem lkm_RL_9 : Cond.methodLink RL 9 yX11_init ∈ gT := gT_of (tb_1 (List.mem_of_getElem? (i := 20) rfl)) rfl
theorem lkm_RX11_9 : Cond.methodLinkNest RX11 9 yX2_init "GroundWaters" ∈ gT := gT_of (tb_1 (List.mem_of_getElem? (i := 28) rfl)) rfl
theorem lkm_RX2_27 : Cond.methodLinkNest RX2 27 yX3_init "GroundWaters" ∈ gT := gT_of (tb_1 (List.mem_of_getElem? (i := 34) rfl)) rfl
theorem lkf_RX3_9 : Cond.fieldLink RX3 9 "GroundWaters$Links" "size" "I" ∈ gT := gT_of (tb_1 (List.mem_of_getElem? (i := 38) rfl)) rfl
theorem lkf_RX8_40 : Cond.fieldLink RX8 40 "GroundWaters$Links" "size" "I" ∈ gT := gT_of (tb_1 (List.mem_of_getElem? (i := 39) rfl)) rfl
theorem lkf_RX11_93 : Cond.fieldLink RX11 93 "GroundWaters$Links" "size" "I" ∈ gT := gT_of (tb_1 (List.mem_of_getElem? (i := 40) rfl)) rfl
theorem lkf_RX0_72 : Cond.fieldLink RX0 72 "GroundWaters$Links" "size" "I" ∈ gT := gT_of (tb_1 (List.mem_of_getElem? (i := 41) rfl)) rfl
theorem lkf_RX6_142 : Cond.fieldLink RX6 142 "GroundWaters$Links" "size" "I" ∈ gT := gT_of (tb_1 (List.mem_of_getElem? (i := 42) rfl)) rfl
theorem lkf_RX3_15 : Cond.fieldLink RX3 15 "GroundWaters$Links" "from" "[I" ∈ gT := gT_of (tb_1 (List.mem_of_getElem? (i := 43) rfl)) rfl
theorem lkf_RX8_51 : Cond.fieldLink RX8 51 "GroundWaters$Links" "from" "[I" ∈ gT := gT_of (tb_1 (List.mem_of_getElem? (i := 44) rfl)) rfl
theorem lkf_RX0_122 : Cond.fieldLink RX0 122 "GroundWaters$Links" "from" "[I" ∈ gT := gT_of (tb_1 (List.mem_of_getElem? (i := 45) rfl)) rfl
theorem lkf_RX6_145 : Cond.fieldLink RX6 145 "GroundWaters$Links" "from" "[I" ∈ gT := gT_of (tb_1 (List.mem_of_getElem? (i := 46) rfl)) rfl
theorem lkf_RX3_19 : Cond.fieldLink RX3 19 "GroundWaters$Links" "to" "[I" ∈ gT := gT_of (tb_1 (List.mem_of_getElem? (i := 47) rfl)) rfl
theorem lkf_RX8_54 : Cond.fieldLink RX8 54 "GroundWaters$Links" "to" "[I" ∈ gT := gT_of (tb_1 (List.mem_of_getElem? (i := 48) rfl)) rfl
theorem lkf_RX0_125 : Cond.fieldLink RX0 125 "GroundWaters$Links" "to" "[I" ∈ gT := gT_of (tb_1 (List.mem_of_getElem? (i := 49) rfl)) rfl
theorem lkf_RX6_148 : Cond.fieldLink RX6 148 "GroundWaters$Links" "to" "[I" ∈ gT := gT_of (tb_1 (List.mem_of_getElem? (i := 50) rfl)) rfl
theorem lkf_RX3_22 : Cond.fieldLink RX3 22 "GroundWaters$Links" "ease" "[I" ∈ gT := gT_of (tb_1 (List.mem_of_getElem? (i := 51) rfl)) rfl
theorem lkf_RX10_71 : Cond.fieldLink RX10 71 "GroundWaters$Links" "ease" "[I" ∈ gT := gT_of (tb_1 (List.mem_of_getElem? (i := 52) rfl)) rfl
theorem lkf_RX0_128 : Cond.fieldLink RX0 128 "GroundWaters$Links" "ease" "[I" ∈ gT := gT_of (tb_1 (List.mem_of_getElem? (i := 53) rfl)) rfl
theorem lkf_RX11_138 : Cond.fieldLink RX11 138 "GroundWaters$Links" "ease" "[I" ∈ gT := gT_of (tb_1 (List.mem_of_getElem? (i := 54) rfl)) rfl
theorem lkf_RX6_151 : Cond.fieldLink RX6 151 "GroundWaters$Links" "ease" "[I" ∈ gT := gT_of (tb_1 (List.mem_of_getElem? (i := 55) rfl)) rfl
theorem lkm_RX2_34 : Cond.methodLinkNest RX2 34 yX7_init "GroundWaters" ∈ gT := gT_of (tb_1 (List.mem_of_getElem? (i := 68) rfl)) rfl
theorem lkf_RX7_9 : Cond.fieldLink RX7 9 "GroundWaters$Rivers" "size" "I" ∈ gT := gT_of (tb_1 (List.mem_of_getElem? (i := 72) rfl)) rfl
theorem lkf_RX8_65 : Cond.fieldLink RX8 65 "GroundWaters$Rivers" "size" "I" ∈ gT := gT_of (tb_1 (List.mem_of_getElem? (i := 73) rfl)) rfl
theorem lkf_RX6_83 : Cond.fieldLink RX6 83 "GroundWaters$Rivers" "size" "I" ∈ gT := gT_of (tb_1 (List.mem_of_getElem? (i := 74) rfl)) rfl
theorem lkf_RX11_105 : Cond.fieldLink RX11 105 "GroundWaters$Rivers" "size" "I" ∈ gT := gT_of (tb_1 (List.mem_of_getElem? (i := 75) rfl)) rfl
theorem lkf_RX2_62 : Cond.fieldLink RX2 62 "GroundWaters$Rivers" "size" "I" ∈ gT := gT_of (tb_1 (List.mem_of_getElem? (i := 76) rfl)) rfl
theorem lkf_RX0_59 : Cond.fieldLink RX0 59 "GroundWaters$Rivers" "size" "I" ∈ gT := gT_of (tb_1 (List.mem_of_getElem? (i := 77) rfl)) rfl
theorem lkf_RX7_15 : Cond.fieldLink RX7 15 "GroundWaters$Rivers" "at" "[I" ∈ gT := gT_of (tb_1 (List.mem_of_getElem? (i := 78) rfl)) rfl
theorem lkf_RX8_68 : Cond.fieldLink RX8 68 "GroundWaters$Rivers" "at" "[I" ∈ gT := gT_of (tb_1 (List.mem_of_getElem? (i := 79) rfl)) rfl
theorem lkf_RX6_88 : Cond.fieldLink RX6 88 "GroundWaters$Rivers" "at" "[I" ∈ gT := gT_of (tb_1 (List.mem_of_getElem? (i := 80) rfl)) rfl
theorem lkf_RX0_114 : Cond.fieldLink RX0 114 "GroundWaters$Rivers" "at" "[I" ∈ gT := gT_of (tb_1 (List.mem_of_getElem? (i := 81) rfl)) rfl
theorem lkf_RX7_19 : Cond.fieldLink RX7 19 "GroundWaters$Rivers" "stage" "[I" ∈ gT := gT_of (tb_1 (List.mem_of_getElem? (i := 82) rfl)) rfl
theorem lkf_RX0_116 : Cond.fieldLink RX0 116 "GroundWaters$Rivers" "stage" "[I" ∈ gT := gT_of (tb_1 (List.mem_of_getElem? (i := 83) rfl)) rfl
theorem lkf_RX6_112 : Cond.fieldLink RX6 112 "GroundWaters$Rivers" "stage" "[I" ∈ gT := gT_of (tb_1 (List.mem_of_getElem? (i := 84) rfl)) rfl
theorem lkf_RX11_152 : Cond.fieldLink RX11 152 "GroundWaters$Rivers" "stage" "[I" ∈ gT := gT_of (tb_1 (List.mem_of_getElem? (i := 85) rfl)) rfl
theorem lkf_RX7_22 : Cond.fieldLink RX7 22 "GroundWaters$Rivers" "bed" "[I" ∈ gT := gT_of (tb_1 (List.mem_of_getElem? (i := 86) rfl)) rfl
theorem lkf_RX6_95 : Cond.fieldLink RX6 95 "GroundWaters$Rivers" "bed" "[I" ∈ gT := gT_of (tb_1 (List.mem_of_getElem? (i := 87) rfl)) rfl
theorem lkf_RX0_119 : Cond.fieldLink RX0 119 "GroundWaters$Rivers" "bed" "[I" ∈ gT := gT_of (tb_1 (List.mem_of_getElem? (i := 88) rfl)) rfl
theorem lkf_RX11_149 : Cond.fieldLink RX11 149 "GroundWaters$Rivers" "bed" "[I" ∈ gT := gT_of (tb_1 (List.mem_of_getElem? (i := 89) rfl)) rfl
theorem lkf_RX7_25 : Cond.fieldLink RX7 25 "GroundWaters$Rivers" "ease" "[I" ∈ gT := gT_of (tb_1 (List.mem_of_getElem? (i := 90) rfl)) rfl
theorem lkf_RX0_115 : Cond.fieldLink RX0 115 "GroundWaters$Rivers" "ease" "[I" ∈ gT := gT_of (tb_1 (List.mem_of_getElem? (i := 91) rfl)) rfl
theorem lkf_RX6_115 : Cond.fieldLink RX6 115 "GroundWaters$Rivers" "ease" "[I" ∈ gT := gT_of (tb_1 (List.mem_of_getElem? (i := 92) rfl)) rfl
theorem lkm_RX2_41 : Cond.methodLinkNest RX2 41 yX1_init "GroundWaters" ∈ gT := gT_of (tb_1 (List.mem_of_getElem? (i := 106) rfl)) rfl
theorem lkf_RX1_9 : Cond.fieldLink RX1 9 "GroundWaters$Drains" "size" "I" ∈ gT := gT_of (tb_1 (List.mem_of_getElem? (i := 110) rfl)) rfl
theorem lkf_RX8_78 : Cond.fieldLink RX8 78 "GroundWaters$Drains" "size" "I" ∈ gT := gT_of (tb_1 (List.mem_of_getElem? (i := 111) rfl)) rfl
theorem lkf_RX6_102 : Cond.fieldLink RX6 102 "GroundWaters$Drains" "size" "I" ∈ gT := gT_of (tb_1 (List.mem_of_getElem? (i := 112) rfl)) rfl
theorem lkf_RX2_65 : Cond.fieldLink RX2 65 "GroundWaters$Drains" "size" "I" ∈ gT := gT_of (tb_1 (List.mem_of_getElem? (i := 113) rfl)) rfl
theorem lkf_RX11_115 : Cond.fieldLink RX11 115 "GroundWaters$Drains" "size" "I" ∈ gT := gT_of (tb_1 (List.mem_of_getElem? (i := 114) rfl)) rfl
theorem lkf_RX0_82 : Cond.fieldLink RX0 82 "GroundWaters$Drains" "size" "I" ∈ gT := gT_of (tb_1 (List.mem_of_getElem? (i := 115) rfl)) rfl
theorem lkf_RX1_15 : Cond.fieldLink RX1 15 "GroundWaters$Drains" "at" "[I" ∈ gT := gT_of (tb_1 (List.mem_of_getElem? (i := 116) rfl)) rfl
theorem lkf_RX8_81 : Cond.fieldLink RX8 81 "GroundWaters$Drains" "at" "[I" ∈ gT := gT_of (tb_1 (List.mem_of_getElem? (i := 117) rfl)) rfl
theorem lkf_RX6_105 : Cond.fieldLink RX6 105 "GroundWaters$Drains" "at" "[I" ∈ gT := gT_of (tb_1 (List.mem_of_getElem? (i := 118) rfl)) rfl
theorem lkf_RX0_85 : Cond.fieldLink RX0 85 "GroundWaters$Drains" "at" "[I" ∈ gT := gT_of (tb_1 (List.mem_of_getElem? (i := 119) rfl)) rfl
theorem lkf_RX1_19 : Cond.fieldLink RX1 19 "GroundWaters$Drains" "lies" "[I" ∈ gT := gT_of (tb_1 (List.mem_of_getElem? (i := 120) rfl)) rfl
theorem lkf_RX6_106 : Cond.fieldLink RX6 106 "GroundWaters$Drains" "lies" "[I" ∈ gT := gT_of (tb_1 (List.mem_of_getElem? (i := 121) rfl)) rfl
theorem lkf_RX0_88 : Cond.fieldLink RX0 88 "GroundWaters$Drains" "lies" "[I" ∈ gT := gT_of (tb_1 (List.mem_of_getElem? (i := 122) rfl)) rfl
theorem lkf_RX1_22 : Cond.fieldLink RX1 22 "GroundWaters$Drains" "ease" "[I" ∈ gT := gT_of (tb_1 (List.mem_of_getElem? (i := 123) rfl)) rfl
theorem lkf_RX0_97 : Cond.fieldLink RX0 97 "GroundWaters$Drains" "ease" "[I" ∈ gT := gT_of (tb_1 (List.mem_of_getElem? (i := 124) rfl)) rfl
theorem lkf_RX6_118 : Cond.fieldLink RX6 118 "GroundWaters$Drains" "ease" "[I" ∈ gT := gT_of (tb_1 (List.mem_of_getElem? (i := 125) rfl)) rfl
theorem lkm_RX2_48 : Cond.methodLinkNest RX2 48 yX9_init "GroundWaters" ∈ gT := gT_of (tb_1 (List.mem_of_getElem? (i := 137) rfl)) rfl
theorem lkf_RX9_9 : Cond.fieldLink RX9 9 "GroundWaters$Wells" "size" "I" ∈ gT := gT_of (tb_1 (List.mem_of_getElem? (i := 141) rfl)) rfl
theorem lkf_RX5_58 : Cond.fieldLink RX5 58 "GroundWaters$Wells" "size" "I" ∈ gT := gT_of (tb_1 (List.mem_of_getElem? (i := 142) rfl)) rfl
theorem lkf_RX8_89 : Cond.fieldLink RX8 89 "GroundWaters$Wells" "size" "I" ∈ gT := gT_of (tb_1 (List.mem_of_getElem? (i := 143) rfl)) rfl
theorem lkf_RX0_107 : Cond.fieldLink RX0 107 "GroundWaters$Wells" "size" "I" ∈ gT := gT_of (tb_1 (List.mem_of_getElem? (i := 144) rfl)) rfl
theorem lkf_RX11_123 : Cond.fieldLink RX11 123 "GroundWaters$Wells" "size" "I" ∈ gT := gT_of (tb_1 (List.mem_of_getElem? (i := 145) rfl)) rfl
theorem lkf_RX6_123 : Cond.fieldLink RX6 123 "GroundWaters$Wells" "size" "I" ∈ gT := gT_of (tb_1 (List.mem_of_getElem? (i := 146) rfl)) rfl
theorem lkf_RX9_15 : Cond.fieldLink RX9 15 "GroundWaters$Wells" "at" "[I" ∈ gT := gT_of (tb_1 (List.mem_of_getElem? (i := 147) rfl)) rfl
theorem lkf_RX8_92 : Cond.fieldLink RX8 92 "GroundWaters$Wells" "at" "[I" ∈ gT := gT_of (tb_1 (List.mem_of_getElem? (i := 148) rfl)) rfl
theorem lkf_RX0_110 : Cond.fieldLink RX0 110 "GroundWaters$Wells" "at" "[I" ∈ gT := gT_of (tb_1 (List.mem_of_getElem? (i := 149) rfl)) rfl
theorem lkf_RX6_126 : Cond.fieldLink RX6 126 "GroundWaters$Wells" "at" "[I" ∈ gT := gT_of (tb_1 (List.mem_of_getElem? (i := 150) rfl)) rfl
theorem lkf_RX9_19 : Cond.fieldLink RX9 19 "GroundWaters$Wells" "cap" "[I" ∈ gT := gT_of (tb_1 (List.mem_of_getElem? (i := 151) rfl)) rfl
theorem lkf_RX11_142 : Cond.fieldLink RX11 142 "GroundWaters$Wells" "cap" "[I" ∈ gT := gT_of (tb_1 (List.mem_of_getElem? (i := 152) rfl)) rfl
theorem lkf_RX9_22 : Cond.fieldLink RX9 22 "GroundWaters$Wells" "value" "[I" ∈ gT := gT_of (tb_1 (List.mem_of_getElem? (i := 153) rfl)) rfl
theorem lkf_RX5_89 : Cond.fieldLink RX5 89 "GroundWaters$Wells" "value" "[I" ∈ gT := gT_of (tb_1 (List.mem_of_getElem? (i := 154) rfl)) rfl
theorem lkf_RX9_25 : Cond.fieldLink RX9 25 "GroundWaters$Wells" "rate" "[I" ∈ gT := gT_of (tb_1 (List.mem_of_getElem? (i := 155) rfl)) rfl
theorem lkf_RX8_93 : Cond.fieldLink RX8 93 "GroundWaters$Wells" "rate" "[I" ∈ gT := gT_of (tb_1 (List.mem_of_getElem? (i := 156) rfl)) rfl
theorem lkf_RX0_111 : Cond.fieldLink RX0 111 "GroundWaters$Wells" "rate" "[I" ∈ gT := gT_of (tb_1 (List.mem_of_getElem? (i := 157) rfl)) rfl
theorem lkf_RX5_112 : Cond.fieldLink RX5 112 "GroundWaters$Wells" "rate" "[I" ∈ gT := gT_of (tb_1 (List.mem_of_getElem? (i := 158) rfl)) rfl
theorem lkf_RX10_85 : Cond.fieldLink RX10 85 "GroundWaters$Wells" "rate" "[I" ∈ gT := gT_of (tb_1 (List.mem_of_getElem? (i := 159) rfl)) rfl
theorem lkf_RX11_145 : Cond.fieldLink RX11 145 "GroundWaters$Wells" "rate" "[I" ∈ gT := gT_of (tb_1 (List.mem_of_getElem? (i := 160) rfl)) rfl
theorem lkf_RX2_9 : Cond.fieldLink RX2 9 "GroundWaters$Land" "cells" "I" ∈ gT := gT_of (tb_1 (List.mem_of_getElem? (i := 172) rfl)) rfl
theorem lkf_RX11_71 : Cond.fieldLink RX11 71 "GroundWaters$Land" "cells" "I" ∈ gT := gT_of (tb_1 (List.mem_of_getElem? (i := 173) rfl)) rfl
theorem lkf_RX6_58 : Cond.fieldLink RX6 58 "GroundWaters$Land" "cells" "I" ∈ gT := gT_of (tb_1 (List.mem_of_getElem? (i := 174) rfl)) rfl
theorem lkf_RX0_40 : Cond.fieldLink RX0 40 "GroundWaters$Land" "cells" "I" ∈ gT := gT_of (tb_1 (List.mem_of_getElem? (i := 175) rfl)) rfl
theorem lkf_RX10_58 : Cond.fieldLink RX10 58 "GroundWaters$Land" "cells" "I" ∈ gT := gT_of (tb_1 (List.mem_of_getElem? (i := 176) rfl)) rfl
theorem lkf_RX5_98 : Cond.fieldLink RX5 98 "GroundWaters$Land" "cells" "I" ∈ gT := gT_of (tb_1 (List.mem_of_getElem? (i := 177) rfl)) rfl
theorem lkf_RX8_152 : Cond.fieldLink RX8 152 "GroundWaters$Land" "cells" "I" ∈ gT := gT_of (tb_1 (List.mem_of_getElem? (i := 178) rfl)) rfl
theorem lkf_RX2_15 : Cond.fieldLink RX2 15 "GroundWaters$Land" "bottom" "[I" ∈ gT := gT_of (tb_1 (List.mem_of_getElem? (i := 179) rfl)) rfl
theorem lkf_RX0_37 : Cond.fieldLink RX0 37 "GroundWaters$Land" "bottom" "[I" ∈ gT := gT_of (tb_1 (List.mem_of_getElem? (i := 180) rfl)) rfl
theorem lkf_RX8_123 : Cond.fieldLink RX8 123 "GroundWaters$Land" "bottom" "[I" ∈ gT := gT_of (tb_1 (List.mem_of_getElem? (i := 181) rfl)) rfl
theorem lkf_RX6_159 : Cond.fieldLink RX6 159 "GroundWaters$Land" "bottom" "[I" ∈ gT := gT_of (tb_1 (List.mem_of_getElem? (i := 182) rfl)) rfl
theorem lkf_RX2_19 : Cond.fieldLink RX2 19 "GroundWaters$Land" "rain" "[I" ∈ gT := gT_of (tb_1 (List.mem_of_getElem? (i := 183) rfl)) rfl
theorem lkf_RX0_48 : Cond.fieldLink RX0 48 "GroundWaters$Land" "rain" "[I" ∈ gT := gT_of (tb_1 (List.mem_of_getElem? (i := 184) rfl)) rfl
theorem lkf_RX6_109 : Cond.fieldLink RX6 109 "GroundWaters$Land" "rain" "[I" ∈ gT := gT_of (tb_1 (List.mem_of_getElem? (i := 185) rfl)) rfl
theorem lkf_RX11_127 : Cond.fieldLink RX11 127 "GroundWaters$Land" "rain" "[I" ∈ gT := gT_of (tb_1 (List.mem_of_getElem? (i := 186) rfl)) rfl
theorem lkf_RX2_22 : Cond.fieldLink RX2 22 "GroundWaters$Land" "store" "[I" ∈ gT := gT_of (tb_1 (List.mem_of_getElem? (i := 187) rfl)) rfl
theorem lkf_RX0_32 : Cond.fieldLink RX0 32 "GroundWaters$Land" "store" "[I" ∈ gT := gT_of (tb_1 (List.mem_of_getElem? (i := 188) rfl)) rfl
theorem lkf_RX8_117 : Cond.fieldLink RX8 117 "GroundWaters$Land" "store" "[I" ∈ gT := gT_of (tb_1 (List.mem_of_getElem? (i := 189) rfl)) rfl
theorem lkf_RX2_28 : Cond.fieldLink RX2 28 "GroundWaters$Land" "links" "LGroundWaters$Links;" ∈ gT := gT_of (tb_1 (List.mem_of_getElem? (i := 190) rfl)) rfl
theorem lkf_RX8_34 : Cond.fieldLink RX8 34 "GroundWaters$Land" "links" "LGroundWaters$Links;" ∈ gT := gT_of (tb_1 (List.mem_of_getElem? (i := 191) rfl)) rfl
theorem lkf_RX11_89 : Cond.fieldLink RX11 89 "GroundWaters$Land" "links" "LGroundWaters$Links;" ∈ gT := gT_of (tb_1 (List.mem_of_getElem? (i := 192) rfl)) rfl
theorem lkf_RX0_68 : Cond.fieldLink RX0 68 "GroundWaters$Land" "links" "LGroundWaters$Links;" ∈ gT := gT_of (tb_1 (List.mem_of_getElem? (i := 193) rfl)) rfl
theorem lkf_RX10_67 : Cond.fieldLink RX10 67 "GroundWaters$Land" "links" "LGroundWaters$Links;" ∈ gT := gT_of (tb_1 (List.mem_of_getElem? (i := 194) rfl)) rfl
theorem lkf_RX6_138 : Cond.fieldLink RX6 138 "GroundWaters$Land" "links" "LGroundWaters$Links;" ∈ gT := gT_of (tb_1 (List.mem_of_getElem? (i := 195) rfl)) rfl
theorem lkf_RX4_103 : Cond.fieldLink RX4 103 "GroundWaters$Land" "links" "LGroundWaters$Links;" ∈ gT := gT_of (tb_1 (List.mem_of_getElem? (i := 196) rfl)) rfl
theorem lkf_RX2_35 : Cond.fieldLink RX2 35 "GroundWaters$Land" "rivers" "LGroundWaters$Rivers;" ∈ gT := gT_of (tb_1 (List.mem_of_getElem? (i := 197) rfl)) rfl
theorem lkf_RX8_61 : Cond.fieldLink RX8 61 "GroundWaters$Land" "rivers" "LGroundWaters$Rivers;" ∈ gT := gT_of (tb_1 (List.mem_of_getElem? (i := 198) rfl)) rfl
theorem lkf_RX6_79 : Cond.fieldLink RX6 79 "GroundWaters$Land" "rivers" "LGroundWaters$Rivers;" ∈ gT := gT_of (tb_1 (List.mem_of_getElem? (i := 199) rfl)) rfl
theorem lkf_RX11_101 : Cond.fieldLink RX11 101 "GroundWaters$Land" "rivers" "LGroundWaters$Rivers;" ∈ gT := gT_of (tb_1 (List.mem_of_getElem? (i := 200) rfl)) rfl
theorem lkf_RX0_55 : Cond.fieldLink RX0 55 "GroundWaters$Land" "rivers" "LGroundWaters$Rivers;" ∈ gT := gT_of (tb_1 (List.mem_of_getElem? (i := 201) rfl)) rfl
theorem lkf_RX4_89 : Cond.fieldLink RX4 89 "GroundWaters$Land" "rivers" "LGroundWaters$Rivers;" ∈ gT := gT_of (tb_1 (List.mem_of_getElem? (i := 202) rfl)) rfl
theorem lkf_RX2_42 : Cond.fieldLink RX2 42 "GroundWaters$Land" "drains" "LGroundWaters$Drains;" ∈ gT := gT_of (tb_1 (List.mem_of_getElem? (i := 203) rfl)) rfl
theorem lkf_RX8_74 : Cond.fieldLink RX8 74 "GroundWaters$Land" "drains" "LGroundWaters$Drains;" ∈ gT := gT_of (tb_1 (List.mem_of_getElem? (i := 204) rfl)) rfl
theorem lkf_RX6_98 : Cond.fieldLink RX6 98 "GroundWaters$Land" "drains" "LGroundWaters$Drains;" ∈ gT := gT_of (tb_1 (List.mem_of_getElem? (i := 205) rfl)) rfl
theorem lkf_RX11_111 : Cond.fieldLink RX11 111 "GroundWaters$Land" "drains" "LGroundWaters$Drains;" ∈ gT := gT_of (tb_1 (List.mem_of_getElem? (i := 206) rfl)) rfl
theorem lkf_RX0_78 : Cond.fieldLink RX0 78 "GroundWaters$Land" "drains" "LGroundWaters$Drains;" ∈ gT := gT_of (tb_1 (List.mem_of_getElem? (i := 207) rfl)) rfl
theorem lkf_RX4_96 : Cond.fieldLink RX4 96 "GroundWaters$Land" "drains" "LGroundWaters$Drains;" ∈ gT := gT_of (tb_1 (List.mem_of_getElem? (i := 208) rfl)) rfl
theorem lkf_RX2_49 : Cond.fieldLink RX2 49 "GroundWaters$Land" "wells" "LGroundWaters$Wells;" ∈ gT := gT_of (tb_1 (List.mem_of_getElem? (i := 209) rfl)) rfl
theorem lkf_RX5_52 : Cond.fieldLink RX5 52 "GroundWaters$Land" "wells" "LGroundWaters$Wells;" ∈ gT := gT_of (tb_1 (List.mem_of_getElem? (i := 210) rfl)) rfl
theorem lkf_RX8_85 : Cond.fieldLink RX8 85 "GroundWaters$Land" "wells" "LGroundWaters$Wells;" ∈ gT := gT_of (tb_1 (List.mem_of_getElem? (i := 211) rfl)) rfl
theorem lkf_RX0_103 : Cond.fieldLink RX0 103 "GroundWaters$Land" "wells" "LGroundWaters$Wells;" ∈ gT := gT_of (tb_1 (List.mem_of_getElem? (i := 212) rfl)) rfl
theorem lkf_RX11_119 : Cond.fieldLink RX11 119 "GroundWaters$Land" "wells" "LGroundWaters$Wells;" ∈ gT := gT_of (tb_1 (List.mem_of_getElem? (i := 213) rfl)) rfl
theorem lkf_RX6_119 : Cond.fieldLink RX6 119 "GroundWaters$Land" "wells" "LGroundWaters$Wells;" ∈ gT := gT_of (tb_1 (List.mem_of_getElem? (i := 214) rfl)) rfl
theorem lkf_RX10_81 : Cond.fieldLink RX10 81 "GroundWaters$Land" "wells" "LGroundWaters$Wells;" ∈ gT := gT_of (tb_1 (List.mem_of_getElem? (i := 215) rfl)) rfl
theorem lkf_RX4_80 : Cond.fieldLink RX4 80 "GroundWaters$Land" "wells" "LGroundWaters$Wells;" ∈ gT := gT_of (tb_1 (List.mem_of_getElem? (i := 216) rfl)) rfl
theorem lkm_RX11_18 : Cond.methodLink RX11 18 yX6_init ∈ gT := gT_of (tb_1 (List.mem_of_getElem? (i := 236) rfl)) rfl
theorem lkm_RX6_30 : Cond.methodLink RX6 30 yJ9_max_7cf53 ∈ gT := gT_of (tb_2 (List.mem_of_getElem? (i := 0) rfl)) rfl
theorem lkc_RX6_51 : Cond.constant RX6 51 (-10000009) ∈ gT := gT_of (tb_2 (List.mem_of_getElem? (i := 5) rfl)) rfl
theorem lkm_RX6_52 : Cond.methodLink RX6 52 yJ7_fill_53178 ∈ gT := gT_of (tb_2 (List.mem_of_getElem? (i := 6) rfl)) rfl
theorem lkf_RX6_26 : Cond.fieldLink RX6 26 "GroundWaters$Rest" "land" "LGroundWaters$Land;" ∈ gT := gT_of (tb_2 (List.mem_of_getElem? (i := 9) rfl)) rfl
theorem lkf_RX6_36 : Cond.fieldLink RX6 36 "GroundWaters$Rest" "slots" "I" ∈ gT := gT_of (tb_2 (List.mem_of_getElem? (i := 10) rfl)) rfl
theorem lkf_RX6_39 : Cond.fieldLink RX6 39 "GroundWaters$Rest" "patternIn" "[I" ∈ gT := gT_of (tb_2 (List.mem_of_getElem? (i := 11) rfl)) rfl
theorem lkf_RX6_45 : Cond.fieldLink RX6 45 "GroundWaters$Rest" "inverse" "[[J" ∈ gT := gT_of (tb_2 (List.mem_of_getElem? (i := 12) rfl)) rfl
theorem lkf_RX6_48 : Cond.fieldLink RX6 48 "GroundWaters$Rest" "determinant" "[J" ∈ gT := gT_of (tb_2 (List.mem_of_getElem? (i := 13) rfl)) rfl
theorem lkf_RX6_9 : Cond.fieldLink RX6 9 "GroundWaters$Rest" "sources" "[J" ∈ gT := gT_of (tb_2 (List.mem_of_getElem? (i := 14) rfl)) rfl
theorem lkf_RX6_15 : Cond.fieldLink RX6 15 "GroundWaters$Rest" "tops" "[J" ∈ gT := gT_of (tb_2 (List.mem_of_getElem? (i := 15) rfl)) rfl
theorem lkf_RX8_120 : Cond.fieldLink RX8 120 "GroundWaters$Rest" "tops" "[J" ∈ gT := gT_of (tb_2 (List.mem_of_getElem? (i := 16) rfl)) rfl
theorem lkf_RX11_167 : Cond.fieldLink RX11 167 "GroundWaters$Rest" "tops" "[J" ∈ gT := gT_of (tb_2 (List.mem_of_getElem? (i := 17) rfl)) rfl
theorem lkf_RX4_131 : Cond.fieldLink RX4 131 "GroundWaters$Rest" "tops" "[J" ∈ gT := gT_of (tb_2 (List.mem_of_getElem? (i := 18) rfl)) rfl
theorem lkf_RX6_18 : Cond.fieldLink RX6 18 "GroundWaters$Rest" "below" "J" ∈ gT := gT_of (tb_2 (List.mem_of_getElem? (i := 19) rfl)) rfl
theorem lkf_RX8_96 : Cond.fieldLink RX8 96 "GroundWaters$Rest" "below" "J" ∈ gT := gT_of (tb_2 (List.mem_of_getElem? (i := 20) rfl)) rfl
theorem lkf_RX11_171 : Cond.fieldLink RX11 171 "GroundWaters$Rest" "below" "J" ∈ gT := gT_of (tb_2 (List.mem_of_getElem? (i := 21) rfl)) rfl
theorem lkf_RX4_137 : Cond.fieldLink RX4 137 "GroundWaters$Rest" "below" "J" ∈ gT := gT_of (tb_2 (List.mem_of_getElem? (i := 22) rfl)) rfl
theorem lkf_RX6_22 : Cond.fieldLink RX6 22 "GroundWaters$Rest" "found" "I" ∈ gT := gT_of (tb_2 (List.mem_of_getElem? (i := 23) rfl)) rfl
theorem lkf_RX11_159 : Cond.fieldLink RX11 159 "GroundWaters$Rest" "found" "I" ∈ gT := gT_of (tb_2 (List.mem_of_getElem? (i := 24) rfl)) rfl
theorem lkm_RX11_27 : Cond.methodLink RX11 27 yX8_init ∈ gT := gT_of (tb_2 (List.mem_of_getElem? (i := 47) rfl)) rfl
theorem lkf_RX8_26 : Cond.fieldLink RX8 26 "GroundWaters$Ways" "land" "LGroundWaters$Land;" ∈ gT := gT_of (tb_2 (List.mem_of_getElem? (i := 51) rfl)) rfl
theorem lkf_RX8_30 : Cond.fieldLink RX8 30 "GroundWaters$Ways" "rest" "LGroundWaters$Rest;" ∈ gT := gT_of (tb_2 (List.mem_of_getElem? (i := 52) rfl)) rfl
theorem lkf_RX8_9 : Cond.fieldLink RX8 9 "GroundWaters$Ways" "outlets" "I" ∈ gT := gT_of (tb_2 (List.mem_of_getElem? (i := 53) rfl)) rfl
theorem lkf_RX11_218 : Cond.fieldLink RX11 218 "GroundWaters$Ways" "outlets" "I" ∈ gT := gT_of (tb_2 (List.mem_of_getElem? (i := 54) rfl)) rfl
theorem lkf_RX8_15 : Cond.fieldLink RX8 15 "GroundWaters$Ways" "target" "[I" ∈ gT := gT_of (tb_2 (List.mem_of_getElem? (i := 55) rfl)) rfl
theorem lkf_RX8_19 : Cond.fieldLink RX8 19 "GroundWaters$Ways" "flowTop" "[J" ∈ gT := gT_of (tb_2 (List.mem_of_getElem? (i := 56) rfl)) rfl
theorem lkf_RX8_23 : Cond.fieldLink RX8 23 "GroundWaters$Ways" "parts" "[I" ∈ gT := gT_of (tb_2 (List.mem_of_getElem? (i := 57) rfl)) rfl
theorem lkm_RX11_36 : Cond.methodLink RX11 36 yX0_init ∈ gT := gT_of (tb_2 (List.mem_of_getElem? (i := 73) rfl)) rfl
theorem lkf_RX0_22 : Cond.fieldLink RX0 22 "GroundWaters$Cups" "land" "LGroundWaters$Land;" ∈ gT := gT_of (tb_2 (List.mem_of_getElem? (i := 77) rfl)) rfl
theorem lkf_RX0_9 : Cond.fieldLink RX0 9 "GroundWaters$Cups" "held" "[I" ∈ gT := gT_of (tb_2 (List.mem_of_getElem? (i := 78) rfl)) rfl
theorem lkf_RX11_245 : Cond.fieldLink RX11 245 "GroundWaters$Cups" "held" "[I" ∈ gT := gT_of (tb_2 (List.mem_of_getElem? (i := 79) rfl)) rfl
theorem lkf_RX0_15 : Cond.fieldLink RX0 15 "GroundWaters$Cups" "books" "[J" ∈ gT := gT_of (tb_2 (List.mem_of_getElem? (i := 80) rfl)) rfl
theorem lkf_RX11_260 : Cond.fieldLink RX11 260 "GroundWaters$Cups" "books" "[J" ∈ gT := gT_of (tb_2 (List.mem_of_getElem? (i := 81) rfl)) rfl
theorem lkf_RX0_19 : Cond.fieldLink RX0 19 "GroundWaters$Cups" "marks" "[I" ∈ gT := gT_of (tb_2 (List.mem_of_getElem? (i := 82) rfl)) rfl
theorem lkm_RX11_45 : Cond.methodLink RX11 45 yX10_init ∈ gT := gT_of (tb_2 (List.mem_of_getElem? (i := 94) rfl)) rfl
theorem lkm_RX10_39 : Cond.methodLink RX10 39 yX6_init ∈ gT := gT_of (tb_2 (List.mem_of_getElem? (i := 101) rfl)) rfl
theorem lkm_RX10_46 : Cond.methodLink RX10 46 yJ7_fill_53178 ∈ gT := gT_of (tb_2 (List.mem_of_getElem? (i := 102) rfl)) rfl
theorem lkf_RX10_33 : Cond.fieldLink RX10 33 "GroundWaters$Worlds" "land" "LGroundWaters$Land;" ∈ gT := gT_of (tb_2 (List.mem_of_getElem? (i := 103) rfl)) rfl
theorem lkf_RX10_42 : Cond.fieldLink RX10 42 "GroundWaters$Worlds" "rest" "LGroundWaters$Rest;" ∈ gT := gT_of (tb_2 (List.mem_of_getElem? (i := 104) rfl)) rfl
theorem lkf_RX11_279 : Cond.fieldLink RX11 279 "GroundWaters$Worlds" "rest" "LGroundWaters$Rest;" ∈ gT := gT_of (tb_2 (List.mem_of_getElem? (i := 105) rfl)) rfl
theorem lkf_RX10_9 : Cond.fieldLink RX10 9 "GroundWaters$Worlds" "size" "I" ∈ gT := gT_of (tb_2 (List.mem_of_getElem? (i := 106) rfl)) rfl
theorem lkf_RX11_263 : Cond.fieldLink RX11 263 "GroundWaters$Worlds" "size" "I" ∈ gT := gT_of (tb_2 (List.mem_of_getElem? (i := 107) rfl)) rfl
theorem lkf_RX10_15 : Cond.fieldLink RX10 15 "GroundWaters$Worlds" "changed" "[I" ∈ gT := gT_of (tb_2 (List.mem_of_getElem? (i := 108) rfl)) rfl
theorem lkf_RX10_19 : Cond.fieldLink RX10 19 "GroundWaters$Worlds" "ease" "[I" ∈ gT := gT_of (tb_2 (List.mem_of_getElem? (i := 109) rfl)) rfl
theorem lkf_RX10_22 : Cond.fieldLink RX10 22 "GroundWaters$Worlds" "seen" "[I" ∈ gT := gT_of (tb_2 (List.mem_of_getElem? (i := 110) rfl)) rfl
theorem lkf_RX10_25 : Cond.fieldLink RX10 25 "GroundWaters$Worlds" "give" "[I" ∈ gT := gT_of (tb_2 (List.mem_of_getElem? (i := 111) rfl)) rfl
theorem lkf_RX10_30 : Cond.fieldLink RX10 30 "GroundWaters$Worlds" "millis" "[[I" ∈ gT := gT_of (tb_2 (List.mem_of_getElem? (i := 112) rfl)) rfl
theorem lkm_RX11_52 : Cond.methodLink RX11 52 yX4_init ∈ gT := gT_of (tb_2 (List.mem_of_getElem? (i := 132) rfl)) rfl
theorem lkf_RX4_41 : Cond.fieldLink RX4 41 "GroundWaters$Permit" "land" "LGroundWaters$Land;" ∈ gT := gT_of (tb_2 (List.mem_of_getElem? (i := 136) rfl)) rfl
theorem lkf_RX4_45 : Cond.fieldLink RX4 45 "GroundWaters$Permit" "rest" "LGroundWaters$Rest;" ∈ gT := gT_of (tb_2 (List.mem_of_getElem? (i := 137) rfl)) rfl
theorem lkf_RX4_9 : Cond.fieldLink RX4 9 "GroundWaters$Permit" "size" "I" ∈ gT := gT_of (tb_2 (List.mem_of_getElem? (i := 138) rfl)) rfl
theorem lkf_RX11_286 : Cond.fieldLink RX11 286 "GroundWaters$Permit" "size" "I" ∈ gT := gT_of (tb_2 (List.mem_of_getElem? (i := 139) rfl)) rfl
theorem lkf_RX4_15 : Cond.fieldLink RX4 15 "GroundWaters$Permit" "signs" "[I" ∈ gT := gT_of (tb_2 (List.mem_of_getElem? (i := 140) rfl)) rfl
theorem lkf_RX4_19 : Cond.fieldLink RX4 19 "GroundWaters$Permit" "depth" "I" ∈ gT := gT_of (tb_2 (List.mem_of_getElem? (i := 141) rfl)) rfl
theorem lkf_RX4_22 : Cond.fieldLink RX4 22 "GroundWaters$Permit" "digits" "I" ∈ gT := gT_of (tb_2 (List.mem_of_getElem? (i := 142) rfl)) rfl
theorem lkf_RX4_25 : Cond.fieldLink RX4 25 "GroundWaters$Permit" "letter" "I" ∈ gT := gT_of (tb_2 (List.mem_of_getElem? (i := 143) rfl)) rfl
theorem lkf_RX4_28 : Cond.fieldLink RX4 28 "GroundWaters$Permit" "any" "[Z" ∈ gT := gT_of (tb_2 (List.mem_of_getElem? (i := 144) rfl)) rfl
theorem lkf_RX4_32 : Cond.fieldLink RX4 32 "GroundWaters$Permit" "all" "[Z" ∈ gT := gT_of (tb_2 (List.mem_of_getElem? (i := 145) rfl)) rfl
theorem lkf_RX4_35 : Cond.fieldLink RX4 35 "GroundWaters$Permit" "not" "[Z" ∈ gT := gT_of (tb_2 (List.mem_of_getElem? (i := 146) rfl)) rfl
theorem lkf_RX4_38 : Cond.fieldLink RX4 38 "GroundWaters$Permit" "place" "I" ∈ gT := gT_of (tb_2 (List.mem_of_getElem? (i := 147) rfl)) rfl
theorem lkm_RX11_59 : Cond.methodLink RX11 59 yX5_init ∈ gT := gT_of (tb_2 (List.mem_of_getElem? (i := 174) rfl)) rfl
theorem lkc_RX5_39 : Cond.constant RX5 39 (-10000009) ∈ gT := gT_of (tb_2 (List.mem_of_getElem? (i := 178) rfl)) rfl
theorem lkm_RX5_40 : Cond.methodLink RX5 40 yJ7_fill_53178 ∈ gT := gT_of (tb_2 (List.mem_of_getElem? (i := 179) rfl)) rfl
theorem lkf_RX5_27 : Cond.fieldLink RX5 27 "GroundWaters$Plans" "land" "LGroundWaters$Land;" ∈ gT := gT_of (tb_2 (List.mem_of_getElem? (i := 180) rfl)) rfl
theorem lkf_RX5_31 : Cond.fieldLink RX5 31 "GroundWaters$Plans" "rest" "LGroundWaters$Rest;" ∈ gT := gT_of (tb_2 (List.mem_of_getElem? (i := 181) rfl)) rfl
theorem lkf_RX5_35 : Cond.fieldLink RX5 35 "GroundWaters$Plans" "permit" "LGroundWaters$Permit;" ∈ gT := gT_of (tb_2 (List.mem_of_getElem? (i := 182) rfl)) rfl
theorem lkf_RX5_9 : Cond.fieldLink RX5 9 "GroundWaters$Plans" "limits" "[I" ∈ gT := gT_of (tb_2 (List.mem_of_getElem? (i := 183) rfl)) rfl
theorem lkf_RX11_301 : Cond.fieldLink RX11 301 "GroundWaters$Plans" "limits" "[I" ∈ gT := gT_of (tb_2 (List.mem_of_getElem? (i := 184) rfl)) rfl
theorem lkf_RX5_15 : Cond.fieldLink RX5 15 "GroundWaters$Plans" "bestLevels" "[I" ∈ gT := gT_of (tb_2 (List.mem_of_getElem? (i := 185) rfl)) rfl
theorem lkf_RX11_307 : Cond.fieldLink RX11 307 "GroundWaters$Plans" "bestLevels" "[I" ∈ gT := gT_of (tb_2 (List.mem_of_getElem? (i := 186) rfl)) rfl
theorem lkf_RX5_18 : Cond.fieldLink RX5 18 "GroundWaters$Plans" "levels" "[I" ∈ gT := gT_of (tb_2 (List.mem_of_getElem? (i := 187) rfl)) rfl
theorem lkf_RX5_21 : Cond.fieldLink RX5 21 "GroundWaters$Plans" "rates" "[I" ∈ gT := gT_of (tb_2 (List.mem_of_getElem? (i := 188) rfl)) rfl
theorem lkf_RX5_24 : Cond.fieldLink RX5 24 "GroundWaters$Plans" "millis" "[I" ∈ gT := gT_of (tb_2 (List.mem_of_getElem? (i := 189) rfl)) rfl
theorem lkf_RX11_10 : Cond.fieldLink RX11 10 "GroundWaters" "land" "LGroundWaters$Land;" ∈ gT := gT_of (tb_2 (List.mem_of_getElem? (i := 207) rfl)) rfl
theorem lkf_RX11_21 : Cond.fieldLink RX11 21 "GroundWaters" "rest" "LGroundWaters$Rest;" ∈ gT := gT_of (tb_2 (List.mem_of_getElem? (i := 208) rfl)) rfl
theorem lkf_RX11_30 : Cond.fieldLink RX11 30 "GroundWaters" "ways" "LGroundWaters$Ways;" ∈ gT := gT_of (tb_2 (List.mem_of_getElem? (i := 209) rfl)) rfl
theorem lkf_RX11_39 : Cond.fieldLink RX11 39 "GroundWaters" "cups" "LGroundWaters$Cups;" ∈ gT := gT_of (tb_2 (List.mem_of_getElem? (i := 210) rfl)) rfl
theorem lkf_RX11_46 : Cond.fieldLink RX11 46 "GroundWaters" "worlds" "LGroundWaters$Worlds;" ∈ gT := gT_of (tb_2 (List.mem_of_getElem? (i := 211) rfl)) rfl
theorem lkf_RX11_53 : Cond.fieldLink RX11 53 "GroundWaters" "permit" "LGroundWaters$Permit;" ∈ gT := gT_of (tb_2 (List.mem_of_getElem? (i := 212) rfl)) rfl
theorem lkf_RX11_62 : Cond.fieldLink RX11 62 "GroundWaters" "plans" "LGroundWaters$Plans;" ∈ gT := gT_of (tb_2 (List.mem_of_getElem? (i := 213) rfl)) rfl
theorem lkm_RL_13 : Cond.methodLink RL 13 yX11_cell ∈ gT := gT_of (tb_2 (List.mem_of_getElem? (i := 229) rfl)) rfl
theorem lkm_RX11_66 : Cond.methodLink RX11 66 yX11_outside ∈ gT := gT_of (tb_2 (List.mem_of_getElem? (i := 233) rfl)) rfl
theorem lkc_RX11_70 : Cond.constant RX11 70 (-10000002) ∈ gT := gT_of (tb_2 (List.mem_of_getElem? (i := 236) rfl)) rfl
theorem lkc_RX11_75 : Cond.constant RX11 75 (-10000004) ∈ gT := gT_of (tb_2 (List.mem_of_getElem? (i := 237) rfl)) rfl
theorem lkm_RX11_76 : Cond.methodLink RX11 76 yX6_forget ∈ gT := gT_of (tb_2 (List.mem_of_getElem? (i := 238) rfl)) rfl
theorem lkm_RX11_79 : Cond.methodLink RX11 79 yX2_addCell ∈ gT := gT_of (tb_3 (List.mem_of_getElem? (i := 2) rfl)) rfl
theorem lkm_RL_18 : Cond.methodLink RL 18 yX11_link ∈ gT := gT_of (tb_3 (List.mem_of_getElem? (i := 6) rfl)) rfl
theorem lkm_RX11_83 : Cond.methodLink RX11 83 yX2_hasCell ∈ gT := gT_of (tb_3 (List.mem_of_getElem? (i := 10) rfl)) rfl
theorem lkc_RX11_87 : Cond.constant RX11 87 (-10000001) ∈ gT := gT_of (tb_3 (List.mem_of_getElem? (i := 14) rfl)) rfl
theorem lkc_RX11_88 : Cond.constant RX11 88 (-10000003) ∈ gT := gT_of (tb_3 (List.mem_of_getElem? (i := 15) rfl)) rfl
theorem lkm_RX11_98 : Cond.methodLink RX11 98 yX3_add ∈ gT := gT_of (tb_3 (List.mem_of_getElem? (i := 16) rfl)) rfl
theorem lkm_RL_22 : Cond.methodLink RL 22 yX11_river ∈ gT := gT_of (tb_3 (List.mem_of_getElem? (i := 20) rfl)) rfl
theorem lkm_RX11_108 : Cond.methodLink RX11 108 yX7_add ∈ gT := gT_of (tb_3 (List.mem_of_getElem? (i := 24) rfl)) rfl
theorem lkm_RL_27 : Cond.methodLink RL 27 yX11_drain ∈ gT := gT_of (tb_3 (List.mem_of_getElem? (i := 28) rfl)) rfl
theorem lkm_RX11_118 : Cond.methodLink RX11 118 yX1_add ∈ gT := gT_of (tb_3 (List.mem_of_getElem? (i := 32) rfl)) rfl
theorem lkm_RL_31 : Cond.methodLink RL 31 yX11_well ∈ gT := gT_of (tb_3 (List.mem_of_getElem? (i := 36) rfl)) rfl
theorem lkm_RX11_126 : Cond.methodLink RX11 126 yX9_add ∈ gT := gT_of (tb_3 (List.mem_of_getElem? (i := 40) rfl)) rfl
theorem lkm_RL_35 : Cond.methodLink RL 35 yX11_rain ∈ gT := gT_of (tb_3 (List.mem_of_getElem? (i := 44) rfl)) rfl
theorem lkm_RX11_131 : Cond.methodLink RX11 131 yX11_exchange ∈ gT := gT_of (tb_3 (List.mem_of_getElem? (i := 48) rfl)) rfl
theorem lkm_RL_40 : Cond.methodLink RL 40 yX11_ease ∈ gT := gT_of (tb_3 (List.mem_of_getElem? (i := 51) rfl)) rfl
theorem lkm_RX11_135 : Cond.methodLink RX11 135 yX3_has ∈ gT := gT_of (tb_3 (List.mem_of_getElem? (i := 55) rfl)) rfl
theorem lkm_RL_44 : Cond.methodLink RL 44 yX11_rate ∈ gT := gT_of (tb_3 (List.mem_of_getElem? (i := 59) rfl)) rfl
theorem lkm_RX11_141 : Cond.methodLink RX11 141 yX9_has ∈ gT := gT_of (tb_3 (List.mem_of_getElem? (i := 63) rfl)) rfl
theorem lkm_RL_48 : Cond.methodLink RL 48 yX11_stage ∈ gT := gT_of (tb_3 (List.mem_of_getElem? (i := 67) rfl)) rfl
theorem lkm_RX11_148 : Cond.methodLink RX11 148 yX7_has ∈ gT := gT_of (tb_3 (List.mem_of_getElem? (i := 71) rfl)) rfl
theorem lkm_RL_52 : Cond.methodLink RL 52 yX11_pattern ∈ gT := gT_of (tb_3 (List.mem_of_getElem? (i := 75) rfl)) rfl
theorem lkm_RX11_155 : Cond.methodLink RX11 155 yX11_atRest ∈ gT := gT_of (tb_3 (List.mem_of_getElem? (i := 79) rfl)) rfl
theorem lkm_RX11_325 : Cond.methodLink RX11 325 yX6_settle ∈ gT := gT_of (tb_3 (List.mem_of_getElem? (i := 83) rfl)) rfl
theorem lkm_RX6_63 : Cond.methodLink RX6 63 yX2_patternBits ∈ gT := gT_of (tb_3 (List.mem_of_getElem? (i := 87) rfl)) rfl
theorem lkm_RX6_67 : Cond.methodLink RX6 67 yX6_invert ∈ gT := gT_of (tb_3 (List.mem_of_getElem? (i := 91) rfl)) rfl
theorem lkm_RX6_127 : Cond.methodLink RX6 127 yX6_fillMatrix ∈ gT := gT_of (tb_3 (List.mem_of_getElem? (i := 95) rfl)) rfl
theorem lkm_RX6_135 : Cond.methodLink RX6 135 yJ7_fill_d0a16 ∈ gT := gT_of (tb_3 (List.mem_of_getElem? (i := 99) rfl)) rfl
theorem lkm_RX6_131 : Cond.methodLink RX6 131 yX6_eliminate ∈ gT := gT_of (tb_3 (List.mem_of_getElem? (i := 102) rfl)) rfl
theorem lkm_RX6_71 : Cond.methodLink RX6 71 yX6_gatherSources ∈ gT := gT_of (tb_3 (List.mem_of_getElem? (i := 106) rfl)) rfl
theorem lkm_RX6_75 : Cond.methodLink RX6 75 yX6_fits ∈ gT := gT_of (tb_3 (List.mem_of_getElem? (i := 110) rfl)) rfl
theorem lkm_RX6_91 : Cond.methodLink RX6 91 yX6_solve ∈ gT := gT_of (tb_3 (List.mem_of_getElem? (i := 114) rfl)) rfl
theorem lkc_RX11_162 : Cond.constant RX11 162 (-10000009) ∈ gT := gT_of (tb_3 (List.mem_of_getElem? (i := 118) rfl)) rfl
theorem lkm_RL_57 : Cond.methodLink RL 57 yX11_head ∈ gT := gT_of (tb_3 (List.mem_of_getElem? (i := 119) rfl)) rfl
theorem lkc_RX11_163 : Cond.constantLong RX11 163 (-10000001) ∈ gT := gT_of (tb_3 (List.mem_of_getElem? (i := 123) rfl)) rfl
theorem lkc_RX11_165 : Cond.constantLong RX11 165 (-10000003) ∈ gT := gT_of (tb_3 (List.mem_of_getElem? (i := 124) rfl)) rfl
theorem lkm_RX11_175 : Cond.methodLink RX11 175 yX11_leastTerm ∈ gT := gT_of (tb_3 (List.mem_of_getElem? (i := 125) rfl)) rfl
theorem lkm_RX11_336 : Cond.methodLink RX11 336 yJ9_abs_067f4 ∈ gT := gT_of (tb_3 (List.mem_of_getElem? (i := 128) rfl)) rfl
theorem lkm_RX11_340 : Cond.methodLink RX11 340 yX11_commonDivisor ∈ gT := gT_of (tb_3 (List.mem_of_getElem? (i := 131) rfl)) rfl
theorem lkm_RL_62 : Cond.methodLink RL 62 yX11_milli ∈ gT := gT_of (tb_3 (List.mem_of_getElem? (i := 134) rfl)) rfl
theorem lkm_RX11_179 : Cond.methodLink RX11 179 yX6_headMilli ∈ gT := gT_of (tb_3 (List.mem_of_getElem? (i := 138) rfl)) rfl
theorem lkm_RX6_162 : Cond.methodLinkNest RX6 162 yX11_milliOf "GroundWaters" ∈ gT := gT_of (tb_3 (List.mem_of_getElem? (i := 142) rfl)) rfl
theorem lkc_RX11_328 : Cond.constantLong RX11 328 (1000) ∈ gT := gT_of (tb_3 (List.mem_of_getElem? (i := 145) rfl)) rfl
theorem lkm_RX11_330 : Cond.methodLink RX11 330 yJ9_floorDiv_f86c9 ∈ gT := gT_of (tb_3 (List.mem_of_getElem? (i := 146) rfl)) rfl
theorem lkm_RL_67 : Cond.methodLink RL 67 yX11_flow ∈ gT := gT_of (tb_3 (List.mem_of_getElem? (i := 149) rfl)) rfl
theorem lkm_RX11_183 : Cond.methodLink RX11 183 yX6_linkTop ∈ gT := gT_of (tb_3 (List.mem_of_getElem? (i := 153) rfl)) rfl
theorem lkm_RX11_187 : Cond.methodLink RX11 187 yX11_milliOf ∈ gT := gT_of (tb_3 (List.mem_of_getElem? (i := 157) rfl)) rfl
theorem lkm_RL_71 : Cond.methodLink RL 71 yX11_gives ∈ gT := gT_of (tb_3 (List.mem_of_getElem? (i := 158) rfl)) rfl
theorem lkm_RX11_191 : Cond.methodLink RX11 191 yX6_riverTop ∈ gT := gT_of (tb_3 (List.mem_of_getElem? (i := 162) rfl)) rfl
theorem lkm_RL_75 : Cond.methodLink RL 75 yX11_takes ∈ gT := gT_of (tb_3 (List.mem_of_getElem? (i := 166) rfl)) rfl
theorem lkm_RX11_194 : Cond.methodLink RX11 194 yX1_has ∈ gT := gT_of (tb_3 (List.mem_of_getElem? (i := 170) rfl)) rfl
theorem lkm_RX11_195 : Cond.methodLink RX11 195 yX6_drainTop ∈ gT := gT_of (tb_3 (List.mem_of_getElem? (i := 174) rfl)) rfl
theorem lkm_RL_79 : Cond.methodLink RL 79 yX11_dry ∈ gT := gT_of (tb_3 (List.mem_of_getElem? (i := 178) rfl)) rfl
theorem lkm_RX11_198 : Cond.methodLink RX11 198 yX6_isDry ∈ gT := gT_of (tb_3 (List.mem_of_getElem? (i := 182) rfl)) rfl
theorem lkm_RL_83 : Cond.methodLink RL 83 yX11_salt ∈ gT := gT_of (tb_3 (List.mem_of_getElem? (i := 186) rfl)) rfl
theorem lkc_RX11_201 : Cond.constantLong RX11 201 (-40) ∈ gT := gT_of (tb_3 (List.mem_of_getElem? (i := 190) rfl)) rfl
theorem lkm_RL_87 : Cond.methodLink RL 87 yX11_through ∈ gT := gT_of (tb_3 (List.mem_of_getElem? (i := 191) rfl)) rfl
theorem lkm_RX11_203 : Cond.methodLink RX11 203 yX6_throughTop ∈ gT := gT_of (tb_3 (List.mem_of_getElem? (i := 195) rfl)) rfl
theorem lkm_RX6_152 : Cond.methodLink RX6 152 yX6_riverTop ∈ gT := gT_of (tb_3 (List.mem_of_getElem? (i := 199) rfl)) rfl
theorem lkm_RX6_156 : Cond.methodLink RX6 156 yJ9_max_f86c9 ∈ gT := gT_of (tb_3 (List.mem_of_getElem? (i := 200) rfl)) rfl
theorem lkm_RL_92 : Cond.methodLink RL 92 yX11_way ∈ gT := gT_of (tb_3 (List.mem_of_getElem? (i := 203) rfl)) rfl
theorem lkm_RX11_207 : Cond.methodLink RX11 207 yX8_cellOfWay ∈ gT := gT_of (tb_3 (List.mem_of_getElem? (i := 207) rfl)) rfl
theorem lkc_RX8_100 : Cond.constant RX8 100 (-10000009) ∈ gT := gT_of (tb_3 (List.mem_of_getElem? (i := 211) rfl)) rfl
theorem lkm_RX8_109 : Cond.methodLink RX8 109 yX2_hasCell ∈ gT := gT_of (tb_3 (List.mem_of_getElem? (i := 212) rfl)) rfl
theorem lkm_RX8_113 : Cond.methodLink RX8 113 yX8_onward ∈ gT := gT_of (tb_3 (List.mem_of_getElem? (i := 213) rfl)) rfl
theorem lkm_RX8_101 : Cond.methodLink RX8 101 yX8_gather ∈ gT := gT_of (tb_3 (List.mem_of_getElem? (i := 217) rfl)) rfl
theorem lkm_RX8_45 : Cond.methodLink RX8 45 yX6_linkTop ∈ gT := gT_of (tb_3 (List.mem_of_getElem? (i := 221) rfl)) rfl
theorem lkm_RX8_57 : Cond.methodLink RX8 57 yX8_addOutlet ∈ gT := gT_of (tb_3 (List.mem_of_getElem? (i := 222) rfl)) rfl
theorem lkm_RX8_71 : Cond.methodLink RX8 71 yX6_riverTop ∈ gT := gT_of (tb_3 (List.mem_of_getElem? (i := 226) rfl)) rfl
theorem lkm_RX8_82 : Cond.methodLink RX8 82 yX6_drainTop ∈ gT := gT_of (tb_3 (List.mem_of_getElem? (i := 227) rfl)) rfl
theorem lkm_RX8_105 : Cond.methodLink RX8 105 yX8_mainOutlet ∈ gT := gT_of (tb_3 (List.mem_of_getElem? (i := 228) rfl)) rfl
theorem lkm_RL_96 : Cond.methodLink RL 96 yX11_end ∈ gT := gT_of (tb_3 (List.mem_of_getElem? (i := 232) rfl)) rfl
theorem lkm_RX11_211 : Cond.methodLink RX11 211 yX8_endOfWay ∈ gT := gT_of (tb_3 (List.mem_of_getElem? (i := 236) rfl)) rfl
theorem lkm_RL_100 : Cond.methodLink RL 100 yX11_time ∈ gT := gT_of (tb_4 (List.mem_of_getElem? (i := 0) rfl)) rfl
theorem lkm_RX11_214 : Cond.methodLink RX11 214 yX8_gather ∈ gT := gT_of (tb_4 (List.mem_of_getElem? (i := 4) rfl)) rfl
theorem lkc_RX11_221 : Cond.constantLong RX11 221 (-10000009) ∈ gT := gT_of (tb_4 (List.mem_of_getElem? (i := 5) rfl)) rfl
theorem lkm_RX11_223 : Cond.methodLink RX11 223 yX8_waterTop ∈ gT := gT_of (tb_4 (List.mem_of_getElem? (i := 6) rfl)) rfl
theorem lkm_RX8_126 : Cond.methodLink RX8 126 yJ9_max_f86c9 ∈ gT := gT_of (tb_4 (List.mem_of_getElem? (i := 10) rfl)) rfl
theorem lkm_RX11_226 : Cond.methodLink RX11 226 yX8_flowTogether ∈ gT := gT_of (tb_4 (List.mem_of_getElem? (i := 11) rfl)) rfl
theorem lkm_RL_104 : Cond.methodLink RL 104 yX11_wayTime ∈ gT := gT_of (tb_4 (List.mem_of_getElem? (i := 15) rfl)) rfl
theorem lkm_RX11_229 : Cond.methodLink RX11 229 yX8_milliOfWay ∈ gT := gT_of (tb_4 (List.mem_of_getElem? (i := 19) rfl)) rfl
theorem lkm_RX8_132 : Cond.methodLink RX8 132 yX8_waterTop ∈ gT := gT_of (tb_4 (List.mem_of_getElem? (i := 23) rfl)) rfl
theorem lkm_RX8_135 : Cond.methodLink RX8 135 yX8_flowTogether ∈ gT := gT_of (tb_4 (List.mem_of_getElem? (i := 24) rfl)) rfl
theorem lkm_RX8_139 : Cond.methodLinkNest RX8 139 yX11_longMilliOf "GroundWaters" ∈ gT := gT_of (tb_4 (List.mem_of_getElem? (i := 25) rfl)) rfl
theorem lkm_RL_109 : Cond.methodLink RL 109 yX11_zone ∈ gT := gT_of (tb_4 (List.mem_of_getElem? (i := 28) rfl)) rfl
theorem lkm_RX11_232 : Cond.methodLink RX11 232 yX8_zoneOf ∈ gT := gT_of (tb_4 (List.mem_of_getElem? (i := 32) rfl)) rfl
theorem lkm_RX8_142 : Cond.methodLink RX8 142 yX8_withFeeders ∈ gT := gT_of (tb_4 (List.mem_of_getElem? (i := 36) rfl)) rfl
theorem lkm_RL_113 : Cond.methodLink RL 113 yX11_spill ∈ gT := gT_of (tb_4 (List.mem_of_getElem? (i := 40) rfl)) rfl
theorem lkm_RX11_235 : Cond.methodLink RX11 235 yX2_hasEnd ∈ gT := gT_of (tb_4 (List.mem_of_getElem? (i := 44) rfl)) rfl
theorem lkm_RX2_53 : Cond.methodLink RX2 53 yX2_hasCell ∈ gT := gT_of (tb_4 (List.mem_of_getElem? (i := 48) rfl)) rfl
theorem lkm_RX2_57 : Cond.methodLink RX2 57 yX7_has ∈ gT := gT_of (tb_4 (List.mem_of_getElem? (i := 49) rfl)) rfl
theorem lkm_RX2_60 : Cond.methodLink RX2 60 yX1_has ∈ gT := gT_of (tb_4 (List.mem_of_getElem? (i := 50) rfl)) rfl
theorem lkm_RX2_61 : Cond.methodLink RX2 61 yX9_has ∈ gT := gT_of (tb_4 (List.mem_of_getElem? (i := 51) rfl)) rfl
theorem lkm_RX11_238 : Cond.methodLink RX11 238 yX8_partsThatReach ∈ gT := gT_of (tb_4 (List.mem_of_getElem? (i := 52) rfl)) rfl
theorem lkm_RX8_145 : Cond.methodLink RX8 145 yJ7_fill_53178 ∈ gT := gT_of (tb_4 (List.mem_of_getElem? (i := 56) rfl)) rfl
theorem lkc_RX8_151 : Cond.constant RX8 151 (1000000) ∈ gT := gT_of (tb_4 (List.mem_of_getElem? (i := 57) rfl)) rfl
theorem lkm_RX8_155 : Cond.methodLink RX8 155 yX8_highestBut ∈ gT := gT_of (tb_4 (List.mem_of_getElem? (i := 58) rfl)) rfl
theorem lkm_RX8_158 : Cond.methodLink RX8 158 yX8_handOn ∈ gT := gT_of (tb_4 (List.mem_of_getElem? (i := 62) rfl)) rfl
theorem lkm_RX8_162 : Cond.methodLink RX8 162 yX8_shareByFlow ∈ gT := gT_of (tb_4 (List.mem_of_getElem? (i := 66) rfl)) rfl
theorem lkc_RX8_170 : Cond.constantLong RX8 170 (1000) ∈ gT := gT_of (tb_4 (List.mem_of_getElem? (i := 69) rfl)) rfl
theorem lkm_RX8_166 : Cond.methodLink RX8 166 yX8_deliver ∈ gT := gT_of (tb_4 (List.mem_of_getElem? (i := 70) rfl)) rfl
theorem lkm_RL_117 : Cond.methodLink RL 117 yX11_pour ∈ gT := gT_of (tb_4 (List.mem_of_getElem? (i := 74) rfl)) rfl
theorem lkc_RX11_241 : Cond.constant RX11 241 (1000000) ∈ gT := gT_of (tb_4 (List.mem_of_getElem? (i := 78) rfl)) rfl
theorem lkm_RX11_242 : Cond.methodLink RX11 242 yX0_beginBooks ∈ gT := gT_of (tb_4 (List.mem_of_getElem? (i := 79) rfl)) rfl
theorem lkm_RX0_26 : Cond.methodLink RX0 26 yJ7_fill_d0a16 ∈ gT := gT_of (tb_4 (List.mem_of_getElem? (i := 83) rfl)) rfl
theorem lkm_RL_121 : Cond.methodLink RL 121 yX11_cups ∈ gT := gT_of (tb_4 (List.mem_of_getElem? (i := 84) rfl)) rfl
theorem lkm_RL_125 : Cond.methodLink RL 125 yX11_mark ∈ gT := gT_of (tb_4 (List.mem_of_getElem? (i := 88) rfl)) rfl
theorem lkm_RX11_248 : Cond.methodLink RX11 248 yX0_markOf ∈ gT := gT_of (tb_4 (List.mem_of_getElem? (i := 92) rfl)) rfl
theorem lkm_RL_129 : Cond.methodLink RL 129 yX11_tick ∈ gT := gT_of (tb_4 (List.mem_of_getElem? (i := 96) rfl)) rfl
theorem lkm_RX11_251 : Cond.methodLink RX11 251 yX0_passTick ∈ gT := gT_of (tb_4 (List.mem_of_getElem? (i := 100) rfl)) rfl
theorem lkm_RX0_44 : Cond.methodLink RX0 44 yX0_markOf ∈ gT := gT_of (tb_4 (List.mem_of_getElem? (i := 104) rfl)) rfl
theorem lkm_RX0_51 : Cond.methodLink RX0 51 yX0_arrive ∈ gT := gT_of (tb_4 (List.mem_of_getElem? (i := 105) rfl)) rfl
theorem lkc_RX0_129 : Cond.constant RX0 129 (1000000) ∈ gT := gT_of (tb_4 (List.mem_of_getElem? (i := 109) rfl)) rfl
theorem lkm_RX0_91 : Cond.methodLink RX0 91 yJ9_max_7cf53 ∈ gT := gT_of (tb_4 (List.mem_of_getElem? (i := 110) rfl)) rfl
theorem lkm_RX0_64 : Cond.methodLink RX0 64 yX0_runRiver ∈ gT := gT_of (tb_4 (List.mem_of_getElem? (i := 111) rfl)) rfl
theorem lkm_RX0_100 : Cond.methodLink RX0 100 yX0_leave ∈ gT := gT_of (tb_4 (List.mem_of_getElem? (i := 115) rfl)) rfl
theorem lkm_RX0_130 : Cond.methodLink RX0 130 yJ9_min_7cf53 ∈ gT := gT_of (tb_4 (List.mem_of_getElem? (i := 119) rfl)) rfl
theorem lkm_RX0_75 : Cond.methodLink RX0 75 yX0_runLink ∈ gT := gT_of (tb_4 (List.mem_of_getElem? (i := 122) rfl)) rfl
theorem lkm_RX11_254 : Cond.methodLink RX11 254 yX0_allHeld ∈ gT := gT_of (tb_4 (List.mem_of_getElem? (i := 126) rfl)) rfl
theorem lkm_RL_133 : Cond.methodLink RL 133 yX11_book ∈ gT := gT_of (tb_4 (List.mem_of_getElem? (i := 130) rfl)) rfl
theorem lkc_RX11_258 : Cond.constantLong RX11 258 (-10000002) ∈ gT := gT_of (tb_4 (List.mem_of_getElem? (i := 134) rfl)) rfl
theorem lkm_RL_137 : Cond.methodLink RL 137 yX11_world ∈ gT := gT_of (tb_4 (List.mem_of_getElem? (i := 135) rfl)) rfl
theorem lkm_RX11_264 : Cond.methodLink RX11 264 yX10_add ∈ gT := gT_of (tb_4 (List.mem_of_getElem? (i := 139) rfl)) rfl
theorem lkm_RL_141 : Cond.methodLink RL 141 yX11_see ∈ gT := gT_of (tb_4 (List.mem_of_getElem? (i := 143) rfl)) rfl
theorem lkc_RX11_266 : Cond.constant RX11 266 (-9000000) ∈ gT := gT_of (tb_4 (List.mem_of_getElem? (i := 147) rfl)) rfl
theorem lkc_RX11_267 : Cond.constant RX11 267 (9000000) ∈ gT := gT_of (tb_4 (List.mem_of_getElem? (i := 148) rfl)) rfl
theorem lkc_RX11_268 : Cond.constant RX11 268 (100000) ∈ gT := gT_of (tb_4 (List.mem_of_getElem? (i := 149) rfl)) rfl
theorem lkm_RX11_269 : Cond.methodLink RX11 269 yX10_note ∈ gT := gT_of (tb_4 (List.mem_of_getElem? (i := 150) rfl)) rfl
theorem lkm_RX10_52 : Cond.methodLink RX10 52 yJ9_max_7cf53 ∈ gT := gT_of (tb_4 (List.mem_of_getElem? (i := 154) rfl)) rfl
theorem lkm_RL_145 : Cond.methodLink RL 145 yX11_left ∈ gT := gT_of (tb_4 (List.mem_of_getElem? (i := 155) rfl)) rfl
theorem lkm_RX11_272 : Cond.methodLink RX11 272 yX10_thatAreLeft ∈ gT := gT_of (tb_4 (List.mem_of_getElem? (i := 159) rfl)) rfl
theorem lkm_RX10_94 : Cond.methodLink RX10 94 yX10_settleIn ∈ gT := gT_of (tb_4 (List.mem_of_getElem? (i := 163) rfl)) rfl
theorem lkm_RX10_74 : Cond.methodLinkNest RX10 74 yX11_exchange "GroundWaters" ∈ gT := gT_of (tb_4 (List.mem_of_getElem? (i := 167) rfl)) rfl
theorem lkm_RX10_78 : Cond.methodLink RX10 78 yX6_forget ∈ gT := gT_of (tb_4 (List.mem_of_getElem? (i := 168) rfl)) rfl
theorem lkm_RX10_90 : Cond.methodLink RX10 90 yX6_settle ∈ gT := gT_of (tb_4 (List.mem_of_getElem? (i := 169) rfl)) rfl
theorem lkm_RX10_97 : Cond.methodLink RX10 97 yX10_agrees ∈ gT := gT_of (tb_4 (List.mem_of_getElem? (i := 170) rfl)) rfl
theorem lkm_RX10_100 : Cond.methodLink RX10 100 yX6_headMilli ∈ gT := gT_of (tb_4 (List.mem_of_getElem? (i := 174) rfl)) rfl
theorem lkm_RX10_63 : Cond.methodLink RX10 63 yX10_isSeen ∈ gT := gT_of (tb_4 (List.mem_of_getElem? (i := 175) rfl)) rfl
theorem lkm_RX10_104 : Cond.methodLink RX10 104 yJ9_abs_0f7a4 ∈ gT := gT_of (tb_4 (List.mem_of_getElem? (i := 179) rfl)) rfl
theorem lkm_RL_149 : Cond.methodLink RL 149 yX11_inWorld ∈ gT := gT_of (tb_4 (List.mem_of_getElem? (i := 182) rfl)) rfl
theorem lkm_RX11_275 : Cond.methodLink RX11 275 yX10_has ∈ gT := gT_of (tb_4 (List.mem_of_getElem? (i := 186) rfl)) rfl
theorem lkm_RX11_276 : Cond.methodLink RX11 276 yX10_settleIn ∈ gT := gT_of (tb_4 (List.mem_of_getElem? (i := 190) rfl)) rfl
theorem lkm_RL_153 : Cond.methodLink RL 153 yX11_next ∈ gT := gT_of (tb_4 (List.mem_of_getElem? (i := 191) rfl)) rfl
theorem lkm_RX11_280 : Cond.methodLink RX11 280 yX10_nextTest ∈ gT := gT_of (tb_4 (List.mem_of_getElem? (i := 195) rfl)) rfl
theorem lkm_RX10_107 : Cond.methodLink RX10 107 yX10_thatAreLeft ∈ gT := gT_of (tb_4 (List.mem_of_getElem? (i := 199) rfl)) rfl
theorem lkc_RX10_111 : Cond.constant RX10 111 (-10000009) ∈ gT := gT_of (tb_4 (List.mem_of_getElem? (i := 200) rfl)) rfl
theorem lkm_RX10_112 : Cond.methodLink RX10 112 yX10_mostAlike ∈ gT := gT_of (tb_4 (List.mem_of_getElem? (i := 201) rfl)) rfl
theorem lkm_RL_157 : Cond.methodLink RL 157 yX11_alike ∈ gT := gT_of (tb_4 (List.mem_of_getElem? (i := 205) rfl)) rfl
theorem lkm_RX11_283 : Cond.methodLink RX11 283 yX10_mostAlike ∈ gT := gT_of (tb_4 (List.mem_of_getElem? (i := 209) rfl)) rfl
theorem lkm_RL_161 : Cond.methodLink RL 161 yX11_sign ∈ gT := gT_of (tb_4 (List.mem_of_getElem? (i := 210) rfl)) rfl
theorem lkm_RX11_287 : Cond.methodLink RX11 287 yX4_append ∈ gT := gT_of (tb_4 (List.mem_of_getElem? (i := 214) rfl)) rfl
theorem lkm_RL_165 : Cond.methodLink RL 165 yX11_wipe ∈ gT := gT_of (tb_4 (List.mem_of_getElem? (i := 218) rfl)) rfl
theorem lkm_RL_169 : Cond.methodLink RL 169 yX11_fault ∈ gT := gT_of (tb_4 (List.mem_of_getElem? (i := 222) rfl)) rfl
theorem lkm_RX11_290 : Cond.methodLink RX11 290 yX4_firstFault ∈ gT := gT_of (tb_4 (List.mem_of_getElem? (i := 226) rfl)) rfl
theorem lkc_RX4_53 : Cond.constant RX4 53 (-10000009) ∈ gT := gT_of (tb_4 (List.mem_of_getElem? (i := 230) rfl)) rfl
theorem lkm_RX4_54 : Cond.methodLink RX4 54 yX4_after ∈ gT := gT_of (tb_4 (List.mem_of_getElem? (i := 231) rfl)) rfl
theorem lkm_RX4_58 : Cond.methodLink RX4 58 yX4_afterOne ∈ gT := gT_of (tb_4 (List.mem_of_getElem? (i := 235) rfl)) rfl
theorem lkm_RX4_62 : Cond.methodLink RX4 62 yX4_isDigit ∈ gT := gT_of (tb_4 (List.mem_of_getElem? (i := 239) rfl)) rfl
theorem lkm_RX4_66 : Cond.methodLink RX4 66 yX4_isThere ∈ gT := gT_of (tb_5 (List.mem_of_getElem? (i := 2) rfl)) rfl
theorem lkm_RX4_75 : Cond.methodLink RX4 75 yX2_hasCell ∈ gT := gT_of (tb_5 (List.mem_of_getElem? (i := 6) rfl)) rfl
theorem lkm_RX4_84 : Cond.methodLink RX4 84 yX9_has ∈ gT := gT_of (tb_5 (List.mem_of_getElem? (i := 7) rfl)) rfl
theorem lkm_RX4_93 : Cond.methodLink RX4 93 yX7_has ∈ gT := gT_of (tb_5 (List.mem_of_getElem? (i := 8) rfl)) rfl
theorem lkm_RX4_100 : Cond.methodLink RX4 100 yX1_has ∈ gT := gT_of (tb_5 (List.mem_of_getElem? (i := 9) rfl)) rfl
theorem lkm_RX4_107 : Cond.methodLink RX4 107 yX3_has ∈ gT := gT_of (tb_5 (List.mem_of_getElem? (i := 10) rfl)) rfl
theorem lkm_RX4_69 : Cond.methodLink RX4 69 yX4_afterNumber ∈ gT := gT_of (tb_5 (List.mem_of_getElem? (i := 11) rfl)) rfl
theorem lkm_RX4_72 : Cond.methodLink RX4 72 yX4_afterBehind ∈ gT := gT_of (tb_5 (List.mem_of_getElem? (i := 15) rfl)) rfl
theorem lkm_RL_173 : Cond.methodLink RL 173 yX11_holds ∈ gT := gT_of (tb_5 (List.mem_of_getElem? (i := 19) rfl)) rfl
theorem lkm_RX11_293 : Cond.methodLink RX11 293 yX4_isPermit ∈ gT := gT_of (tb_5 (List.mem_of_getElem? (i := 23) rfl)) rfl
theorem lkm_RX4_49 : Cond.methodLink RX4 49 yX4_firstFault ∈ gT := gT_of (tb_5 (List.mem_of_getElem? (i := 27) rfl)) rfl
theorem lkm_RX11_296 : Cond.methodLink RX11 296 yX4_holdsWith ∈ gT := gT_of (tb_5 (List.mem_of_getElem? (i := 28) rfl)) rfl
theorem lkm_RX4_110 : Cond.methodLink RX4 110 yX4_open ∈ gT := gT_of (tb_5 (List.mem_of_getElem? (i := 32) rfl)) rfl
theorem lkm_RX4_113 : Cond.methodLink RX4 113 yX4_put ∈ gT := gT_of (tb_5 (List.mem_of_getElem? (i := 36) rfl)) rfl
theorem lkm_RX4_117 : Cond.methodLink RX4 117 yX4_ask ∈ gT := gT_of (tb_5 (List.mem_of_getElem? (i := 40) rfl)) rfl
theorem lkm_RX4_121 : Cond.methodLink RX4 121 yX4_nextSign ∈ gT := gT_of (tb_5 (List.mem_of_getElem? (i := 44) rfl)) rfl
theorem lkm_RX4_124 : Cond.methodLink RX4 124 yX4_valueOf ∈ gT := gT_of (tb_5 (List.mem_of_getElem? (i := 48) rfl)) rfl
theorem lkm_RX4_141 : Cond.methodLinkNest RX4 141 yX11_milliOf "GroundWaters" ∈ gT := gT_of (tb_5 (List.mem_of_getElem? (i := 52) rfl)) rfl
theorem lkm_RX4_145 : Cond.methodLink RX4 145 yX6_riverTop ∈ gT := gT_of (tb_5 (List.mem_of_getElem? (i := 53) rfl)) rfl
theorem lkm_RX4_149 : Cond.methodLink RX4 149 yX6_drainTop ∈ gT := gT_of (tb_5 (List.mem_of_getElem? (i := 54) rfl)) rfl
theorem lkm_RX4_152 : Cond.methodLink RX4 152 yX6_linkTop ∈ gT := gT_of (tb_5 (List.mem_of_getElem? (i := 55) rfl)) rfl
theorem lkm_RX4_128 : Cond.methodLink RX4 128 yX4_readNumber ∈ gT := gT_of (tb_5 (List.mem_of_getElem? (i := 56) rfl)) rfl
theorem lkm_RL_177 : Cond.methodLink RL 177 yX11_limit ∈ gT := gT_of (tb_5 (List.mem_of_getElem? (i := 60) rfl)) rfl
theorem lkc_RX11_300 : Cond.constant RX11 300 (2000000) ∈ gT := gT_of (tb_5 (List.mem_of_getElem? (i := 64) rfl)) rfl
theorem lkm_RL_181 : Cond.methodLink RL 181 yX11_worth ∈ gT := gT_of (tb_5 (List.mem_of_getElem? (i := 65) rfl)) rfl
theorem lkm_RX11_304 : Cond.methodLink RX11 304 yX5_findBest ∈ gT := gT_of (tb_5 (List.mem_of_getElem? (i := 69) rfl)) rfl
theorem lkm_RX5_46 : Cond.methodLink RX5 46 yX4_isPermit ∈ gT := gT_of (tb_5 (List.mem_of_getElem? (i := 73) rfl)) rfl
theorem lkm_RX5_64 : Cond.methodLink RX5 64 yX5_setLevels ∈ gT := gT_of (tb_5 (List.mem_of_getElem? (i := 74) rfl)) rfl
theorem lkm_RX5_85 : Cond.methodLink RX5 85 yX9_rateAt ∈ gT := gT_of (tb_5 (List.mem_of_getElem? (i := 78) rfl)) rfl
theorem lkm_RX5_68 : Cond.methodLink RX5 68 yX5_gainOf ∈ gT := gT_of (tb_5 (List.mem_of_getElem? (i := 82) rfl)) rfl
theorem lkm_RX5_72 : Cond.methodLink RX5 72 yX5_sumOfRates ∈ gT := gT_of (tb_5 (List.mem_of_getElem? (i := 86) rfl)) rfl
theorem lkm_RX5_75 : Cond.methodLink RX5 75 yX5_mayBe ∈ gT := gT_of (tb_5 (List.mem_of_getElem? (i := 90) rfl)) rfl
theorem lkm_RX5_92 : Cond.methodLink RX5 92 yX6_settle ∈ gT := gT_of (tb_5 (List.mem_of_getElem? (i := 94) rfl)) rfl
theorem lkm_RX5_101 : Cond.methodLink RX5 101 yX6_isDry ∈ gT := gT_of (tb_5 (List.mem_of_getElem? (i := 95) rfl)) rfl
theorem lkm_RX5_105 : Cond.methodLink RX5 105 yX6_headMilli ∈ gT := gT_of (tb_5 (List.mem_of_getElem? (i := 96) rfl)) rfl
theorem lkm_RX5_109 : Cond.methodLink RX5 109 yX4_holdsWith ∈ gT := gT_of (tb_5 (List.mem_of_getElem? (i := 97) rfl)) rfl
theorem lkm_RX5_79 : Cond.methodLink RX5 79 arraycopyName ∈ gT := gT_of (tb_5 (List.mem_of_getElem? (i := 98) rfl)) rfl
theorem lkm_RL_185 : Cond.methodLink RL 185 yX11_level ∈ gT := gT_of (tb_5 (List.mem_of_getElem? (i := 101) rfl)) rfl
theorem lkm_RL_189 : Cond.methodLink RL 189 yX11_draw ∈ gT := gT_of (tb_5 (List.mem_of_getElem? (i := 105) rfl)) rfl
theorem lkm_RX11_310 : Cond.methodLink RX11 310 yX9_rateAt ∈ gT := gT_of (tb_5 (List.mem_of_getElem? (i := 109) rfl)) rfl
theorem lkm_RL_193 : Cond.methodLink RL 193 yX11_price ∈ gT := gT_of (tb_5 (List.mem_of_getElem? (i := 110) rfl)) rfl
theorem lkm_RL_197 : Cond.methodLink RL 197 yX11_harm ∈ gT := gT_of (tb_5 (List.mem_of_getElem? (i := 114) rfl)) rfl
theorem lkm_RX11_313 : Cond.methodLink RX11 313 yX5_harmAt ∈ gT := gT_of (tb_5 (List.mem_of_getElem? (i := 118) rfl)) rfl
theorem lkm_RX5_116 : Cond.methodLink RX5 116 yX5_milliWith ∈ gT := gT_of (tb_5 (List.mem_of_getElem? (i := 122) rfl)) rfl
theorem lkc_RX5_115 : Cond.constant RX5 115 (-10000003) ∈ gT := gT_of (tb_5 (List.mem_of_getElem? (i := 126) rfl)) rfl
theorem lkm_RL_201 : Cond.methodLink RL 201 yX11_share ∈ gT := gT_of (tb_5 (List.mem_of_getElem? (i := 127) rfl)) rfl
theorem lkm_RX11_316 : Cond.methodLink RX11 316 yX5_shareOf ∈ gT := gT_of (tb_5 (List.mem_of_getElem? (i := 131) rfl)) rfl
theorem lkm_RX5_119 : Cond.methodLink RX5 119 yX5_ordersBehind ∈ gT := gT_of (tb_5 (List.mem_of_getElem? (i := 135) rfl)) rfl
theorem lkm_RX5_125 : Cond.methodLink RX5 125 yJ6_bitCount_0f7a4 ∈ gT := gT_of (tb_5 (List.mem_of_getElem? (i := 139) rfl)) rfl
theorem lkc_RJ6_265 : Cond.constant RJ6 265 (1431655765) ∈ gT := gT_of (tb_5 (List.mem_of_getElem? (i := 142) rfl)) rfl
theorem lkc_RJ6_266 : Cond.constant RJ6 266 (858993459) ∈ gT := gT_of (tb_5 (List.mem_of_getElem? (i := 143) rfl)) rfl
theorem lkc_RJ6_267 : Cond.constant RJ6 267 (252645135) ∈ gT := gT_of (tb_5 (List.mem_of_getElem? (i := 144) rfl)) rfl
theorem lkf_RX5_122 : Cond.fieldLinkNest RX5 122 "GroundWaters" "FACTORIAL" "[I" "GroundWaters" ∈ gT := gT_of (tb_5 (List.mem_of_getElem? (i := 145) rfl)) rfl
theorem lkm_RL_205 : Cond.methodLink RL 205 yX11_count ∈ gT := gT_of (tb_5 (List.mem_of_getElem? (i := 147) rfl)) rfl
theorem lkm_RX11_319 : Cond.methodLink RX11 319 yX10_seenCells ∈ gT := gT_of (tb_5 (List.mem_of_getElem? (i := 151) rfl)) rfl
theorem lkm_RX11_322 : Cond.methodLink RX11 322 yX9_allRates ∈ gT := gT_of (tb_5 (List.mem_of_getElem? (i := 155) rfl)) rfl
theorem lkm_RL_12 : Cond.methodLink RL 12 yX12_init ∈ gT := gT_of (tb_5 (List.mem_of_getElem? (i := 161) rfl)) rfl
theorem lkc_RX12_132 : Cond.constant RX12 132 (-10000009) ∈ gT := gT_of (tb_5 (List.mem_of_getElem? (i := 165) rfl)) rfl
theorem lkf_RX12_133 : Cond.fieldLink RX12 133 "GroundWatersModel" "thrown" "I" ∈ gT := gT_of (tb_5 (List.mem_of_getElem? (i := 166) rfl)) rfl
theorem lkf_RX12_137 : Cond.fieldLink RX12 137 "GroundWatersModel" "cells" "I" ∈ gT := gT_of (tb_5 (List.mem_of_getElem? (i := 167) rfl)) rfl
theorem lkf_RX12_7 : Cond.fieldLink RX12 7 "GroundWatersModel" "bottom" "[I" ∈ gT := gT_of (tb_5 (List.mem_of_getElem? (i := 168) rfl)) rfl
theorem lkf_RX12_13 : Cond.fieldLink RX12 13 "GroundWatersModel" "rain" "[I" ∈ gT := gT_of (tb_5 (List.mem_of_getElem? (i := 169) rfl)) rfl
theorem lkf_RX12_16 : Cond.fieldLink RX12 16 "GroundWatersModel" "store" "[I" ∈ gT := gT_of (tb_5 (List.mem_of_getElem? (i := 170) rfl)) rfl
theorem lkf_RX12_164 : Cond.fieldLink RX12 164 "GroundWatersModel" "links" "I" ∈ gT := gT_of (tb_5 (List.mem_of_getElem? (i := 171) rfl)) rfl
theorem lkf_RX12_19 : Cond.fieldLink RX12 19 "GroundWatersModel" "first" "[I" ∈ gT := gT_of (tb_5 (List.mem_of_getElem? (i := 172) rfl)) rfl
theorem lkf_RX12_22 : Cond.fieldLink RX12 22 "GroundWatersModel" "second" "[I" ∈ gT := gT_of (tb_5 (List.mem_of_getElem? (i := 173) rfl)) rfl
theorem lkf_RX12_25 : Cond.fieldLink RX12 25 "GroundWatersModel" "ease" "[I" ∈ gT := gT_of (tb_5 (List.mem_of_getElem? (i := 174) rfl)) rfl
theorem lkf_RX12_169 : Cond.fieldLink RX12 169 "GroundWatersModel" "rivers" "I" ∈ gT := gT_of (tb_5 (List.mem_of_getElem? (i := 175) rfl)) rfl
theorem lkf_RX12_28 : Cond.fieldLink RX12 28 "GroundWatersModel" "riverIn" "[I" ∈ gT := gT_of (tb_5 (List.mem_of_getElem? (i := 176) rfl)) rfl
theorem lkf_RX12_31 : Cond.fieldLink RX12 31 "GroundWatersModel" "stage" "[I" ∈ gT := gT_of (tb_5 (List.mem_of_getElem? (i := 177) rfl)) rfl
theorem lkf_RX12_34 : Cond.fieldLink RX12 34 "GroundWatersModel" "bed" "[I" ∈ gT := gT_of (tb_5 (List.mem_of_getElem? (i := 178) rfl)) rfl
theorem lkf_RX12_37 : Cond.fieldLink RX12 37 "GroundWatersModel" "riverEase" "[I" ∈ gT := gT_of (tb_5 (List.mem_of_getElem? (i := 179) rfl)) rfl
theorem lkf_RX12_172 : Cond.fieldLink RX12 172 "GroundWatersModel" "drains" "I" ∈ gT := gT_of (tb_5 (List.mem_of_getElem? (i := 180) rfl)) rfl
theorem lkf_RX12_40 : Cond.fieldLink RX12 40 "GroundWatersModel" "drainIn" "[I" ∈ gT := gT_of (tb_5 (List.mem_of_getElem? (i := 181) rfl)) rfl
theorem lkf_RX12_43 : Cond.fieldLink RX12 43 "GroundWatersModel" "drainAt" "[I" ∈ gT := gT_of (tb_5 (List.mem_of_getElem? (i := 182) rfl)) rfl
theorem lkf_RX12_46 : Cond.fieldLink RX12 46 "GroundWatersModel" "drainEase" "[I" ∈ gT := gT_of (tb_5 (List.mem_of_getElem? (i := 183) rfl)) rfl
theorem lkf_RX12_144 : Cond.fieldLink RX12 144 "GroundWatersModel" "wells" "I" ∈ gT := gT_of (tb_5 (List.mem_of_getElem? (i := 184) rfl)) rfl
theorem lkf_RX12_49 : Cond.fieldLink RX12 49 "GroundWatersModel" "wellIn" "[I" ∈ gT := gT_of (tb_5 (List.mem_of_getElem? (i := 185) rfl)) rfl
theorem lkf_RX12_52 : Cond.fieldLink RX12 52 "GroundWatersModel" "cap" "[I" ∈ gT := gT_of (tb_5 (List.mem_of_getElem? (i := 186) rfl)) rfl
theorem lkf_RX12_55 : Cond.fieldLink RX12 55 "GroundWatersModel" "worth" "[I" ∈ gT := gT_of (tb_5 (List.mem_of_getElem? (i := 187) rfl)) rfl
theorem lkf_RX12_58 : Cond.fieldLink RX12 58 "GroundWatersModel" "rate" "[I" ∈ gT := gT_of (tb_5 (List.mem_of_getElem? (i := 188) rfl)) rfl
theorem lkf_RX12_61 : Cond.fieldLink RX12 61 "GroundWatersModel" "up" "[J" ∈ gT := gT_of (tb_5 (List.mem_of_getElem? (i := 189) rfl)) rfl
theorem lkf_RX12_211 : Cond.fieldLink RX12 211 "GroundWatersModel" "low" "J" ∈ gT := gT_of (tb_5 (List.mem_of_getElem? (i := 190) rfl)) rfl
theorem lkf_RX12_200 : Cond.fieldLink RX12 200 "GroundWatersModel" "pattern" "I" ∈ gT := gT_of (tb_5 (List.mem_of_getElem? (i := 191) rfl)) rfl
theorem lkf_RX12_65 : Cond.fieldLink RX12 65 "GroundWatersModel" "nowEase" "[I" ∈ gT := gT_of (tb_5 (List.mem_of_getElem? (i := 192) rfl)) rfl
theorem lkf_RX12_68 : Cond.fieldLink RX12 68 "GroundWatersModel" "nowRate" "[I" ∈ gT := gT_of (tb_5 (List.mem_of_getElem? (i := 193) rfl)) rfl
theorem lkf_RX12_71 : Cond.fieldLink RX12 71 "GroundWatersModel" "a" "[J" ∈ gT := gT_of (tb_5 (List.mem_of_getElem? (i := 194) rfl)) rfl
theorem lkf_RX12_74 : Cond.fieldLink RX12 74 "GroundWatersModel" "b" "[J" ∈ gT := gT_of (tb_5 (List.mem_of_getElem? (i := 195) rfl)) rfl
theorem lkf_RX12_77 : Cond.fieldLink RX12 77 "GroundWatersModel" "m" "[J" ∈ gT := gT_of (tb_5 (List.mem_of_getElem? (i := 196) rfl)) rfl
theorem lkf_RX12_261 : Cond.fieldLink RX12 261 "GroundWatersModel" "outs" "I" ∈ gT := gT_of (tb_5 (List.mem_of_getElem? (i := 197) rfl)) rfl
theorem lkf_RX12_80 : Cond.fieldLink RX12 80 "GroundWatersModel" "outEnd" "[I" ∈ gT := gT_of (tb_5 (List.mem_of_getElem? (i := 198) rfl)) rfl
theorem lkf_RX12_83 : Cond.fieldLink RX12 83 "GroundWatersModel" "outFlow" "[J" ∈ gT := gT_of (tb_5 (List.mem_of_getElem? (i := 199) rfl)) rfl
theorem lkf_RX12_86 : Cond.fieldLink RX12 86 "GroundWatersModel" "cups" "[I" ∈ gT := gT_of (tb_5 (List.mem_of_getElem? (i := 200) rfl)) rfl
theorem lkf_RX12_89 : Cond.fieldLink RX12 89 "GroundWatersModel" "marks" "[I" ∈ gT := gT_of (tb_5 (List.mem_of_getElem? (i := 201) rfl)) rfl
theorem lkf_RX12_92 : Cond.fieldLink RX12 92 "GroundWatersModel" "book" "[J" ∈ gT := gT_of (tb_5 (List.mem_of_getElem? (i := 202) rfl)) rfl
theorem lkf_RX12_319 : Cond.fieldLink RX12 319 "GroundWatersModel" "worlds" "I" ∈ gT := gT_of (tb_5 (List.mem_of_getElem? (i := 203) rfl)) rfl
theorem lkf_RX12_95 : Cond.fieldLink RX12 95 "GroundWatersModel" "worldLink" "[I" ∈ gT := gT_of (tb_5 (List.mem_of_getElem? (i := 204) rfl)) rfl
theorem lkf_RX12_98 : Cond.fieldLink RX12 98 "GroundWatersModel" "worldEase" "[I" ∈ gT := gT_of (tb_5 (List.mem_of_getElem? (i := 205) rfl)) rfl
theorem lkf_RX12_101 : Cond.fieldLink RX12 101 "GroundWatersModel" "isSeen" "[Z" ∈ gT := gT_of (tb_5 (List.mem_of_getElem? (i := 206) rfl)) rfl
theorem lkf_RX12_105 : Cond.fieldLink RX12 105 "GroundWatersModel" "seen" "[I" ∈ gT := gT_of (tb_5 (List.mem_of_getElem? (i := 207) rfl)) rfl
theorem lkf_RX12_108 : Cond.fieldLink RX12 108 "GroundWatersModel" "give" "[I" ∈ gT := gT_of (tb_5 (List.mem_of_getElem? (i := 208) rfl)) rfl
theorem lkf_RX12_111 : Cond.fieldLink RX12 111 "GroundWatersModel" "worldMilli" "[I" ∈ gT := gT_of (tb_5 (List.mem_of_getElem? (i := 209) rfl)) rfl
theorem lkf_RX12_340 : Cond.fieldLink RX12 340 "GroundWatersModel" "signs" "I" ∈ gT := gT_of (tb_5 (List.mem_of_getElem? (i := 210) rfl)) rfl
theorem lkf_RX12_114 : Cond.fieldLink RX12 114 "GroundWatersModel" "sign" "[I" ∈ gT := gT_of (tb_5 (List.mem_of_getElem? (i := 211) rfl)) rfl
theorem lkf_RX12_117 : Cond.fieldLink RX12 117 "GroundWatersModel" "any" "[Z" ∈ gT := gT_of (tb_5 (List.mem_of_getElem? (i := 212) rfl)) rfl
theorem lkf_RX12_120 : Cond.fieldLink RX12 120 "GroundWatersModel" "all" "[Z" ∈ gT := gT_of (tb_5 (List.mem_of_getElem? (i := 213) rfl)) rfl
theorem lkf_RX12_123 : Cond.fieldLink RX12 123 "GroundWatersModel" "turns" "[I" ∈ gT := gT_of (tb_5 (List.mem_of_getElem? (i := 214) rfl)) rfl
theorem lkf_RX12_126 : Cond.fieldLink RX12 126 "GroundWatersModel" "limit" "[I" ∈ gT := gT_of (tb_5 (List.mem_of_getElem? (i := 215) rfl)) rfl
theorem lkf_RX12_371 : Cond.fieldLink RX12 371 "GroundWatersModel" "best" "I" ∈ gT := gT_of (tb_5 (List.mem_of_getElem? (i := 216) rfl)) rfl
theorem lkf_RX12_374 : Cond.fieldLink RX12 374 "GroundWatersModel" "bestRates" "I" ∈ gT := gT_of (tb_5 (List.mem_of_getElem? (i := 217) rfl)) rfl
theorem lkf_RX12_377 : Cond.fieldLink RX12 377 "GroundWatersModel" "bestCode" "I" ∈ gT := gT_of (tb_5 (List.mem_of_getElem? (i := 218) rfl)) rfl
theorem lkf_RX12_129 : Cond.fieldLink RX12 129 "GroundWatersModel" "parts" "[I" ∈ gT := gT_of (tb_5 (List.mem_of_getElem? (i := 219) rfl)) rfl
theorem lkm_RL_17 : Cond.methodLink RL 17 yX12_cell ∈ gT := gT_of (tb_6 (List.mem_of_getElem? (i := 89) rfl)) rfl
theorem lkc_RX12_147 : Cond.constantLong RX12 147 (500) ∈ gT := gT_of (tb_6 (List.mem_of_getElem? (i := 93) rfl)) rfl
theorem lkm_RX12_140 : Cond.methodLink RX12 140 yX12_in ∈ gT := gT_of (tb_6 (List.mem_of_getElem? (i := 94) rfl)) rfl
theorem lkc_RX12_149 : Cond.constantLong RX12 149 (99) ∈ gT := gT_of (tb_6 (List.mem_of_getElem? (i := 97) rfl)) rfl
theorem lkc_RX12_151 : Cond.constantLong RX12 151 (9) ∈ gT := gT_of (tb_6 (List.mem_of_getElem? (i := 98) rfl)) rfl
theorem lkc_RX12_153 : Cond.constant RX12 153 (-10000002) ∈ gT := gT_of (tb_6 (List.mem_of_getElem? (i := 99) rfl)) rfl
theorem lkc_RX12_154 : Cond.constant RX12 154 (-10000004) ∈ gT := gT_of (tb_6 (List.mem_of_getElem? (i := 100) rfl)) rfl
theorem lkm_RL_21 : Cond.methodLink RL 21 yX12_link ∈ gT := gT_of (tb_6 (List.mem_of_getElem? (i := 101) rfl)) rfl
theorem lkm_RX12_155 : Cond.methodLink RX12 155 yX12_noCell ∈ gT := gT_of (tb_6 (List.mem_of_getElem? (i := 105) rfl)) rfl
theorem lkc_RX12_159 : Cond.constant RX12 159 (-10000001) ∈ gT := gT_of (tb_6 (List.mem_of_getElem? (i := 109) rfl)) rfl
theorem lkm_RX12_160 : Cond.methodLink RX12 160 yX12_noEase ∈ gT := gT_of (tb_6 (List.mem_of_getElem? (i := 110) rfl)) rfl
theorem lkc_RX12_163 : Cond.constant RX12 163 (-10000003) ∈ gT := gT_of (tb_6 (List.mem_of_getElem? (i := 113) rfl)) rfl
theorem lkm_RL_26 : Cond.methodLink RL 26 yX12_river ∈ gT := gT_of (tb_6 (List.mem_of_getElem? (i := 114) rfl)) rfl
theorem lkc_RX12_167 : Cond.constantLong RX12 167 (1000) ∈ gT := gT_of (tb_6 (List.mem_of_getElem? (i := 118) rfl)) rfl
theorem lkm_RL_30 : Cond.methodLink RL 30 yX12_drain ∈ gT := gT_of (tb_6 (List.mem_of_getElem? (i := 119) rfl)) rfl
theorem lkm_RL_34 : Cond.methodLink RL 34 yX12_well ∈ gT := gT_of (tb_6 (List.mem_of_getElem? (i := 123) rfl)) rfl
theorem lkm_RL_39 : Cond.methodLink RL 39 yX12_rain ∈ gT := gT_of (tb_6 (List.mem_of_getElem? (i := 127) rfl)) rfl
theorem lkm_RL_43 : Cond.methodLink RL 43 yX12_ease ∈ gT := gT_of (tb_6 (List.mem_of_getElem? (i := 131) rfl)) rfl
theorem lkm_RL_47 : Cond.methodLink RL 47 yX12_rate ∈ gT := gT_of (tb_6 (List.mem_of_getElem? (i := 135) rfl)) rfl
theorem lkm_RX12_175 : Cond.methodLink RX12 175 yX12_noWell ∈ gT := gT_of (tb_6 (List.mem_of_getElem? (i := 139) rfl)) rfl
theorem lkm_RL_51 : Cond.methodLink RL 51 yX12_stage ∈ gT := gT_of (tb_6 (List.mem_of_getElem? (i := 143) rfl)) rfl
theorem lkm_RL_56 : Cond.methodLink RL 56 yX12_pattern ∈ gT := gT_of (tb_6 (List.mem_of_getElem? (i := 147) rfl)) rfl
theorem lkm_RX12_229 : Cond.methodLink RX12 229 yX12_rests ∈ gT := gT_of (tb_6 (List.mem_of_getElem? (i := 151) rfl)) rfl
theorem lkm_RX12_218 : Cond.methodLink RX12 218 yX12_asIs ∈ gT := gT_of (tb_6 (List.mem_of_getElem? (i := 155) rfl)) rfl
theorem lkm_RX12_221 : Cond.methodLink RX12 221 yX12_solves ∈ gT := gT_of (tb_6 (List.mem_of_getElem? (i := 159) rfl)) rfl
theorem lkm_RX12_203 : Cond.methodLink RX12 203 yX12_lay ∈ gT := gT_of (tb_6 (List.mem_of_getElem? (i := 163) rfl)) rfl
theorem lkm_RX12_207 : Cond.methodLink RX12 207 yX12_whole ∈ gT := gT_of (tb_6 (List.mem_of_getElem? (i := 167) rfl)) rfl
theorem lkc_RX12_184 : Cond.constantLong RX12 184 (2147483647) ∈ gT := gT_of (tb_6 (List.mem_of_getElem? (i := 171) rfl)) rfl
theorem lkm_RX12_186 : Cond.methodLink RX12 186 yX12_determinant ∈ gT := gT_of (tb_6 (List.mem_of_getElem? (i := 172) rfl)) rfl
theorem lkc_RX12_178 : Cond.constantLong RX12 178 (2) ∈ gT := gT_of (tb_6 (List.mem_of_getElem? (i := 176) rfl)) rfl
theorem lkm_RX12_180 : Cond.methodLink RX12 180 yX12_power ∈ gT := gT_of (tb_6 (List.mem_of_getElem? (i := 177) rfl)) rfl
theorem lkc_RX12_190 : Cond.constantLong RX12 190 (2147483629) ∈ gT := gT_of (tb_6 (List.mem_of_getElem? (i := 180) rfl)) rfl
theorem lkc_RX12_192 : Cond.constantLong RX12 192 (18) ∈ gT := gT_of (tb_6 (List.mem_of_getElem? (i := 181) rfl)) rfl
theorem lkc_RX12_194 : Cond.constantLong RX12 194 (2147483627) ∈ gT := gT_of (tb_6 (List.mem_of_getElem? (i := 182) rfl)) rfl
theorem lkc_RX12_196 : Cond.constantLong RX12 196 (2305842987738857481) ∈ gT := gT_of (tb_6 (List.mem_of_getElem? (i := 183) rfl)) rfl
theorem lkc_RX12_198 : Cond.constantLong RX12 198 (4611685975477714963) ∈ gT := gT_of (tb_6 (List.mem_of_getElem? (i := 184) rfl)) rfl
theorem lkm_RX12_215 : Cond.methodLink RX12 215 yX12_fits ∈ gT := gT_of (tb_6 (List.mem_of_getElem? (i := 185) rfl)) rfl
theorem lkm_RL_61 : Cond.methodLink RL 61 yX12_head ∈ gT := gT_of (tb_6 (List.mem_of_getElem? (i := 189) rfl)) rfl
theorem lkc_RX12_235 : Cond.constantLong RX12 235 (-10000001) ∈ gT := gT_of (tb_6 (List.mem_of_getElem? (i := 193) rfl)) rfl
theorem lkm_RX12_237 : Cond.methodLink RX12 237 yX12_told ∈ gT := gT_of (tb_6 (List.mem_of_getElem? (i := 194) rfl)) rfl
theorem lkm_RX12_232 : Cond.methodLink RX12 232 yX12_common ∈ gT := gT_of (tb_6 (List.mem_of_getElem? (i := 197) rfl)) rfl
theorem lkc_RX12_241 : Cond.constantLong RX12 241 (-10000003) ∈ gT := gT_of (tb_6 (List.mem_of_getElem? (i := 200) rfl)) rfl
theorem lkm_RL_66 : Cond.methodLink RL 66 yX12_milli ∈ gT := gT_of (tb_6 (List.mem_of_getElem? (i := 201) rfl)) rfl
theorem lkm_RX12_243 : Cond.methodLink RX12 243 yX12_milliOf ∈ gT := gT_of (tb_6 (List.mem_of_getElem? (i := 205) rfl)) rfl
theorem lkm_RX12_225 : Cond.methodLink RX12 225 yX12_down ∈ gT := gT_of (tb_6 (List.mem_of_getElem? (i := 209) rfl)) rfl
theorem lkm_RL_70 : Cond.methodLink RL 70 yX12_flow ∈ gT := gT_of (tb_6 (List.mem_of_getElem? (i := 212) rfl)) rfl
theorem lkm_RX12_247 : Cond.methodLink RX12 247 yX12_flowOf ∈ gT := gT_of (tb_6 (List.mem_of_getElem? (i := 216) rfl)) rfl
theorem lkm_RL_74 : Cond.methodLink RL 74 yX12_gives ∈ gT := gT_of (tb_6 (List.mem_of_getElem? (i := 220) rfl)) rfl
theorem lkm_RX12_250 : Cond.methodLink RX12 250 yX12_givesOf ∈ gT := gT_of (tb_6 (List.mem_of_getElem? (i := 224) rfl)) rfl
theorem lkm_RL_78 : Cond.methodLink RL 78 yX12_takes ∈ gT := gT_of (tb_6 (List.mem_of_getElem? (i := 228) rfl)) rfl
theorem lkm_RX12_253 : Cond.methodLink RX12 253 yX12_takesOf ∈ gT := gT_of (tb_6 (List.mem_of_getElem? (i := 232) rfl)) rfl
theorem lkm_RL_82 : Cond.methodLink RL 82 yX12_dry ∈ gT := gT_of (tb_6 (List.mem_of_getElem? (i := 236) rfl)) rfl
theorem lkm_RX12_256 : Cond.methodLink RX12 256 yX12_isDry ∈ gT := gT_of (tb_7 (List.mem_of_getElem? (i := 0) rfl)) rfl
theorem lkm_RL_86 : Cond.methodLink RL 86 yX12_salt ∈ gT := gT_of (tb_7 (List.mem_of_getElem? (i := 4) rfl)) rfl
theorem lkc_RX12_259 : Cond.constantLong RX12 259 (-40) ∈ gT := gT_of (tb_7 (List.mem_of_getElem? (i := 8) rfl)) rfl
theorem lkm_RL_91 : Cond.methodLink RL 91 yX12_through ∈ gT := gT_of (tb_7 (List.mem_of_getElem? (i := 9) rfl)) rfl
theorem lkm_RL_95 : Cond.methodLink RL 95 yX12_way ∈ gT := gT_of (tb_7 (List.mem_of_getElem? (i := 13) rfl)) rfl
theorem lkc_RX12_275 : Cond.constantLong RX12 275 (5) ∈ gT := gT_of (tb_7 (List.mem_of_getElem? (i := 17) rfl)) rfl
theorem lkm_RX12_277 : Cond.methodLink RX12 277 yX12_nextOf ∈ gT := gT_of (tb_7 (List.mem_of_getElem? (i := 18) rfl)) rfl
theorem lkm_RX12_268 : Cond.methodLink RX12 268 yX12_open ∈ gT := gT_of (tb_7 (List.mem_of_getElem? (i := 22) rfl)) rfl
theorem lkm_RX12_264 : Cond.methodLink RX12 264 yX12_let ∈ gT := gT_of (tb_7 (List.mem_of_getElem? (i := 26) rfl)) rfl
theorem lkm_RX12_271 : Cond.methodLink RX12 271 yX12_greatest ∈ gT := gT_of (tb_7 (List.mem_of_getElem? (i := 30) rfl)) rfl
theorem lkm_RL_99 : Cond.methodLink RL 99 yX12_end ∈ gT := gT_of (tb_7 (List.mem_of_getElem? (i := 34) rfl)) rfl
theorem lkm_RL_103 : Cond.methodLink RL 103 yX12_time ∈ gT := gT_of (tb_7 (List.mem_of_getElem? (i := 38) rfl)) rfl
theorem lkc_RX12_281 : Cond.constantLong RX12 281 (-10000009) ∈ gT := gT_of (tb_7 (List.mem_of_getElem? (i := 42) rfl)) rfl
theorem lkm_RX12_283 : Cond.methodLink RX12 283 yX12_waterOf ∈ gT := gT_of (tb_7 (List.mem_of_getElem? (i := 43) rfl)) rfl
theorem lkm_RX12_286 : Cond.methodLink RX12 286 yX12_allFlow ∈ gT := gT_of (tb_7 (List.mem_of_getElem? (i := 47) rfl)) rfl
theorem lkm_RL_108 : Cond.methodLink RL 108 yX12_wayTime ∈ gT := gT_of (tb_7 (List.mem_of_getElem? (i := 51) rfl)) rfl
theorem lkm_RL_112 : Cond.methodLink RL 112 yX12_zone ∈ gT := gT_of (tb_7 (List.mem_of_getElem? (i := 55) rfl)) rfl
theorem lkm_RL_116 : Cond.methodLink RL 116 yX12_spill ∈ gT := gT_of (tb_7 (List.mem_of_getElem? (i := 59) rfl)) rfl
theorem lkc_RX12_290 : Cond.constantLong RX12 290 (100) ∈ gT := gT_of (tb_7 (List.mem_of_getElem? (i := 63) rfl)) rfl
theorem lkc_RX12_292 : Cond.constantLong RX12 292 (200) ∈ gT := gT_of (tb_7 (List.mem_of_getElem? (i := 64) rfl)) rfl
theorem lkc_RX12_294 : Cond.constantLong RX12 294 (300) ∈ gT := gT_of (tb_7 (List.mem_of_getElem? (i := 65) rfl)) rfl
theorem lkc_RX12_296 : Cond.constant RX12 296 (1000000) ∈ gT := gT_of (tb_7 (List.mem_of_getElem? (i := 66) rfl)) rfl
theorem lkm_RX12_297 : Cond.methodLink RX12 297 yX12_shareOf ∈ gT := gT_of (tb_7 (List.mem_of_getElem? (i := 67) rfl)) rfl
theorem lkm_RL_120 : Cond.methodLink RL 120 yX12_pour ∈ gT := gT_of (tb_7 (List.mem_of_getElem? (i := 70) rfl)) rfl
theorem lkc_RX12_301 : Cond.constantLong RX12 301 (1000000) ∈ gT := gT_of (tb_7 (List.mem_of_getElem? (i := 74) rfl)) rfl
theorem lkm_RL_124 : Cond.methodLink RL 124 yX12_cups ∈ gT := gT_of (tb_7 (List.mem_of_getElem? (i := 75) rfl)) rfl
theorem lkm_RL_128 : Cond.methodLink RL 128 yX12_mark ∈ gT := gT_of (tb_7 (List.mem_of_getElem? (i := 79) rfl)) rfl
theorem lkm_RX12_303 : Cond.methodLink RX12 303 yX12_markOf ∈ gT := gT_of (tb_7 (List.mem_of_getElem? (i := 83) rfl)) rfl
theorem lkm_RL_132 : Cond.methodLink RL 132 yX12_tick ∈ gT := gT_of (tb_7 (List.mem_of_getElem? (i := 87) rfl)) rfl
theorem lkm_RX12_314 : Cond.methodLink RX12 314 yX12_goOn ∈ gT := gT_of (tb_7 (List.mem_of_getElem? (i := 91) rfl)) rfl
theorem lkm_RX12_306 : Cond.methodLink RX12 306 yX12_comes ∈ gT := gT_of (tb_7 (List.mem_of_getElem? (i := 95) rfl)) rfl
theorem lkm_RX12_310 : Cond.methodLink RX12 310 yX12_leaves ∈ gT := gT_of (tb_7 (List.mem_of_getElem? (i := 99) rfl)) rfl
theorem lkm_RL_136 : Cond.methodLink RL 136 yX12_book ∈ gT := gT_of (tb_7 (List.mem_of_getElem? (i := 103) rfl)) rfl
theorem lkc_RX12_317 : Cond.constantLong RX12 317 (-10000002) ∈ gT := gT_of (tb_7 (List.mem_of_getElem? (i := 107) rfl)) rfl
theorem lkm_RL_140 : Cond.methodLink RL 140 yX12_world ∈ gT := gT_of (tb_7 (List.mem_of_getElem? (i := 108) rfl)) rfl
theorem lkm_RL_144 : Cond.methodLink RL 144 yX12_see ∈ gT := gT_of (tb_7 (List.mem_of_getElem? (i := 112) rfl)) rfl
theorem lkc_RX12_322 : Cond.constantLong RX12 322 (-9000000) ∈ gT := gT_of (tb_7 (List.mem_of_getElem? (i := 116) rfl)) rfl
theorem lkc_RX12_324 : Cond.constantLong RX12 324 (9000000) ∈ gT := gT_of (tb_7 (List.mem_of_getElem? (i := 117) rfl)) rfl
theorem lkc_RX12_326 : Cond.constant RX12 326 (100000) ∈ gT := gT_of (tb_7 (List.mem_of_getElem? (i := 118) rfl)) rfl
theorem lkm_RL_148 : Cond.methodLink RL 148 yX12_left ∈ gT := gT_of (tb_7 (List.mem_of_getElem? (i := 119) rfl)) rfl
theorem lkm_RX12_330 : Cond.methodLink RX12 330 yX12_leftOf ∈ gT := gT_of (tb_7 (List.mem_of_getElem? (i := 123) rfl)) rfl
theorem lkm_RX12_327 : Cond.methodLink RX12 327 yX12_restsIn ∈ gT := gT_of (tb_7 (List.mem_of_getElem? (i := 127) rfl)) rfl
theorem lkm_RL_152 : Cond.methodLink RL 152 yX12_inWorld ∈ gT := gT_of (tb_7 (List.mem_of_getElem? (i := 131) rfl)) rfl
theorem lkm_RL_156 : Cond.methodLink RL 156 yX12_next ∈ gT := gT_of (tb_7 (List.mem_of_getElem? (i := 135) rfl)) rfl
theorem lkm_RX12_333 : Cond.methodLink RX12 333 yX12_alikeOf ∈ gT := gT_of (tb_7 (List.mem_of_getElem? (i := 139) rfl)) rfl
theorem lkm_RL_160 : Cond.methodLink RL 160 yX12_alike ∈ gT := gT_of (tb_7 (List.mem_of_getElem? (i := 143) rfl)) rfl
theorem lkm_RL_164 : Cond.methodLink RL 164 yX12_sign ∈ gT := gT_of (tb_7 (List.mem_of_getElem? (i := 147) rfl)) rfl
theorem lkc_RX12_336 : Cond.constantLong RX12 336 (32) ∈ gT := gT_of (tb_7 (List.mem_of_getElem? (i := 151) rfl)) rfl
theorem lkc_RX12_338 : Cond.constantLong RX12 338 (126) ∈ gT := gT_of (tb_7 (List.mem_of_getElem? (i := 152) rfl)) rfl
theorem lkm_RL_168 : Cond.methodLink RL 168 yX12_wipe ∈ gT := gT_of (tb_7 (List.mem_of_getElem? (i := 153) rfl)) rfl
theorem lkm_RL_172 : Cond.methodLink RL 172 yX12_fault ∈ gT := gT_of (tb_7 (List.mem_of_getElem? (i := 157) rfl)) rfl
theorem lkm_RX12_353 : Cond.methodLink RX12 353 yX12_faultOf ∈ gT := gT_of (tb_7 (List.mem_of_getElem? (i := 161) rfl)) rfl
theorem lkm_RX12_347 : Cond.methodLink RX12 347 yX12_named ∈ gT := gT_of (tb_7 (List.mem_of_getElem? (i := 165) rfl)) rfl
theorem lkm_RX12_350 : Cond.methodLink RX12 350 yX12_isDigit ∈ gT := gT_of (tb_7 (List.mem_of_getElem? (i := 169) rfl)) rfl
theorem lkc_RX12_343 : Cond.constantLong RX12 343 (48) ∈ gT := gT_of (tb_7 (List.mem_of_getElem? (i := 172) rfl)) rfl
theorem lkc_RX12_345 : Cond.constantLong RX12 345 (57) ∈ gT := gT_of (tb_7 (List.mem_of_getElem? (i := 173) rfl)) rfl
theorem lkm_RL_176 : Cond.methodLink RL 176 yX12_holds ∈ gT := gT_of (tb_7 (List.mem_of_getElem? (i := 174) rfl)) rfl
theorem lkm_RX12_366 : Cond.methodLink RX12 366 yX12_isHeld ∈ gT := gT_of (tb_7 (List.mem_of_getElem? (i := 178) rfl)) rfl
theorem lkm_RX12_356 : Cond.methodLink RX12 356 yX12_begin ∈ gT := gT_of (tb_7 (List.mem_of_getElem? (i := 182) rfl)) rfl
theorem lkm_RX12_359 : Cond.methodLink RX12 359 yX12_came ∈ gT := gT_of (tb_7 (List.mem_of_getElem? (i := 186) rfl)) rfl
theorem lkm_RX12_363 : Cond.methodLink RX12 363 yX12_asked ∈ gT := gT_of (tb_7 (List.mem_of_getElem? (i := 190) rfl)) rfl
theorem lkm_RL_180 : Cond.methodLink RL 180 yX12_limit ∈ gT := gT_of (tb_7 (List.mem_of_getElem? (i := 194) rfl)) rfl
theorem lkc_RX12_369 : Cond.constantLong RX12 369 (2000000) ∈ gT := gT_of (tb_7 (List.mem_of_getElem? (i := 198) rfl)) rfl
theorem lkm_RL_184 : Cond.methodLink RL 184 yX12_worth ∈ gT := gT_of (tb_7 (List.mem_of_getElem? (i := 199) rfl)) rfl
theorem lkm_RX12_387 : Cond.methodLink RX12 387 yX12_plan ∈ gT := gT_of (tb_7 (List.mem_of_getElem? (i := 203) rfl)) rfl
theorem lkm_RX12_380 : Cond.methodLink RX12 380 yX12_draws ∈ gT := gT_of (tb_7 (List.mem_of_getElem? (i := 207) rfl)) rfl
theorem lkm_RX12_383 : Cond.methodLink RX12 383 yX12_mayBe ∈ gT := gT_of (tb_7 (List.mem_of_getElem? (i := 211) rfl)) rfl
theorem lkm_RL_188 : Cond.methodLink RL 188 yX12_level ∈ gT := gT_of (tb_7 (List.mem_of_getElem? (i := 215) rfl)) rfl
theorem lkm_RL_192 : Cond.methodLink RL 192 yX12_draw ∈ gT := gT_of (tb_7 (List.mem_of_getElem? (i := 219) rfl)) rfl
theorem lkm_RL_196 : Cond.methodLink RL 196 yX12_price ∈ gT := gT_of (tb_7 (List.mem_of_getElem? (i := 223) rfl)) rfl
theorem lkm_RL_200 : Cond.methodLink RL 200 yX12_harm ∈ gT := gT_of (tb_7 (List.mem_of_getElem? (i := 227) rfl)) rfl
theorem lkm_RX12_390 : Cond.methodLink RX12 390 yX12_drawn ∈ gT := gT_of (tb_7 (List.mem_of_getElem? (i := 231) rfl)) rfl
theorem lkm_RL_204 : Cond.methodLink RL 204 yX12_share ∈ gT := gT_of (tb_7 (List.mem_of_getElem? (i := 235) rfl)) rfl
theorem lkm_RL_208 : Cond.methodLink RL 208 yX12_count ∈ gT := gT_of (tb_7 (List.mem_of_getElem? (i := 239) rfl)) rfl
theorem pf_X11_init : plainFor yX11_init = true := by decide +kernel
theorem mb_X11_init : MB yX11_init cX11_init 1 none 0 := ⟨gT_of (tb_1 (List.mem_of_getElem? (i := 22) rfl)) rfl, gT_of (tb_1 (List.mem_of_getElem? (i := 1) rfl)) rfl, ⟨by decide +kernel, by decide +kernel, by decide +kernel⟩, by decide⟩
theorem pf_X11_cell : plainFor yX11_cell = true := by decide +kernel
theorem mb_X11_cell : MB yX11_cell cX11_cell 4 (some .int) 3 := ⟨gT_of (tb_2 (List.mem_of_getElem? (i := 232) rfl)) rfl, gT_of (tb_1 (List.mem_of_getElem? (i := 1) rfl)) rfl, ⟨by decide +kernel, by decide +kernel, by decide +kernel⟩, by decide⟩
theorem mi_X11_cell : Cond.instanceMethod yX11_cell ∈ gT := gT_of (tb_2 (List.mem_of_getElem? (i := 230) rfl)) rfl
theorem me_X11_cell : Cond.selects yX11_cell.cls yX11_cell yX11_cell ∈ gT := gT_of (tb_2 (List.mem_of_getElem? (i := 231) rfl)) rfl
theorem pf_X11_link : plainFor yX11_link = true := by decide +kernel
theorem mb_X11_link : MB yX11_link cX11_link 4 (some .int) 3 := ⟨gT_of (tb_3 (List.mem_of_getElem? (i := 9) rfl)) rfl, gT_of (tb_1 (List.mem_of_getElem? (i := 1) rfl)) rfl, ⟨by decide +kernel, by decide +kernel, by decide +kernel⟩, by decide⟩
theorem mi_X11_link : Cond.instanceMethod yX11_link ∈ gT := gT_of (tb_3 (List.mem_of_getElem? (i := 7) rfl)) rfl
theorem me_X11_link : Cond.selects yX11_link.cls yX11_link yX11_link ∈ gT := gT_of (tb_3 (List.mem_of_getElem? (i := 8) rfl)) rfl
theorem pf_X11_river : plainFor yX11_river = true := by decide +kernel
theorem mb_X11_river : MB yX11_river cX11_river 5 (some .int) 4 := ⟨gT_of (tb_3 (List.mem_of_getElem? (i := 23) rfl)) rfl, gT_of (tb_1 (List.mem_of_getElem? (i := 1) rfl)) rfl, ⟨by decide +kernel, by decide +kernel, by decide +kernel⟩, by decide⟩
theorem mi_X11_river : Cond.instanceMethod yX11_river ∈ gT := gT_of (tb_3 (List.mem_of_getElem? (i := 21) rfl)) rfl
theorem me_X11_river : Cond.selects yX11_river.cls yX11_river yX11_river ∈ gT := gT_of (tb_3 (List.mem_of_getElem? (i := 22) rfl)) rfl
theorem pf_X11_drain : plainFor yX11_drain = true := by decide +kernel
theorem mb_X11_drain : MB yX11_drain cX11_drain 4 (some .int) 3 := ⟨gT_of (tb_3 (List.mem_of_getElem? (i := 31) rfl)) rfl, gT_of (tb_1 (List.mem_of_getElem? (i := 1) rfl)) rfl, ⟨by decide +kernel, by decide +kernel, by decide +kernel⟩, by decide⟩
theorem mi_X11_drain : Cond.instanceMethod yX11_drain ∈ gT := gT_of (tb_3 (List.mem_of_getElem? (i := 29) rfl)) rfl
theorem me_X11_drain : Cond.selects yX11_drain.cls yX11_drain yX11_drain ∈ gT := gT_of (tb_3 (List.mem_of_getElem? (i := 30) rfl)) rfl
theorem pf_X11_well : plainFor yX11_well = true := by decide +kernel
theorem mb_X11_well : MB yX11_well cX11_well 4 (some .int) 3 := ⟨gT_of (tb_3 (List.mem_of_getElem? (i := 39) rfl)) rfl, gT_of (tb_1 (List.mem_of_getElem? (i := 1) rfl)) rfl, ⟨by decide +kernel, by decide +kernel, by decide +kernel⟩, by decide⟩
theorem mi_X11_well : Cond.instanceMethod yX11_well ∈ gT := gT_of (tb_3 (List.mem_of_getElem? (i := 37) rfl)) rfl
theorem me_X11_well : Cond.selects yX11_well.cls yX11_well yX11_well ∈ gT := gT_of (tb_3 (List.mem_of_getElem? (i := 38) rfl)) rfl
theorem pf_X11_rain : plainFor yX11_rain = true := by decide +kernel
theorem mb_X11_rain : MB yX11_rain cX11_rain 3 (some .int) 2 := ⟨gT_of (tb_3 (List.mem_of_getElem? (i := 47) rfl)) rfl, gT_of (tb_1 (List.mem_of_getElem? (i := 1) rfl)) rfl, ⟨by decide +kernel, by decide +kernel, by decide +kernel⟩, by decide⟩
theorem mi_X11_rain : Cond.instanceMethod yX11_rain ∈ gT := gT_of (tb_3 (List.mem_of_getElem? (i := 45) rfl)) rfl
theorem me_X11_rain : Cond.selects yX11_rain.cls yX11_rain yX11_rain ∈ gT := gT_of (tb_3 (List.mem_of_getElem? (i := 46) rfl)) rfl
theorem pf_X11_ease : plainFor yX11_ease = true := by decide +kernel
theorem mb_X11_ease : MB yX11_ease cX11_ease 3 (some .int) 2 := ⟨gT_of (tb_3 (List.mem_of_getElem? (i := 54) rfl)) rfl, gT_of (tb_1 (List.mem_of_getElem? (i := 1) rfl)) rfl, ⟨by decide +kernel, by decide +kernel, by decide +kernel⟩, by decide⟩
theorem mi_X11_ease : Cond.instanceMethod yX11_ease ∈ gT := gT_of (tb_3 (List.mem_of_getElem? (i := 52) rfl)) rfl
theorem me_X11_ease : Cond.selects yX11_ease.cls yX11_ease yX11_ease ∈ gT := gT_of (tb_3 (List.mem_of_getElem? (i := 53) rfl)) rfl
theorem pf_X11_rate : plainFor yX11_rate = true := by decide +kernel
theorem mb_X11_rate : MB yX11_rate cX11_rate 3 (some .int) 2 := ⟨gT_of (tb_3 (List.mem_of_getElem? (i := 62) rfl)) rfl, gT_of (tb_1 (List.mem_of_getElem? (i := 1) rfl)) rfl, ⟨by decide +kernel, by decide +kernel, by decide +kernel⟩, by decide⟩
theorem mi_X11_rate : Cond.instanceMethod yX11_rate ∈ gT := gT_of (tb_3 (List.mem_of_getElem? (i := 60) rfl)) rfl
theorem me_X11_rate : Cond.selects yX11_rate.cls yX11_rate yX11_rate ∈ gT := gT_of (tb_3 (List.mem_of_getElem? (i := 61) rfl)) rfl
theorem pf_X11_stage : plainFor yX11_stage = true := by decide +kernel
theorem mb_X11_stage : MB yX11_stage cX11_stage 3 (some .int) 2 := ⟨gT_of (tb_3 (List.mem_of_getElem? (i := 70) rfl)) rfl, gT_of (tb_1 (List.mem_of_getElem? (i := 1) rfl)) rfl, ⟨by decide +kernel, by decide +kernel, by decide +kernel⟩, by decide⟩
theorem mi_X11_stage : Cond.instanceMethod yX11_stage ∈ gT := gT_of (tb_3 (List.mem_of_getElem? (i := 68) rfl)) rfl
theorem me_X11_stage : Cond.selects yX11_stage.cls yX11_stage yX11_stage ∈ gT := gT_of (tb_3 (List.mem_of_getElem? (i := 69) rfl)) rfl
theorem pf_X11_pattern : plainFor yX11_pattern = true := by decide +kernel
theorem mb_X11_pattern : MB yX11_pattern cX11_pattern 1 (some .int) 0 := ⟨gT_of (tb_3 (List.mem_of_getElem? (i := 78) rfl)) rfl, gT_of (tb_1 (List.mem_of_getElem? (i := 1) rfl)) rfl, ⟨by decide +kernel, by decide +kernel, by decide +kernel⟩, by decide⟩
theorem mi_X11_pattern : Cond.instanceMethod yX11_pattern ∈ gT := gT_of (tb_3 (List.mem_of_getElem? (i := 76) rfl)) rfl
theorem me_X11_pattern : Cond.selects yX11_pattern.cls yX11_pattern yX11_pattern ∈ gT := gT_of (tb_3 (List.mem_of_getElem? (i := 77) rfl)) rfl
theorem pf_X11_head : plainFor yX11_head = true := by decide +kernel
theorem mb_X11_head : MB yX11_head cX11_head 3 (some .long) 2 := ⟨gT_of (tb_3 (List.mem_of_getElem? (i := 122) rfl)) rfl, gT_of (tb_1 (List.mem_of_getElem? (i := 1) rfl)) rfl, ⟨by decide +kernel, by decide +kernel, by decide +kernel⟩, by decide⟩
theorem mi_X11_head : Cond.instanceMethod yX11_head ∈ gT := gT_of (tb_3 (List.mem_of_getElem? (i := 120) rfl)) rfl
theorem me_X11_head : Cond.selects yX11_head.cls yX11_head yX11_head ∈ gT := gT_of (tb_3 (List.mem_of_getElem? (i := 121) rfl)) rfl
theorem pf_X11_milli : plainFor yX11_milli = true := by decide +kernel
theorem mb_X11_milli : MB yX11_milli cX11_milli 2 (some .int) 1 := ⟨gT_of (tb_3 (List.mem_of_getElem? (i := 137) rfl)) rfl, gT_of (tb_1 (List.mem_of_getElem? (i := 1) rfl)) rfl, ⟨by decide +kernel, by decide +kernel, by decide +kernel⟩, by decide⟩
theorem mi_X11_milli : Cond.instanceMethod yX11_milli ∈ gT := gT_of (tb_3 (List.mem_of_getElem? (i := 135) rfl)) rfl
theorem me_X11_milli : Cond.selects yX11_milli.cls yX11_milli yX11_milli ∈ gT := gT_of (tb_3 (List.mem_of_getElem? (i := 136) rfl)) rfl
theorem pf_X11_flow : plainFor yX11_flow = true := by decide +kernel
theorem mb_X11_flow : MB yX11_flow cX11_flow 2 (some .int) 1 := ⟨gT_of (tb_3 (List.mem_of_getElem? (i := 152) rfl)) rfl, gT_of (tb_1 (List.mem_of_getElem? (i := 1) rfl)) rfl, ⟨by decide +kernel, by decide +kernel, by decide +kernel⟩, by decide⟩
theorem mi_X11_flow : Cond.instanceMethod yX11_flow ∈ gT := gT_of (tb_3 (List.mem_of_getElem? (i := 150) rfl)) rfl
theorem me_X11_flow : Cond.selects yX11_flow.cls yX11_flow yX11_flow ∈ gT := gT_of (tb_3 (List.mem_of_getElem? (i := 151) rfl)) rfl
theorem pf_X11_gives : plainFor yX11_gives = true := by decide +kernel
theorem mb_X11_gives : MB yX11_gives cX11_gives 2 (some .int) 1 := ⟨gT_of (tb_3 (List.mem_of_getElem? (i := 161) rfl)) rfl, gT_of (tb_1 (List.mem_of_getElem? (i := 1) rfl)) rfl, ⟨by decide +kernel, by decide +kernel, by decide +kernel⟩, by decide⟩
theorem mi_X11_gives : Cond.instanceMethod yX11_gives ∈ gT := gT_of (tb_3 (List.mem_of_getElem? (i := 159) rfl)) rfl
theorem me_X11_gives : Cond.selects yX11_gives.cls yX11_gives yX11_gives ∈ gT := gT_of (tb_3 (List.mem_of_getElem? (i := 160) rfl)) rfl
theorem pf_X11_takes : plainFor yX11_takes = true := by decide +kernel
theorem mb_X11_takes : MB yX11_takes cX11_takes 2 (some .int) 1 := ⟨gT_of (tb_3 (List.mem_of_getElem? (i := 169) rfl)) rfl, gT_of (tb_1 (List.mem_of_getElem? (i := 1) rfl)) rfl, ⟨by decide +kernel, by decide +kernel, by decide +kernel⟩, by decide⟩
theorem mi_X11_takes : Cond.instanceMethod yX11_takes ∈ gT := gT_of (tb_3 (List.mem_of_getElem? (i := 167) rfl)) rfl
theorem me_X11_takes : Cond.selects yX11_takes.cls yX11_takes yX11_takes ∈ gT := gT_of (tb_3 (List.mem_of_getElem? (i := 168) rfl)) rfl
theorem pf_X11_dry : plainFor yX11_dry = true := by decide +kernel
theorem mb_X11_dry : MB yX11_dry cX11_dry 2 (some .int) 1 := ⟨gT_of (tb_3 (List.mem_of_getElem? (i := 181) rfl)) rfl, gT_of (tb_1 (List.mem_of_getElem? (i := 1) rfl)) rfl, ⟨by decide +kernel, by decide +kernel, by decide +kernel⟩, by decide⟩
theorem mi_X11_dry : Cond.instanceMethod yX11_dry ∈ gT := gT_of (tb_3 (List.mem_of_getElem? (i := 179) rfl)) rfl
theorem me_X11_dry : Cond.selects yX11_dry.cls yX11_dry yX11_dry ∈ gT := gT_of (tb_3 (List.mem_of_getElem? (i := 180) rfl)) rfl
theorem pf_X11_salt : plainFor yX11_salt = true := by decide +kernel
theorem mb_X11_salt : MB yX11_salt cX11_salt 2 (some .int) 1 := ⟨gT_of (tb_3 (List.mem_of_getElem? (i := 189) rfl)) rfl, gT_of (tb_1 (List.mem_of_getElem? (i := 1) rfl)) rfl, ⟨by decide +kernel, by decide +kernel, by decide +kernel⟩, by decide⟩
theorem mi_X11_salt : Cond.instanceMethod yX11_salt ∈ gT := gT_of (tb_3 (List.mem_of_getElem? (i := 187) rfl)) rfl
theorem me_X11_salt : Cond.selects yX11_salt.cls yX11_salt yX11_salt ∈ gT := gT_of (tb_3 (List.mem_of_getElem? (i := 188) rfl)) rfl
theorem pf_X11_through : plainFor yX11_through = true := by decide +kernel
theorem mb_X11_through : MB yX11_through cX11_through 2 (some .long) 1 := ⟨gT_of (tb_3 (List.mem_of_getElem? (i := 194) rfl)) rfl, gT_of (tb_1 (List.mem_of_getElem? (i := 1) rfl)) rfl, ⟨by decide +kernel, by decide +kernel, by decide +kernel⟩, by decide⟩
theorem mi_X11_through : Cond.instanceMethod yX11_through ∈ gT := gT_of (tb_3 (List.mem_of_getElem? (i := 192) rfl)) rfl
theorem me_X11_through : Cond.selects yX11_through.cls yX11_through yX11_through ∈ gT := gT_of (tb_3 (List.mem_of_getElem? (i := 193) rfl)) rfl
theorem pf_X11_way : plainFor yX11_way = true := by decide +kernel
theorem mb_X11_way : MB yX11_way cX11_way 3 (some .int) 2 := ⟨gT_of (tb_3 (List.mem_of_getElem? (i := 206) rfl)) rfl, gT_of (tb_1 (List.mem_of_getElem? (i := 1) rfl)) rfl, ⟨by decide +kernel, by decide +kernel, by decide +kernel⟩, by decide⟩
theorem mi_X11_way : Cond.instanceMethod yX11_way ∈ gT := gT_of (tb_3 (List.mem_of_getElem? (i := 204) rfl)) rfl
theorem me_X11_way : Cond.selects yX11_way.cls yX11_way yX11_way ∈ gT := gT_of (tb_3 (List.mem_of_getElem? (i := 205) rfl)) rfl
theorem pf_X11_end : plainFor yX11_end = true := by decide +kernel
theorem mb_X11_end : MB yX11_end cX11_end 2 (some .int) 1 := ⟨gT_of (tb_3 (List.mem_of_getElem? (i := 235) rfl)) rfl, gT_of (tb_1 (List.mem_of_getElem? (i := 1) rfl)) rfl, ⟨by decide +kernel, by decide +kernel, by decide +kernel⟩, by decide⟩
theorem mi_X11_end : Cond.instanceMethod yX11_end ∈ gT := gT_of (tb_3 (List.mem_of_getElem? (i := 233) rfl)) rfl
theorem me_X11_end : Cond.selects yX11_end.cls yX11_end yX11_end ∈ gT := gT_of (tb_3 (List.mem_of_getElem? (i := 234) rfl)) rfl
theorem pf_X11_time : plainFor yX11_time = true := by decide +kernel
theorem mb_X11_time : MB yX11_time cX11_time 3 (some .long) 2 := ⟨gT_of (tb_4 (List.mem_of_getElem? (i := 3) rfl)) rfl, gT_of (tb_1 (List.mem_of_getElem? (i := 1) rfl)) rfl, ⟨by decide +kernel, by decide +kernel, by decide +kernel⟩, by decide⟩
theorem mi_X11_time : Cond.instanceMethod yX11_time ∈ gT := gT_of (tb_4 (List.mem_of_getElem? (i := 1) rfl)) rfl
theorem me_X11_time : Cond.selects yX11_time.cls yX11_time yX11_time ∈ gT := gT_of (tb_4 (List.mem_of_getElem? (i := 2) rfl)) rfl
theorem pf_X11_wayTime : plainFor yX11_wayTime = true := by decide +kernel
theorem mb_X11_wayTime : MB yX11_wayTime cX11_wayTime 2 (some .long) 1 := ⟨gT_of (tb_4 (List.mem_of_getElem? (i := 18) rfl)) rfl, gT_of (tb_1 (List.mem_of_getElem? (i := 1) rfl)) rfl, ⟨by decide +kernel, by decide +kernel, by decide +kernel⟩, by decide⟩
theorem mi_X11_wayTime : Cond.instanceMethod yX11_wayTime ∈ gT := gT_of (tb_4 (List.mem_of_getElem? (i := 16) rfl)) rfl
theorem me_X11_wayTime : Cond.selects yX11_wayTime.cls yX11_wayTime yX11_wayTime ∈ gT := gT_of (tb_4 (List.mem_of_getElem? (i := 17) rfl)) rfl
theorem pf_X11_zone : plainFor yX11_zone = true := by decide +kernel
theorem mb_X11_zone : MB yX11_zone cX11_zone 2 (some .int) 1 := ⟨gT_of (tb_4 (List.mem_of_getElem? (i := 31) rfl)) rfl, gT_of (tb_1 (List.mem_of_getElem? (i := 1) rfl)) rfl, ⟨by decide +kernel, by decide +kernel, by decide +kernel⟩, by decide⟩
theorem mi_X11_zone : Cond.instanceMethod yX11_zone ∈ gT := gT_of (tb_4 (List.mem_of_getElem? (i := 29) rfl)) rfl
theorem me_X11_zone : Cond.selects yX11_zone.cls yX11_zone yX11_zone ∈ gT := gT_of (tb_4 (List.mem_of_getElem? (i := 30) rfl)) rfl
theorem pf_X11_spill : plainFor yX11_spill = true := by decide +kernel
theorem mb_X11_spill : MB yX11_spill cX11_spill 3 (some .int) 2 := ⟨gT_of (tb_4 (List.mem_of_getElem? (i := 43) rfl)) rfl, gT_of (tb_1 (List.mem_of_getElem? (i := 1) rfl)) rfl, ⟨by decide +kernel, by decide +kernel, by decide +kernel⟩, by decide⟩
theorem mi_X11_spill : Cond.instanceMethod yX11_spill ∈ gT := gT_of (tb_4 (List.mem_of_getElem? (i := 41) rfl)) rfl
theorem me_X11_spill : Cond.selects yX11_spill.cls yX11_spill yX11_spill ∈ gT := gT_of (tb_4 (List.mem_of_getElem? (i := 42) rfl)) rfl
theorem pf_X11_pour : plainFor yX11_pour = true := by decide +kernel
theorem mb_X11_pour : MB yX11_pour cX11_pour 3 (some .int) 2 := ⟨gT_of (tb_4 (List.mem_of_getElem? (i := 77) rfl)) rfl, gT_of (tb_1 (List.mem_of_getElem? (i := 1) rfl)) rfl, ⟨by decide +kernel, by decide +kernel, by decide +kernel⟩, by decide⟩
theorem mi_X11_pour : Cond.instanceMethod yX11_pour ∈ gT := gT_of (tb_4 (List.mem_of_getElem? (i := 75) rfl)) rfl
theorem me_X11_pour : Cond.selects yX11_pour.cls yX11_pour yX11_pour ∈ gT := gT_of (tb_4 (List.mem_of_getElem? (i := 76) rfl)) rfl
theorem pf_X11_cups : plainFor yX11_cups = true := by decide +kernel
theorem mb_X11_cups : MB yX11_cups cX11_cups 2 (some .int) 1 := ⟨gT_of (tb_4 (List.mem_of_getElem? (i := 87) rfl)) rfl, gT_of (tb_1 (List.mem_of_getElem? (i := 1) rfl)) rfl, ⟨by decide +kernel, by decide +kernel, by decide +kernel⟩, by decide⟩
theorem mi_X11_cups : Cond.instanceMethod yX11_cups ∈ gT := gT_of (tb_4 (List.mem_of_getElem? (i := 85) rfl)) rfl
theorem me_X11_cups : Cond.selects yX11_cups.cls yX11_cups yX11_cups ∈ gT := gT_of (tb_4 (List.mem_of_getElem? (i := 86) rfl)) rfl
theorem pf_X11_mark : plainFor yX11_mark = true := by decide +kernel
theorem mb_X11_mark : MB yX11_mark cX11_mark 2 (some .int) 1 := ⟨gT_of (tb_4 (List.mem_of_getElem? (i := 91) rfl)) rfl, gT_of (tb_1 (List.mem_of_getElem? (i := 1) rfl)) rfl, ⟨by decide +kernel, by decide +kernel, by decide +kernel⟩, by decide⟩
theorem mi_X11_mark : Cond.instanceMethod yX11_mark ∈ gT := gT_of (tb_4 (List.mem_of_getElem? (i := 89) rfl)) rfl
theorem me_X11_mark : Cond.selects yX11_mark.cls yX11_mark yX11_mark ∈ gT := gT_of (tb_4 (List.mem_of_getElem? (i := 90) rfl)) rfl
theorem pf_X11_tick : plainFor yX11_tick = true := by decide +kernel
theorem mb_X11_tick : MB yX11_tick cX11_tick 3 (some .int) 1 := ⟨gT_of (tb_4 (List.mem_of_getElem? (i := 99) rfl)) rfl, gT_of (tb_1 (List.mem_of_getElem? (i := 1) rfl)) rfl, ⟨by decide +kernel, by decide +kernel, by decide +kernel⟩, by decide⟩
theorem mi_X11_tick : Cond.instanceMethod yX11_tick ∈ gT := gT_of (tb_4 (List.mem_of_getElem? (i := 97) rfl)) rfl
theorem me_X11_tick : Cond.selects yX11_tick.cls yX11_tick yX11_tick ∈ gT := gT_of (tb_4 (List.mem_of_getElem? (i := 98) rfl)) rfl
theorem pf_X11_book : plainFor yX11_book = true := by decide +kernel
theorem mb_X11_book : MB yX11_book cX11_book 2 (some .long) 1 := ⟨gT_of (tb_4 (List.mem_of_getElem? (i := 133) rfl)) rfl, gT_of (tb_1 (List.mem_of_getElem? (i := 1) rfl)) rfl, ⟨by decide +kernel, by decide +kernel, by decide +kernel⟩, by decide⟩
theorem mi_X11_book : Cond.instanceMethod yX11_book ∈ gT := gT_of (tb_4 (List.mem_of_getElem? (i := 131) rfl)) rfl
theorem me_X11_book : Cond.selects yX11_book.cls yX11_book yX11_book ∈ gT := gT_of (tb_4 (List.mem_of_getElem? (i := 132) rfl)) rfl
theorem pf_X11_world : plainFor yX11_world = true := by decide +kernel
theorem mb_X11_world : MB yX11_world cX11_world 3 (some .int) 2 := ⟨gT_of (tb_4 (List.mem_of_getElem? (i := 138) rfl)) rfl, gT_of (tb_1 (List.mem_of_getElem? (i := 1) rfl)) rfl, ⟨by decide +kernel, by decide +kernel, by decide +kernel⟩, by decide⟩
theorem mi_X11_world : Cond.instanceMethod yX11_world ∈ gT := gT_of (tb_4 (List.mem_of_getElem? (i := 136) rfl)) rfl
theorem me_X11_world : Cond.selects yX11_world.cls yX11_world yX11_world ∈ gT := gT_of (tb_4 (List.mem_of_getElem? (i := 137) rfl)) rfl
theorem pf_X11_see : plainFor yX11_see = true := by decide +kernel
theorem mb_X11_see : MB yX11_see cX11_see 4 (some .int) 3 := ⟨gT_of (tb_4 (List.mem_of_getElem? (i := 146) rfl)) rfl, gT_of (tb_1 (List.mem_of_getElem? (i := 1) rfl)) rfl, ⟨by decide +kernel, by decide +kernel, by decide +kernel⟩, by decide⟩
theorem mi_X11_see : Cond.instanceMethod yX11_see ∈ gT := gT_of (tb_4 (List.mem_of_getElem? (i := 144) rfl)) rfl
theorem me_X11_see : Cond.selects yX11_see.cls yX11_see yX11_see ∈ gT := gT_of (tb_4 (List.mem_of_getElem? (i := 145) rfl)) rfl
theorem pf_X11_left : plainFor yX11_left = true := by decide +kernel
theorem mb_X11_left : MB yX11_left cX11_left 1 (some .int) 0 := ⟨gT_of (tb_4 (List.mem_of_getElem? (i := 158) rfl)) rfl, gT_of (tb_1 (List.mem_of_getElem? (i := 1) rfl)) rfl, ⟨by decide +kernel, by decide +kernel, by decide +kernel⟩, by decide⟩
theorem mi_X11_left : Cond.instanceMethod yX11_left ∈ gT := gT_of (tb_4 (List.mem_of_getElem? (i := 156) rfl)) rfl
theorem me_X11_left : Cond.selects yX11_left.cls yX11_left yX11_left ∈ gT := gT_of (tb_4 (List.mem_of_getElem? (i := 157) rfl)) rfl
theorem pf_X11_inWorld : plainFor yX11_inWorld = true := by decide +kernel
theorem mb_X11_inWorld : MB yX11_inWorld cX11_inWorld 3 (some .int) 2 := ⟨gT_of (tb_4 (List.mem_of_getElem? (i := 185) rfl)) rfl, gT_of (tb_1 (List.mem_of_getElem? (i := 1) rfl)) rfl, ⟨by decide +kernel, by decide +kernel, by decide +kernel⟩, by decide⟩
theorem mi_X11_inWorld : Cond.instanceMethod yX11_inWorld ∈ gT := gT_of (tb_4 (List.mem_of_getElem? (i := 183) rfl)) rfl
theorem me_X11_inWorld : Cond.selects yX11_inWorld.cls yX11_inWorld yX11_inWorld ∈ gT := gT_of (tb_4 (List.mem_of_getElem? (i := 184) rfl)) rfl
theorem pf_X11_next : plainFor yX11_next = true := by decide +kernel
theorem mb_X11_next : MB yX11_next cX11_next 1 (some .int) 0 := ⟨gT_of (tb_4 (List.mem_of_getElem? (i := 194) rfl)) rfl, gT_of (tb_1 (List.mem_of_getElem? (i := 1) rfl)) rfl, ⟨by decide +kernel, by decide +kernel, by decide +kernel⟩, by decide⟩
theorem mi_X11_next : Cond.instanceMethod yX11_next ∈ gT := gT_of (tb_4 (List.mem_of_getElem? (i := 192) rfl)) rfl
theorem me_X11_next : Cond.selects yX11_next.cls yX11_next yX11_next ∈ gT := gT_of (tb_4 (List.mem_of_getElem? (i := 193) rfl)) rfl
theorem pf_X11_alike : plainFor yX11_alike = true := by decide +kernel
theorem mb_X11_alike : MB yX11_alike cX11_alike 2 (some .int) 1 := ⟨gT_of (tb_4 (List.mem_of_getElem? (i := 208) rfl)) rfl, gT_of (tb_1 (List.mem_of_getElem? (i := 1) rfl)) rfl, ⟨by decide +kernel, by decide +kernel, by decide +kernel⟩, by decide⟩
theorem mi_X11_alike : Cond.instanceMethod yX11_alike ∈ gT := gT_of (tb_4 (List.mem_of_getElem? (i := 206) rfl)) rfl
theorem me_X11_alike : Cond.selects yX11_alike.cls yX11_alike yX11_alike ∈ gT := gT_of (tb_4 (List.mem_of_getElem? (i := 207) rfl)) rfl
theorem pf_X11_sign : plainFor yX11_sign = true := by decide +kernel
theorem mb_X11_sign : MB yX11_sign cX11_sign 2 (some .int) 1 := ⟨gT_of (tb_4 (List.mem_of_getElem? (i := 213) rfl)) rfl, gT_of (tb_1 (List.mem_of_getElem? (i := 1) rfl)) rfl, ⟨by decide +kernel, by decide +kernel, by decide +kernel⟩, by decide⟩
theorem mi_X11_sign : Cond.instanceMethod yX11_sign ∈ gT := gT_of (tb_4 (List.mem_of_getElem? (i := 211) rfl)) rfl
theorem me_X11_sign : Cond.selects yX11_sign.cls yX11_sign yX11_sign ∈ gT := gT_of (tb_4 (List.mem_of_getElem? (i := 212) rfl)) rfl
theorem pf_X11_wipe : plainFor yX11_wipe = true := by decide +kernel
theorem mb_X11_wipe : MB yX11_wipe cX11_wipe 2 (some .int) 0 := ⟨gT_of (tb_4 (List.mem_of_getElem? (i := 221) rfl)) rfl, gT_of (tb_1 (List.mem_of_getElem? (i := 1) rfl)) rfl, ⟨by decide +kernel, by decide +kernel, by decide +kernel⟩, by decide⟩
theorem mi_X11_wipe : Cond.instanceMethod yX11_wipe ∈ gT := gT_of (tb_4 (List.mem_of_getElem? (i := 219) rfl)) rfl
theorem me_X11_wipe : Cond.selects yX11_wipe.cls yX11_wipe yX11_wipe ∈ gT := gT_of (tb_4 (List.mem_of_getElem? (i := 220) rfl)) rfl
theorem pf_X11_fault : plainFor yX11_fault = true := by decide +kernel
theorem mb_X11_fault : MB yX11_fault cX11_fault 1 (some .int) 0 := ⟨gT_of (tb_4 (List.mem_of_getElem? (i := 225) rfl)) rfl, gT_of (tb_1 (List.mem_of_getElem? (i := 1) rfl)) rfl, ⟨by decide +kernel, by decide +kernel, by decide +kernel⟩, by decide⟩
theorem mi_X11_fault : Cond.instanceMethod yX11_fault ∈ gT := gT_of (tb_4 (List.mem_of_getElem? (i := 223) rfl)) rfl
theorem me_X11_fault : Cond.selects yX11_fault.cls yX11_fault yX11_fault ∈ gT := gT_of (tb_4 (List.mem_of_getElem? (i := 224) rfl)) rfl
theorem pf_X11_holds : plainFor yX11_holds = true := by decide +kernel
theorem mb_X11_holds : MB yX11_holds cX11_holds 1 (some .int) 0 := ⟨gT_of (tb_5 (List.mem_of_getElem? (i := 22) rfl)) rfl, gT_of (tb_1 (List.mem_of_getElem? (i := 1) rfl)) rfl, ⟨by decide +kernel, by decide +kernel, by decide +kernel⟩, by decide⟩
theorem mi_X11_holds : Cond.instanceMethod yX11_holds ∈ gT := gT_of (tb_5 (List.mem_of_getElem? (i := 20) rfl)) rfl
theorem me_X11_holds : Cond.selects yX11_holds.cls yX11_holds yX11_holds ∈ gT := gT_of (tb_5 (List.mem_of_getElem? (i := 21) rfl)) rfl
theorem pf_X11_limit : plainFor yX11_limit = true := by decide +kernel
theorem mb_X11_limit : MB yX11_limit cX11_limit 3 (some .int) 2 := ⟨gT_of (tb_5 (List.mem_of_getElem? (i := 63) rfl)) rfl, gT_of (tb_1 (List.mem_of_getElem? (i := 1) rfl)) rfl, ⟨by decide +kernel, by decide +kernel, by decide +kernel⟩, by decide⟩
theorem mi_X11_limit : Cond.instanceMethod yX11_limit ∈ gT := gT_of (tb_5 (List.mem_of_getElem? (i := 61) rfl)) rfl
theorem me_X11_limit : Cond.selects yX11_limit.cls yX11_limit yX11_limit ∈ gT := gT_of (tb_5 (List.mem_of_getElem? (i := 62) rfl)) rfl
theorem pf_X11_worth : plainFor yX11_worth = true := by decide +kernel
theorem mb_X11_worth : MB yX11_worth cX11_worth 1 (some .int) 0 := ⟨gT_of (tb_5 (List.mem_of_getElem? (i := 68) rfl)) rfl, gT_of (tb_1 (List.mem_of_getElem? (i := 1) rfl)) rfl, ⟨by decide +kernel, by decide +kernel, by decide +kernel⟩, by decide⟩
theorem mi_X11_worth : Cond.instanceMethod yX11_worth ∈ gT := gT_of (tb_5 (List.mem_of_getElem? (i := 66) rfl)) rfl
theorem me_X11_worth : Cond.selects yX11_worth.cls yX11_worth yX11_worth ∈ gT := gT_of (tb_5 (List.mem_of_getElem? (i := 67) rfl)) rfl
theorem pf_X11_level : plainFor yX11_level = true := by decide +kernel
theorem mb_X11_level : MB yX11_level cX11_level 2 (some .int) 1 := ⟨gT_of (tb_5 (List.mem_of_getElem? (i := 104) rfl)) rfl, gT_of (tb_1 (List.mem_of_getElem? (i := 1) rfl)) rfl, ⟨by decide +kernel, by decide +kernel, by decide +kernel⟩, by decide⟩
theorem mi_X11_level : Cond.instanceMethod yX11_level ∈ gT := gT_of (tb_5 (List.mem_of_getElem? (i := 102) rfl)) rfl
theorem me_X11_level : Cond.selects yX11_level.cls yX11_level yX11_level ∈ gT := gT_of (tb_5 (List.mem_of_getElem? (i := 103) rfl)) rfl
theorem pf_X11_draw : plainFor yX11_draw = true := by decide +kernel
theorem mb_X11_draw : MB yX11_draw cX11_draw 3 (some .int) 0 := ⟨gT_of (tb_5 (List.mem_of_getElem? (i := 108) rfl)) rfl, gT_of (tb_1 (List.mem_of_getElem? (i := 1) rfl)) rfl, ⟨by decide +kernel, by decide +kernel, by decide +kernel⟩, by decide⟩
theorem mi_X11_draw : Cond.instanceMethod yX11_draw ∈ gT := gT_of (tb_5 (List.mem_of_getElem? (i := 106) rfl)) rfl
theorem me_X11_draw : Cond.selects yX11_draw.cls yX11_draw yX11_draw ∈ gT := gT_of (tb_5 (List.mem_of_getElem? (i := 107) rfl)) rfl
theorem pf_X11_price : plainFor yX11_price = true := by decide +kernel
theorem mb_X11_price : MB yX11_price cX11_price 5 (some .int) 1 := ⟨gT_of (tb_5 (List.mem_of_getElem? (i := 113) rfl)) rfl, gT_of (tb_1 (List.mem_of_getElem? (i := 1) rfl)) rfl, ⟨by decide +kernel, by decide +kernel, by decide +kernel⟩, by decide⟩
theorem mi_X11_price : Cond.instanceMethod yX11_price ∈ gT := gT_of (tb_5 (List.mem_of_getElem? (i := 111) rfl)) rfl
theorem me_X11_price : Cond.selects yX11_price.cls yX11_price yX11_price ∈ gT := gT_of (tb_5 (List.mem_of_getElem? (i := 112) rfl)) rfl
theorem pf_X11_harm : plainFor yX11_harm = true := by decide +kernel
theorem mb_X11_harm : MB yX11_harm cX11_harm 2 (some .int) 1 := ⟨gT_of (tb_5 (List.mem_of_getElem? (i := 117) rfl)) rfl, gT_of (tb_1 (List.mem_of_getElem? (i := 1) rfl)) rfl, ⟨by decide +kernel, by decide +kernel, by decide +kernel⟩, by decide⟩
theorem mi_X11_harm : Cond.instanceMethod yX11_harm ∈ gT := gT_of (tb_5 (List.mem_of_getElem? (i := 115) rfl)) rfl
theorem me_X11_harm : Cond.selects yX11_harm.cls yX11_harm yX11_harm ∈ gT := gT_of (tb_5 (List.mem_of_getElem? (i := 116) rfl)) rfl
theorem pf_X11_share : plainFor yX11_share = true := by decide +kernel
theorem mb_X11_share : MB yX11_share cX11_share 3 (some .int) 2 := ⟨gT_of (tb_5 (List.mem_of_getElem? (i := 130) rfl)) rfl, gT_of (tb_1 (List.mem_of_getElem? (i := 1) rfl)) rfl, ⟨by decide +kernel, by decide +kernel, by decide +kernel⟩, by decide⟩
theorem mi_X11_share : Cond.instanceMethod yX11_share ∈ gT := gT_of (tb_5 (List.mem_of_getElem? (i := 128) rfl)) rfl
theorem me_X11_share : Cond.selects yX11_share.cls yX11_share yX11_share ∈ gT := gT_of (tb_5 (List.mem_of_getElem? (i := 129) rfl)) rfl
theorem pf_X11_count : plainFor yX11_count = true := by decide +kernel
theorem mb_X11_count : MB yX11_count cX11_count 2 (some .int) 1 := ⟨gT_of (tb_5 (List.mem_of_getElem? (i := 150) rfl)) rfl, gT_of (tb_1 (List.mem_of_getElem? (i := 1) rfl)) rfl, ⟨by decide +kernel, by decide +kernel, by decide +kernel⟩, by decide⟩
theorem mi_X11_count : Cond.instanceMethod yX11_count ∈ gT := gT_of (tb_5 (List.mem_of_getElem? (i := 148) rfl)) rfl
theorem me_X11_count : Cond.selects yX11_count.cls yX11_count yX11_count ∈ gT := gT_of (tb_5 (List.mem_of_getElem? (i := 149) rfl)) rfl
theorem pf_X11_atRest : plainFor yX11_atRest = true := by decide +kernel
theorem mb_X11_atRest : MB yX11_atRest cX11_atRest 1 (some .boolean) 0 := ⟨gT_of (tb_3 (List.mem_of_getElem? (i := 82) rfl)) rfl, gT_of (tb_1 (List.mem_of_getElem? (i := 1) rfl)) rfl, ⟨by decide +kernel, by decide +kernel, by decide +kernel⟩, by decide⟩
theorem mi_X11_atRest : Cond.instanceMethod yX11_atRest ∈ gT := gT_of (tb_3 (List.mem_of_getElem? (i := 81) rfl)) rfl
theorem me_X11_atRest : Cond.selects yX11_atRest.cls yX11_atRest yX11_atRest ∈ gT := gT_of (List.mem_append_left _ (List.mem_of_getElem? (i := 0) rfl)) rfl
theorem pf_X11_outside : plainFor yX11_outside = true := by decide +kernel
theorem mb_X11_outside : MB yX11_outside cX11_outside 3 (some .boolean) 3 := ⟨gT_of (tb_2 (List.mem_of_getElem? (i := 235) rfl)) rfl, gT_of (tb_1 (List.mem_of_getElem? (i := 1) rfl)) rfl, ⟨by decide +kernel, by decide +kernel, by decide +kernel⟩, by decide⟩
theorem ms_X11_outside : Cond.static yX11_outside ∈ gT := gT_of (tb_2 (List.mem_of_getElem? (i := 234) rfl)) rfl
theorem pf_X11_exchange : plainFor yX11_exchange = true := by decide +kernel
theorem mb_X11_exchange : MB yX11_exchange cX11_exchange 4 (some .int) 3 := ⟨gT_of (tb_3 (List.mem_of_getElem? (i := 50) rfl)) rfl, gT_of (tb_1 (List.mem_of_getElem? (i := 1) rfl)) rfl, ⟨by decide +kernel, by decide +kernel, by decide +kernel⟩, by decide⟩
theorem ms_X11_exchange : Cond.static yX11_exchange ∈ gT := gT_of (tb_3 (List.mem_of_getElem? (i := 49) rfl)) rfl
theorem pf_X11_milliOf : plainFor yX11_milliOf = true := by decide +kernel
theorem mb_X11_milliOf : MB yX11_milliOf cX11_milliOf 4 (some .int) 2 := ⟨gT_of (tb_3 (List.mem_of_getElem? (i := 144) rfl)) rfl, gT_of (tb_1 (List.mem_of_getElem? (i := 1) rfl)) rfl, ⟨by decide +kernel, by decide +kernel, by decide +kernel⟩, by decide⟩
theorem ms_X11_milliOf : Cond.static yX11_milliOf ∈ gT := gT_of (tb_3 (List.mem_of_getElem? (i := 143) rfl)) rfl
theorem pf_X11_longMilliOf : plainFor yX11_longMilliOf = true := by decide +kernel
theorem mb_X11_longMilliOf : MB yX11_longMilliOf cX11_longMilliOf 4 (some .long) 2 := ⟨gT_of (tb_4 (List.mem_of_getElem? (i := 27) rfl)) rfl, gT_of (tb_1 (List.mem_of_getElem? (i := 1) rfl)) rfl, ⟨by decide +kernel, by decide +kernel, by decide +kernel⟩, by decide⟩
theorem ms_X11_longMilliOf : Cond.static yX11_longMilliOf ∈ gT := gT_of (tb_4 (List.mem_of_getElem? (i := 26) rfl)) rfl
theorem pf_X11_leastTerm : plainFor yX11_leastTerm = true := by decide +kernel
theorem mb_X11_leastTerm : MB yX11_leastTerm cX11_leastTerm 7 (some .long) 3 := ⟨gT_of (tb_3 (List.mem_of_getElem? (i := 127) rfl)) rfl, gT_of (tb_1 (List.mem_of_getElem? (i := 1) rfl)) rfl, ⟨by decide +kernel, by decide +kernel, by decide +kernel⟩, by decide⟩
theorem ms_X11_leastTerm : Cond.static yX11_leastTerm ∈ gT := gT_of (tb_3 (List.mem_of_getElem? (i := 126) rfl)) rfl
theorem pf_X11_commonDivisor : plainFor yX11_commonDivisor = true := by decide +kernel
theorem mb_X11_commonDivisor : MB yX11_commonDivisor cX11_commonDivisor 7 (some .long) 2 := ⟨gT_of (tb_3 (List.mem_of_getElem? (i := 133) rfl)) rfl, gT_of (tb_1 (List.mem_of_getElem? (i := 1) rfl)) rfl, ⟨by decide +kernel, by decide +kernel, by decide +kernel⟩, by decide⟩
theorem ms_X11_commonDivisor : Cond.static yX11_commonDivisor ∈ gT := gT_of (tb_3 (List.mem_of_getElem? (i := 132) rfl)) rfl
theorem pf_X12_init : plainFor yX12_init = true := by decide +kernel
theorem mb_X12_init : MB yX12_init cX12_init 2 none 0 := ⟨gT_of (tb_5 (List.mem_of_getElem? (i := 163) rfl)) rfl, gT_of (tb_1 (List.mem_of_getElem? (i := 15) rfl)) rfl, ⟨by decide +kernel, by decide +kernel, by decide +kernel⟩, by decide⟩
theorem pf_X12_in : plainFor yX12_in = true := by decide +kernel
theorem mb_X12_in : MB yX12_in cX12_in 6 (some .boolean) 3 := ⟨gT_of (tb_6 (List.mem_of_getElem? (i := 96) rfl)) rfl, gT_of (tb_1 (List.mem_of_getElem? (i := 15) rfl)) rfl, ⟨by decide +kernel, by decide +kernel, by decide +kernel⟩, by decide⟩
theorem ms_X12_in : Cond.static yX12_in ∈ gT := gT_of (tb_6 (List.mem_of_getElem? (i := 95) rfl)) rfl
theorem pf_X12_noCell : plainFor yX12_noCell = true := by decide +kernel
theorem mb_X12_noCell : MB yX12_noCell cX12_noCell 2 (some .boolean) 1 := ⟨gT_of (tb_6 (List.mem_of_getElem? (i := 108) rfl)) rfl, gT_of (tb_1 (List.mem_of_getElem? (i := 15) rfl)) rfl, ⟨by decide +kernel, by decide +kernel, by decide +kernel⟩, by decide⟩
theorem mi_X12_noCell : Cond.instanceMethod yX12_noCell ∈ gT := gT_of (tb_6 (List.mem_of_getElem? (i := 107) rfl)) rfl
theorem me_X12_noCell : Cond.selects yX12_noCell.cls yX12_noCell yX12_noCell ∈ gT := gT_of (List.mem_append_left _ (List.mem_of_getElem? (i := 37) rfl)) rfl
theorem pf_X12_noWell : plainFor yX12_noWell = true := by decide +kernel
theorem mb_X12_noWell : MB yX12_noWell cX12_noWell 2 (some .boolean) 1 := ⟨gT_of (tb_6 (List.mem_of_getElem? (i := 142) rfl)) rfl, gT_of (tb_1 (List.mem_of_getElem? (i := 15) rfl)) rfl, ⟨by decide +kernel, by decide +kernel, by decide +kernel⟩, by decide⟩
theorem mi_X12_noWell : Cond.instanceMethod yX12_noWell ∈ gT := gT_of (tb_6 (List.mem_of_getElem? (i := 141) rfl)) rfl
theorem me_X12_noWell : Cond.selects yX12_noWell.cls yX12_noWell yX12_noWell ∈ gT := gT_of (List.mem_append_left _ (List.mem_of_getElem? (i := 38) rfl)) rfl
theorem pf_X12_down : plainFor yX12_down = true := by decide +kernel
theorem mb_X12_down : MB yX12_down cX12_down 6 (some .long) 2 := ⟨gT_of (tb_6 (List.mem_of_getElem? (i := 211) rfl)) rfl, gT_of (tb_1 (List.mem_of_getElem? (i := 15) rfl)) rfl, ⟨by decide +kernel, by decide +kernel, by decide +kernel⟩, by decide⟩
theorem ms_X12_down : Cond.static yX12_down ∈ gT := gT_of (tb_6 (List.mem_of_getElem? (i := 210) rfl)) rfl
theorem pf_X12_common : plainFor yX12_common = true := by decide +kernel
theorem mb_X12_common : MB yX12_common cX12_common 10 (some .long) 2 := ⟨gT_of (tb_6 (List.mem_of_getElem? (i := 199) rfl)) rfl, gT_of (tb_1 (List.mem_of_getElem? (i := 15) rfl)) rfl, ⟨by decide +kernel, by decide +kernel, by decide +kernel⟩, by decide⟩
theorem ms_X12_common : Cond.static yX12_common ∈ gT := gT_of (tb_6 (List.mem_of_getElem? (i := 198) rfl)) rfl
theorem pf_X12_cell : plainFor yX12_cell = true := by decide +kernel
theorem mb_X12_cell : MB yX12_cell cX12_cell 4 (some .int) 3 := ⟨gT_of (tb_6 (List.mem_of_getElem? (i := 92) rfl)) rfl, gT_of (tb_1 (List.mem_of_getElem? (i := 15) rfl)) rfl, ⟨by decide +kernel, by decide +kernel, by decide +kernel⟩, by decide⟩
theorem mi_X12_cell : Cond.instanceMethod yX12_cell ∈ gT := gT_of (tb_6 (List.mem_of_getElem? (i := 90) rfl)) rfl
theorem me_X12_cell : Cond.selects yX12_cell.cls yX12_cell yX12_cell ∈ gT := gT_of (tb_6 (List.mem_of_getElem? (i := 91) rfl)) rfl
theorem pf_X12_noEase : plainFor yX12_noEase = true := by decide +kernel
theorem mb_X12_noEase : MB yX12_noEase cX12_noEase 1 (some .boolean) 1 := ⟨gT_of (tb_6 (List.mem_of_getElem? (i := 112) rfl)) rfl, gT_of (tb_1 (List.mem_of_getElem? (i := 15) rfl)) rfl, ⟨by decide +kernel, by decide +kernel, by decide +kernel⟩, by decide⟩
theorem ms_X12_noEase : Cond.static yX12_noEase ∈ gT := gT_of (tb_6 (List.mem_of_getElem? (i := 111) rfl)) rfl
theorem pf_X12_link : plainFor yX12_link = true := by decide +kernel
theorem mb_X12_link : MB yX12_link cX12_link 4 (some .int) 3 := ⟨gT_of (tb_6 (List.mem_of_getElem? (i := 104) rfl)) rfl, gT_of (tb_1 (List.mem_of_getElem? (i := 15) rfl)) rfl, ⟨by decide +kernel, by decide +kernel, by decide +kernel⟩, by decide⟩
theorem mi_X12_link : Cond.instanceMethod yX12_link ∈ gT := gT_of (tb_6 (List.mem_of_getElem? (i := 102) rfl)) rfl
theorem me_X12_link : Cond.selects yX12_link.cls yX12_link yX12_link ∈ gT := gT_of (tb_6 (List.mem_of_getElem? (i := 103) rfl)) rfl
theorem pf_X12_river : plainFor yX12_river = true := by decide +kernel
theorem mb_X12_river : MB yX12_river cX12_river 5 (some .int) 4 := ⟨gT_of (tb_6 (List.mem_of_getElem? (i := 117) rfl)) rfl, gT_of (tb_1 (List.mem_of_getElem? (i := 15) rfl)) rfl, ⟨by decide +kernel, by decide +kernel, by decide +kernel⟩, by decide⟩
theorem mi_X12_river : Cond.instanceMethod yX12_river ∈ gT := gT_of (tb_6 (List.mem_of_getElem? (i := 115) rfl)) rfl
theorem me_X12_river : Cond.selects yX12_river.cls yX12_river yX12_river ∈ gT := gT_of (tb_6 (List.mem_of_getElem? (i := 116) rfl)) rfl
theorem pf_X12_drain : plainFor yX12_drain = true := by decide +kernel
theorem mb_X12_drain : MB yX12_drain cX12_drain 4 (some .int) 3 := ⟨gT_of (tb_6 (List.mem_of_getElem? (i := 122) rfl)) rfl, gT_of (tb_1 (List.mem_of_getElem? (i := 15) rfl)) rfl, ⟨by decide +kernel, by decide +kernel, by decide +kernel⟩, by decide⟩
theorem mi_X12_drain : Cond.instanceMethod yX12_drain ∈ gT := gT_of (tb_6 (List.mem_of_getElem? (i := 120) rfl)) rfl
theorem me_X12_drain : Cond.selects yX12_drain.cls yX12_drain yX12_drain ∈ gT := gT_of (tb_6 (List.mem_of_getElem? (i := 121) rfl)) rfl
theorem pf_X12_well : plainFor yX12_well = true := by decide +kernel
theorem mb_X12_well : MB yX12_well cX12_well 4 (some .int) 3 := ⟨gT_of (tb_6 (List.mem_of_getElem? (i := 126) rfl)) rfl, gT_of (tb_1 (List.mem_of_getElem? (i := 15) rfl)) rfl, ⟨by decide +kernel, by decide +kernel, by decide +kernel⟩, by decide⟩
theorem mi_X12_well : Cond.instanceMethod yX12_well ∈ gT := gT_of (tb_6 (List.mem_of_getElem? (i := 124) rfl)) rfl
theorem me_X12_well : Cond.selects yX12_well.cls yX12_well yX12_well ∈ gT := gT_of (tb_6 (List.mem_of_getElem? (i := 125) rfl)) rfl
theorem pf_X12_rain : plainFor yX12_rain = true := by decide +kernel
theorem mb_X12_rain : MB yX12_rain cX12_rain 4 (some .int) 2 := ⟨gT_of (tb_6 (List.mem_of_getElem? (i := 130) rfl)) rfl, gT_of (tb_1 (List.mem_of_getElem? (i := 15) rfl)) rfl, ⟨by decide +kernel, by decide +kernel, by decide +kernel⟩, by decide⟩
theorem mi_X12_rain : Cond.instanceMethod yX12_rain ∈ gT := gT_of (tb_6 (List.mem_of_getElem? (i := 128) rfl)) rfl
theorem me_X12_rain : Cond.selects yX12_rain.cls yX12_rain yX12_rain ∈ gT := gT_of (tb_6 (List.mem_of_getElem? (i := 129) rfl)) rfl
theorem pf_X12_ease : plainFor yX12_ease = true := by decide +kernel
theorem mb_X12_ease : MB yX12_ease cX12_ease 4 (some .int) 2 := ⟨gT_of (tb_6 (List.mem_of_getElem? (i := 134) rfl)) rfl, gT_of (tb_1 (List.mem_of_getElem? (i := 15) rfl)) rfl, ⟨by decide +kernel, by decide +kernel, by decide +kernel⟩, by decide⟩
theorem mi_X12_ease : Cond.instanceMethod yX12_ease ∈ gT := gT_of (tb_6 (List.mem_of_getElem? (i := 132) rfl)) rfl
theorem me_X12_ease : Cond.selects yX12_ease.cls yX12_ease yX12_ease ∈ gT := gT_of (tb_6 (List.mem_of_getElem? (i := 133) rfl)) rfl
theorem pf_X12_rate : plainFor yX12_rate = true := by decide +kernel
theorem mb_X12_rate : MB yX12_rate cX12_rate 4 (some .int) 2 := ⟨gT_of (tb_6 (List.mem_of_getElem? (i := 138) rfl)) rfl, gT_of (tb_1 (List.mem_of_getElem? (i := 15) rfl)) rfl, ⟨by decide +kernel, by decide +kernel, by decide +kernel⟩, by decide⟩
theorem mi_X12_rate : Cond.instanceMethod yX12_rate ∈ gT := gT_of (tb_6 (List.mem_of_getElem? (i := 136) rfl)) rfl
theorem me_X12_rate : Cond.selects yX12_rate.cls yX12_rate yX12_rate ∈ gT := gT_of (tb_6 (List.mem_of_getElem? (i := 137) rfl)) rfl
theorem pf_X12_stage : plainFor yX12_stage = true := by decide +kernel
theorem mb_X12_stage : MB yX12_stage cX12_stage 4 (some .int) 2 := ⟨gT_of (tb_6 (List.mem_of_getElem? (i := 146) rfl)) rfl, gT_of (tb_1 (List.mem_of_getElem? (i := 15) rfl)) rfl, ⟨by decide +kernel, by decide +kernel, by decide +kernel⟩, by decide⟩
theorem mi_X12_stage : Cond.instanceMethod yX12_stage ∈ gT := gT_of (tb_6 (List.mem_of_getElem? (i := 144) rfl)) rfl
theorem me_X12_stage : Cond.selects yX12_stage.cls yX12_stage yX12_stage ∈ gT := gT_of (tb_6 (List.mem_of_getElem? (i := 145) rfl)) rfl
theorem pf_X12_power : plainFor yX12_power = true := by decide +kernel
theorem mb_X12_power : MB yX12_power cX12_power 12 (some .long) 3 := ⟨gT_of (tb_6 (List.mem_of_getElem? (i := 179) rfl)) rfl, gT_of (tb_1 (List.mem_of_getElem? (i := 15) rfl)) rfl, ⟨by decide +kernel, by decide +kernel, by decide +kernel⟩, by decide⟩
theorem ms_X12_power : Cond.static yX12_power ∈ gT := gT_of (tb_6 (List.mem_of_getElem? (i := 178) rfl)) rfl
theorem pf_X12_determinant : plainFor yX12_determinant = true := by decide +kernel
theorem mb_X12_determinant : MB yX12_determinant cX12_determinant 14 (some .long) 2 := ⟨gT_of (tb_6 (List.mem_of_getElem? (i := 175) rfl)) rfl, gT_of (tb_1 (List.mem_of_getElem? (i := 15) rfl)) rfl, ⟨by decide +kernel, by decide +kernel, by decide +kernel⟩, by decide⟩
theorem mi_X12_determinant : Cond.instanceMethod yX12_determinant ∈ gT := gT_of (tb_6 (List.mem_of_getElem? (i := 174) rfl)) rfl
theorem me_X12_determinant : Cond.selects yX12_determinant.cls yX12_determinant yX12_determinant ∈ gT := gT_of (List.mem_append_left _ (List.mem_of_getElem? (i := 44) rfl)) rfl
theorem pf_X12_whole : plainFor yX12_whole = true := by decide +kernel
theorem mb_X12_whole : MB yX12_whole cX12_whole 10 (some .long) 1 := ⟨gT_of (tb_6 (List.mem_of_getElem? (i := 170) rfl)) rfl, gT_of (tb_1 (List.mem_of_getElem? (i := 15) rfl)) rfl, ⟨by decide +kernel, by decide +kernel, by decide +kernel⟩, by decide⟩
theorem mi_X12_whole : Cond.instanceMethod yX12_whole ∈ gT := gT_of (tb_6 (List.mem_of_getElem? (i := 169) rfl)) rfl
theorem me_X12_whole : Cond.selects yX12_whole.cls yX12_whole yX12_whole ∈ gT := gT_of (List.mem_append_left _ (List.mem_of_getElem? (i := 43) rfl)) rfl
theorem pf_X12_lay : plainFor yX12_lay = true := by decide +kernel
theorem mb_X12_lay : MB yX12_lay cX12_lay 5 none 1 := ⟨gT_of (tb_6 (List.mem_of_getElem? (i := 166) rfl)) rfl, gT_of (tb_1 (List.mem_of_getElem? (i := 15) rfl)) rfl, ⟨by decide +kernel, by decide +kernel, by decide +kernel⟩, by decide⟩
theorem mi_X12_lay : Cond.instanceMethod yX12_lay ∈ gT := gT_of (tb_6 (List.mem_of_getElem? (i := 165) rfl)) rfl
theorem me_X12_lay : Cond.selects yX12_lay.cls yX12_lay yX12_lay ∈ gT := gT_of (List.mem_append_left _ (List.mem_of_getElem? (i := 42) rfl)) rfl
theorem pf_X12_solves : plainFor yX12_solves = true := by decide +kernel
theorem mb_X12_solves : MB yX12_solves cX12_solves 3 (some .boolean) 0 := ⟨gT_of (tb_6 (List.mem_of_getElem? (i := 162) rfl)) rfl, gT_of (tb_1 (List.mem_of_getElem? (i := 15) rfl)) rfl, ⟨by decide +kernel, by decide +kernel, by decide +kernel⟩, by decide⟩
theorem mi_X12_solves : Cond.instanceMethod yX12_solves ∈ gT := gT_of (tb_6 (List.mem_of_getElem? (i := 161) rfl)) rfl
theorem me_X12_solves : Cond.selects yX12_solves.cls yX12_solves yX12_solves ∈ gT := gT_of (List.mem_append_left _ (List.mem_of_getElem? (i := 41) rfl)) rfl
theorem pf_X12_fits : plainFor yX12_fits = true := by decide +kernel
theorem mb_X12_fits : MB yX12_fits cX12_fits 4 (some .boolean) 1 := ⟨gT_of (tb_6 (List.mem_of_getElem? (i := 188) rfl)) rfl, gT_of (tb_1 (List.mem_of_getElem? (i := 15) rfl)) rfl, ⟨by decide +kernel, by decide +kernel, by decide +kernel⟩, by decide⟩
theorem mi_X12_fits : Cond.instanceMethod yX12_fits ∈ gT := gT_of (tb_6 (List.mem_of_getElem? (i := 187) rfl)) rfl
theorem me_X12_fits : Cond.selects yX12_fits.cls yX12_fits yX12_fits ∈ gT := gT_of (List.mem_append_left _ (List.mem_of_getElem? (i := 45) rfl)) rfl
theorem pf_X12_rests : plainFor yX12_rests = true := by decide +kernel
theorem mb_X12_rests : MB yX12_rests cX12_rests 1 (some .boolean) 0 := ⟨gT_of (tb_6 (List.mem_of_getElem? (i := 154) rfl)) rfl, gT_of (tb_1 (List.mem_of_getElem? (i := 15) rfl)) rfl, ⟨by decide +kernel, by decide +kernel, by decide +kernel⟩, by decide⟩
theorem mi_X12_rests : Cond.instanceMethod yX12_rests ∈ gT := gT_of (tb_6 (List.mem_of_getElem? (i := 153) rfl)) rfl
theorem me_X12_rests : Cond.selects yX12_rests.cls yX12_rests yX12_rests ∈ gT := gT_of (List.mem_append_left _ (List.mem_of_getElem? (i := 39) rfl)) rfl
theorem pf_X12_asIs : plainFor yX12_asIs = true := by decide +kernel
theorem mb_X12_asIs : MB yX12_asIs cX12_asIs 2 none 0 := ⟨gT_of (tb_6 (List.mem_of_getElem? (i := 158) rfl)) rfl, gT_of (tb_1 (List.mem_of_getElem? (i := 15) rfl)) rfl, ⟨by decide +kernel, by decide +kernel, by decide +kernel⟩, by decide⟩
theorem mi_X12_asIs : Cond.instanceMethod yX12_asIs ∈ gT := gT_of (tb_6 (List.mem_of_getElem? (i := 157) rfl)) rfl
theorem me_X12_asIs : Cond.selects yX12_asIs.cls yX12_asIs yX12_asIs ∈ gT := gT_of (List.mem_append_left _ (List.mem_of_getElem? (i := 40) rfl)) rfl
theorem pf_X12_milliOf : plainFor yX12_milliOf = true := by decide +kernel
theorem mb_X12_milliOf : MB yX12_milliOf cX12_milliOf 3 (some .int) 1 := ⟨gT_of (tb_6 (List.mem_of_getElem? (i := 208) rfl)) rfl, gT_of (tb_1 (List.mem_of_getElem? (i := 15) rfl)) rfl, ⟨by decide +kernel, by decide +kernel, by decide +kernel⟩, by decide⟩
theorem mi_X12_milliOf : Cond.instanceMethod yX12_milliOf ∈ gT := gT_of (tb_6 (List.mem_of_getElem? (i := 207) rfl)) rfl
theorem me_X12_milliOf : Cond.selects yX12_milliOf.cls yX12_milliOf yX12_milliOf ∈ gT := gT_of (List.mem_append_left _ (List.mem_of_getElem? (i := 46) rfl)) rfl
theorem pf_X12_flowOf : plainFor yX12_flowOf = true := by decide +kernel
theorem mb_X12_flowOf : MB yX12_flowOf cX12_flowOf 2 (some .long) 1 := ⟨gT_of (tb_6 (List.mem_of_getElem? (i := 219) rfl)) rfl, gT_of (tb_1 (List.mem_of_getElem? (i := 15) rfl)) rfl, ⟨by decide +kernel, by decide +kernel, by decide +kernel⟩, by decide⟩
theorem mi_X12_flowOf : Cond.instanceMethod yX12_flowOf ∈ gT := gT_of (tb_6 (List.mem_of_getElem? (i := 218) rfl)) rfl
theorem me_X12_flowOf : Cond.selects yX12_flowOf.cls yX12_flowOf yX12_flowOf ∈ gT := gT_of (List.mem_append_left _ (List.mem_of_getElem? (i := 47) rfl)) rfl
theorem pf_X12_givesOf : plainFor yX12_givesOf = true := by decide +kernel
theorem mb_X12_givesOf : MB yX12_givesOf cX12_givesOf 2 (some .long) 1 := ⟨gT_of (tb_6 (List.mem_of_getElem? (i := 227) rfl)) rfl, gT_of (tb_1 (List.mem_of_getElem? (i := 15) rfl)) rfl, ⟨by decide +kernel, by decide +kernel, by decide +kernel⟩, by decide⟩
theorem mi_X12_givesOf : Cond.instanceMethod yX12_givesOf ∈ gT := gT_of (tb_6 (List.mem_of_getElem? (i := 226) rfl)) rfl
theorem me_X12_givesOf : Cond.selects yX12_givesOf.cls yX12_givesOf yX12_givesOf ∈ gT := gT_of (List.mem_append_left _ (List.mem_of_getElem? (i := 48) rfl)) rfl
theorem pf_X12_takesOf : plainFor yX12_takesOf = true := by decide +kernel
theorem mb_X12_takesOf : MB yX12_takesOf cX12_takesOf 2 (some .long) 1 := ⟨gT_of (tb_6 (List.mem_of_getElem? (i := 235) rfl)) rfl, gT_of (tb_1 (List.mem_of_getElem? (i := 15) rfl)) rfl, ⟨by decide +kernel, by decide +kernel, by decide +kernel⟩, by decide⟩
theorem mi_X12_takesOf : Cond.instanceMethod yX12_takesOf ∈ gT := gT_of (tb_6 (List.mem_of_getElem? (i := 234) rfl)) rfl
theorem me_X12_takesOf : Cond.selects yX12_takesOf.cls yX12_takesOf yX12_takesOf ∈ gT := gT_of (List.mem_append_left _ (List.mem_of_getElem? (i := 49) rfl)) rfl
theorem pf_X12_pattern : plainFor yX12_pattern = true := by decide +kernel
theorem mb_X12_pattern : MB yX12_pattern cX12_pattern 1 (some .int) 0 := ⟨gT_of (tb_6 (List.mem_of_getElem? (i := 150) rfl)) rfl, gT_of (tb_1 (List.mem_of_getElem? (i := 15) rfl)) rfl, ⟨by decide +kernel, by decide +kernel, by decide +kernel⟩, by decide⟩
theorem mi_X12_pattern : Cond.instanceMethod yX12_pattern ∈ gT := gT_of (tb_6 (List.mem_of_getElem? (i := 148) rfl)) rfl
theorem me_X12_pattern : Cond.selects yX12_pattern.cls yX12_pattern yX12_pattern ∈ gT := gT_of (tb_6 (List.mem_of_getElem? (i := 149) rfl)) rfl
theorem pf_X12_told : plainFor yX12_told = true := by decide +kernel
theorem mb_X12_told : MB yX12_told cX12_told 7 (some .long) 3 := ⟨gT_of (tb_6 (List.mem_of_getElem? (i := 196) rfl)) rfl, gT_of (tb_1 (List.mem_of_getElem? (i := 15) rfl)) rfl, ⟨by decide +kernel, by decide +kernel, by decide +kernel⟩, by decide⟩
theorem ms_X12_told : Cond.static yX12_told ∈ gT := gT_of (tb_6 (List.mem_of_getElem? (i := 195) rfl)) rfl
theorem pf_X12_head : plainFor yX12_head = true := by decide +kernel
theorem mb_X12_head : MB yX12_head cX12_head 3 (some .long) 2 := ⟨gT_of (tb_6 (List.mem_of_getElem? (i := 192) rfl)) rfl, gT_of (tb_1 (List.mem_of_getElem? (i := 15) rfl)) rfl, ⟨by decide +kernel, by decide +kernel, by decide +kernel⟩, by decide⟩
theorem mi_X12_head : Cond.instanceMethod yX12_head ∈ gT := gT_of (tb_6 (List.mem_of_getElem? (i := 190) rfl)) rfl
theorem me_X12_head : Cond.selects yX12_head.cls yX12_head yX12_head ∈ gT := gT_of (tb_6 (List.mem_of_getElem? (i := 191) rfl)) rfl
theorem pf_X12_milli : plainFor yX12_milli = true := by decide +kernel
theorem mb_X12_milli : MB yX12_milli cX12_milli 2 (some .int) 1 := ⟨gT_of (tb_6 (List.mem_of_getElem? (i := 204) rfl)) rfl, gT_of (tb_1 (List.mem_of_getElem? (i := 15) rfl)) rfl, ⟨by decide +kernel, by decide +kernel, by decide +kernel⟩, by decide⟩
theorem mi_X12_milli : Cond.instanceMethod yX12_milli ∈ gT := gT_of (tb_6 (List.mem_of_getElem? (i := 202) rfl)) rfl
theorem me_X12_milli : Cond.selects yX12_milli.cls yX12_milli yX12_milli ∈ gT := gT_of (tb_6 (List.mem_of_getElem? (i := 203) rfl)) rfl
theorem pf_X12_flow : plainFor yX12_flow = true := by decide +kernel
theorem mb_X12_flow : MB yX12_flow cX12_flow 2 (some .int) 1 := ⟨gT_of (tb_6 (List.mem_of_getElem? (i := 215) rfl)) rfl, gT_of (tb_1 (List.mem_of_getElem? (i := 15) rfl)) rfl, ⟨by decide +kernel, by decide +kernel, by decide +kernel⟩, by decide⟩
theorem mi_X12_flow : Cond.instanceMethod yX12_flow ∈ gT := gT_of (tb_6 (List.mem_of_getElem? (i := 213) rfl)) rfl
theorem me_X12_flow : Cond.selects yX12_flow.cls yX12_flow yX12_flow ∈ gT := gT_of (tb_6 (List.mem_of_getElem? (i := 214) rfl)) rfl
theorem pf_X12_gives : plainFor yX12_gives = true := by decide +kernel
theorem mb_X12_gives : MB yX12_gives cX12_gives 2 (some .int) 1 := ⟨gT_of (tb_6 (List.mem_of_getElem? (i := 223) rfl)) rfl, gT_of (tb_1 (List.mem_of_getElem? (i := 15) rfl)) rfl, ⟨by decide +kernel, by decide +kernel, by decide +kernel⟩, by decide⟩
theorem mi_X12_gives : Cond.instanceMethod yX12_gives ∈ gT := gT_of (tb_6 (List.mem_of_getElem? (i := 221) rfl)) rfl
theorem me_X12_gives : Cond.selects yX12_gives.cls yX12_gives yX12_gives ∈ gT := gT_of (tb_6 (List.mem_of_getElem? (i := 222) rfl)) rfl
theorem pf_X12_takes : plainFor yX12_takes = true := by decide +kernel
theorem mb_X12_takes : MB yX12_takes cX12_takes 2 (some .int) 1 := ⟨gT_of (tb_6 (List.mem_of_getElem? (i := 231) rfl)) rfl, gT_of (tb_1 (List.mem_of_getElem? (i := 15) rfl)) rfl, ⟨by decide +kernel, by decide +kernel, by decide +kernel⟩, by decide⟩
theorem mi_X12_takes : Cond.instanceMethod yX12_takes ∈ gT := gT_of (tb_6 (List.mem_of_getElem? (i := 229) rfl)) rfl
theorem me_X12_takes : Cond.selects yX12_takes.cls yX12_takes yX12_takes ∈ gT := gT_of (tb_6 (List.mem_of_getElem? (i := 230) rfl)) rfl
theorem pf_X12_isDry : plainFor yX12_isDry = true := by decide +kernel
theorem mb_X12_isDry : MB yX12_isDry cX12_isDry 2 (some .boolean) 1 := ⟨gT_of (tb_7 (List.mem_of_getElem? (i := 3) rfl)) rfl, gT_of (tb_1 (List.mem_of_getElem? (i := 15) rfl)) rfl, ⟨by decide +kernel, by decide +kernel, by decide +kernel⟩, by decide⟩
theorem mi_X12_isDry : Cond.instanceMethod yX12_isDry ∈ gT := gT_of (tb_7 (List.mem_of_getElem? (i := 2) rfl)) rfl
theorem me_X12_isDry : Cond.selects yX12_isDry.cls yX12_isDry yX12_isDry ∈ gT := gT_of (List.mem_append_left _ (List.mem_of_getElem? (i := 50) rfl)) rfl
theorem pf_X12_dry : plainFor yX12_dry = true := by decide +kernel
theorem mb_X12_dry : MB yX12_dry cX12_dry 2 (some .int) 1 := ⟨gT_of (tb_6 (List.mem_of_getElem? (i := 239) rfl)) rfl, gT_of (tb_1 (List.mem_of_getElem? (i := 15) rfl)) rfl, ⟨by decide +kernel, by decide +kernel, by decide +kernel⟩, by decide⟩
theorem mi_X12_dry : Cond.instanceMethod yX12_dry ∈ gT := gT_of (tb_6 (List.mem_of_getElem? (i := 237) rfl)) rfl
theorem me_X12_dry : Cond.selects yX12_dry.cls yX12_dry yX12_dry ∈ gT := gT_of (tb_6 (List.mem_of_getElem? (i := 238) rfl)) rfl
theorem pf_X12_salt : plainFor yX12_salt = true := by decide +kernel
theorem mb_X12_salt : MB yX12_salt cX12_salt 2 (some .int) 1 := ⟨gT_of (tb_7 (List.mem_of_getElem? (i := 7) rfl)) rfl, gT_of (tb_1 (List.mem_of_getElem? (i := 15) rfl)) rfl, ⟨by decide +kernel, by decide +kernel, by decide +kernel⟩, by decide⟩
theorem mi_X12_salt : Cond.instanceMethod yX12_salt ∈ gT := gT_of (tb_7 (List.mem_of_getElem? (i := 5) rfl)) rfl
theorem me_X12_salt : Cond.selects yX12_salt.cls yX12_salt yX12_salt ∈ gT := gT_of (tb_7 (List.mem_of_getElem? (i := 6) rfl)) rfl
theorem pf_X12_through : plainFor yX12_through = true := by decide +kernel
theorem mb_X12_through : MB yX12_through cX12_through 5 (some .long) 1 := ⟨gT_of (tb_7 (List.mem_of_getElem? (i := 12) rfl)) rfl, gT_of (tb_1 (List.mem_of_getElem? (i := 15) rfl)) rfl, ⟨by decide +kernel, by decide +kernel, by decide +kernel⟩, by decide⟩
theorem mi_X12_through : Cond.instanceMethod yX12_through ∈ gT := gT_of (tb_7 (List.mem_of_getElem? (i := 10) rfl)) rfl
theorem me_X12_through : Cond.selects yX12_through.cls yX12_through yX12_through ∈ gT := gT_of (tb_7 (List.mem_of_getElem? (i := 11) rfl)) rfl
theorem pf_X12_let : plainFor yX12_let = true := by decide +kernel
theorem mb_X12_let : MB yX12_let cX12_let 4 none 2 := ⟨gT_of (tb_7 (List.mem_of_getElem? (i := 29) rfl)) rfl, gT_of (tb_1 (List.mem_of_getElem? (i := 15) rfl)) rfl, ⟨by decide +kernel, by decide +kernel, by decide +kernel⟩, by decide⟩
theorem mi_X12_let : Cond.instanceMethod yX12_let ∈ gT := gT_of (tb_7 (List.mem_of_getElem? (i := 28) rfl)) rfl
theorem me_X12_let : Cond.selects yX12_let.cls yX12_let yX12_let ∈ gT := gT_of (List.mem_append_left _ (List.mem_of_getElem? (i := 53) rfl)) rfl
theorem pf_X12_open : plainFor yX12_open = true := by decide +kernel
theorem mb_X12_open : MB yX12_open cX12_open 3 none 1 := ⟨gT_of (tb_7 (List.mem_of_getElem? (i := 25) rfl)) rfl, gT_of (tb_1 (List.mem_of_getElem? (i := 15) rfl)) rfl, ⟨by decide +kernel, by decide +kernel, by decide +kernel⟩, by decide⟩
theorem mi_X12_open : Cond.instanceMethod yX12_open ∈ gT := gT_of (tb_7 (List.mem_of_getElem? (i := 24) rfl)) rfl
theorem me_X12_open : Cond.selects yX12_open.cls yX12_open yX12_open ∈ gT := gT_of (List.mem_append_left _ (List.mem_of_getElem? (i := 52) rfl)) rfl
theorem pf_X12_greatest : plainFor yX12_greatest = true := by decide +kernel
theorem mb_X12_greatest : MB yX12_greatest cX12_greatest 3 (some .int) 0 := ⟨gT_of (tb_7 (List.mem_of_getElem? (i := 33) rfl)) rfl, gT_of (tb_1 (List.mem_of_getElem? (i := 15) rfl)) rfl, ⟨by decide +kernel, by decide +kernel, by decide +kernel⟩, by decide⟩
theorem mi_X12_greatest : Cond.instanceMethod yX12_greatest ∈ gT := gT_of (tb_7 (List.mem_of_getElem? (i := 32) rfl)) rfl
theorem me_X12_greatest : Cond.selects yX12_greatest.cls yX12_greatest yX12_greatest ∈ gT := gT_of (List.mem_append_left _ (List.mem_of_getElem? (i := 54) rfl)) rfl
theorem pf_X12_allFlow : plainFor yX12_allFlow = true := by decide +kernel
theorem mb_X12_allFlow : MB yX12_allFlow cX12_allFlow 4 (some .long) 0 := ⟨gT_of (tb_7 (List.mem_of_getElem? (i := 50) rfl)) rfl, gT_of (tb_1 (List.mem_of_getElem? (i := 15) rfl)) rfl, ⟨by decide +kernel, by decide +kernel, by decide +kernel⟩, by decide⟩
theorem mi_X12_allFlow : Cond.instanceMethod yX12_allFlow ∈ gT := gT_of (tb_7 (List.mem_of_getElem? (i := 49) rfl)) rfl
theorem me_X12_allFlow : Cond.selects yX12_allFlow.cls yX12_allFlow yX12_allFlow ∈ gT := gT_of (List.mem_append_left _ (List.mem_of_getElem? (i := 56) rfl)) rfl
theorem pf_X12_nextOf : plainFor yX12_nextOf = true := by decide +kernel
theorem mb_X12_nextOf : MB yX12_nextOf cX12_nextOf 3 (some .int) 1 := ⟨gT_of (tb_7 (List.mem_of_getElem? (i := 21) rfl)) rfl, gT_of (tb_1 (List.mem_of_getElem? (i := 15) rfl)) rfl, ⟨by decide +kernel, by decide +kernel, by decide +kernel⟩, by decide⟩
theorem mi_X12_nextOf : Cond.instanceMethod yX12_nextOf ∈ gT := gT_of (tb_7 (List.mem_of_getElem? (i := 20) rfl)) rfl
theorem me_X12_nextOf : Cond.selects yX12_nextOf.cls yX12_nextOf yX12_nextOf ∈ gT := gT_of (List.mem_append_left _ (List.mem_of_getElem? (i := 51) rfl)) rfl
theorem pf_X12_way : plainFor yX12_way = true := by decide +kernel
theorem mb_X12_way : MB yX12_way cX12_way 5 (some .int) 2 := ⟨gT_of (tb_7 (List.mem_of_getElem? (i := 16) rfl)) rfl, gT_of (tb_1 (List.mem_of_getElem? (i := 15) rfl)) rfl, ⟨by decide +kernel, by decide +kernel, by decide +kernel⟩, by decide⟩
theorem mi_X12_way : Cond.instanceMethod yX12_way ∈ gT := gT_of (tb_7 (List.mem_of_getElem? (i := 14) rfl)) rfl
theorem me_X12_way : Cond.selects yX12_way.cls yX12_way yX12_way ∈ gT := gT_of (tb_7 (List.mem_of_getElem? (i := 15) rfl)) rfl
theorem pf_X12_end : plainFor yX12_end = true := by decide +kernel
theorem mb_X12_end : MB yX12_end cX12_end 3 (some .int) 1 := ⟨gT_of (tb_7 (List.mem_of_getElem? (i := 37) rfl)) rfl, gT_of (tb_1 (List.mem_of_getElem? (i := 15) rfl)) rfl, ⟨by decide +kernel, by decide +kernel, by decide +kernel⟩, by decide⟩
theorem mi_X12_end : Cond.instanceMethod yX12_end ∈ gT := gT_of (tb_7 (List.mem_of_getElem? (i := 35) rfl)) rfl
theorem me_X12_end : Cond.selects yX12_end.cls yX12_end yX12_end ∈ gT := gT_of (tb_7 (List.mem_of_getElem? (i := 36) rfl)) rfl
theorem pf_X12_waterOf : plainFor yX12_waterOf = true := by decide +kernel
theorem mb_X12_waterOf : MB yX12_waterOf cX12_waterOf 2 (some .long) 1 := ⟨gT_of (tb_7 (List.mem_of_getElem? (i := 46) rfl)) rfl, gT_of (tb_1 (List.mem_of_getElem? (i := 15) rfl)) rfl, ⟨by decide +kernel, by decide +kernel, by decide +kernel⟩, by decide⟩
theorem mi_X12_waterOf : Cond.instanceMethod yX12_waterOf ∈ gT := gT_of (tb_7 (List.mem_of_getElem? (i := 45) rfl)) rfl
theorem me_X12_waterOf : Cond.selects yX12_waterOf.cls yX12_waterOf yX12_waterOf ∈ gT := gT_of (List.mem_append_left _ (List.mem_of_getElem? (i := 55) rfl)) rfl
theorem pf_X12_time : plainFor yX12_time = true := by decide +kernel
theorem mb_X12_time : MB yX12_time cX12_time 3 (some .long) 2 := ⟨gT_of (tb_7 (List.mem_of_getElem? (i := 41) rfl)) rfl, gT_of (tb_1 (List.mem_of_getElem? (i := 15) rfl)) rfl, ⟨by decide +kernel, by decide +kernel, by decide +kernel⟩, by decide⟩
theorem mi_X12_time : Cond.instanceMethod yX12_time ∈ gT := gT_of (tb_7 (List.mem_of_getElem? (i := 39) rfl)) rfl
theorem me_X12_time : Cond.selects yX12_time.cls yX12_time yX12_time ∈ gT := gT_of (tb_7 (List.mem_of_getElem? (i := 40) rfl)) rfl
theorem pf_X12_wayTime : plainFor yX12_wayTime = true := by decide +kernel
theorem mb_X12_wayTime : MB yX12_wayTime cX12_wayTime 5 (some .long) 1 := ⟨gT_of (tb_7 (List.mem_of_getElem? (i := 54) rfl)) rfl, gT_of (tb_1 (List.mem_of_getElem? (i := 15) rfl)) rfl, ⟨by decide +kernel, by decide +kernel, by decide +kernel⟩, by decide⟩
theorem mi_X12_wayTime : Cond.instanceMethod yX12_wayTime ∈ gT := gT_of (tb_7 (List.mem_of_getElem? (i := 52) rfl)) rfl
theorem me_X12_wayTime : Cond.selects yX12_wayTime.cls yX12_wayTime yX12_wayTime ∈ gT := gT_of (tb_7 (List.mem_of_getElem? (i := 53) rfl)) rfl
theorem pf_X12_zone : plainFor yX12_zone = true := by decide +kernel
theorem mb_X12_zone : MB yX12_zone cX12_zone 9 (some .int) 1 := ⟨gT_of (tb_7 (List.mem_of_getElem? (i := 58) rfl)) rfl, gT_of (tb_1 (List.mem_of_getElem? (i := 15) rfl)) rfl, ⟨by decide +kernel, by decide +kernel, by decide +kernel⟩, by decide⟩
theorem mi_X12_zone : Cond.instanceMethod yX12_zone ∈ gT := gT_of (tb_7 (List.mem_of_getElem? (i := 56) rfl)) rfl
theorem me_X12_zone : Cond.selects yX12_zone.cls yX12_zone yX12_zone ∈ gT := gT_of (tb_7 (List.mem_of_getElem? (i := 57) rfl)) rfl
theorem pf_X12_shareOf : plainFor yX12_shareOf = true := by decide +kernel
theorem mb_X12_shareOf : MB yX12_shareOf cX12_shareOf 12 (some .int) 3 := ⟨gT_of (tb_7 (List.mem_of_getElem? (i := 69) rfl)) rfl, gT_of (tb_1 (List.mem_of_getElem? (i := 15) rfl)) rfl, ⟨by decide +kernel, by decide +kernel, by decide +kernel⟩, by decide⟩
theorem ms_X12_shareOf : Cond.static yX12_shareOf ∈ gT := gT_of (tb_7 (List.mem_of_getElem? (i := 68) rfl)) rfl
theorem pf_X12_spill : plainFor yX12_spill = true := by decide +kernel
theorem mb_X12_spill : MB yX12_spill cX12_spill 14 (some .int) 2 := ⟨gT_of (tb_7 (List.mem_of_getElem? (i := 62) rfl)) rfl, gT_of (tb_1 (List.mem_of_getElem? (i := 15) rfl)) rfl, ⟨by decide +kernel, by decide +kernel, by decide +kernel⟩, by decide⟩
theorem mi_X12_spill : Cond.instanceMethod yX12_spill ∈ gT := gT_of (tb_7 (List.mem_of_getElem? (i := 60) rfl)) rfl
theorem me_X12_spill : Cond.selects yX12_spill.cls yX12_spill yX12_spill ∈ gT := gT_of (tb_7 (List.mem_of_getElem? (i := 61) rfl)) rfl
theorem pf_X12_pour : plainFor yX12_pour = true := by decide +kernel
theorem mb_X12_pour : MB yX12_pour cX12_pour 5 (some .int) 2 := ⟨gT_of (tb_7 (List.mem_of_getElem? (i := 73) rfl)) rfl, gT_of (tb_1 (List.mem_of_getElem? (i := 15) rfl)) rfl, ⟨by decide +kernel, by decide +kernel, by decide +kernel⟩, by decide⟩
theorem mi_X12_pour : Cond.instanceMethod yX12_pour ∈ gT := gT_of (tb_7 (List.mem_of_getElem? (i := 71) rfl)) rfl
theorem me_X12_pour : Cond.selects yX12_pour.cls yX12_pour yX12_pour ∈ gT := gT_of (tb_7 (List.mem_of_getElem? (i := 72) rfl)) rfl
theorem pf_X12_cups : plainFor yX12_cups = true := by decide +kernel
theorem mb_X12_cups : MB yX12_cups cX12_cups 2 (some .int) 1 := ⟨gT_of (tb_7 (List.mem_of_getElem? (i := 78) rfl)) rfl, gT_of (tb_1 (List.mem_of_getElem? (i := 15) rfl)) rfl, ⟨by decide +kernel, by decide +kernel, by decide +kernel⟩, by decide⟩
theorem mi_X12_cups : Cond.instanceMethod yX12_cups ∈ gT := gT_of (tb_7 (List.mem_of_getElem? (i := 76) rfl)) rfl
theorem me_X12_cups : Cond.selects yX12_cups.cls yX12_cups yX12_cups ∈ gT := gT_of (tb_7 (List.mem_of_getElem? (i := 77) rfl)) rfl
theorem pf_X12_markOf : plainFor yX12_markOf = true := by decide +kernel
theorem mb_X12_markOf : MB yX12_markOf cX12_markOf 2 (some .int) 1 := ⟨gT_of (tb_7 (List.mem_of_getElem? (i := 86) rfl)) rfl, gT_of (tb_1 (List.mem_of_getElem? (i := 15) rfl)) rfl, ⟨by decide +kernel, by decide +kernel, by decide +kernel⟩, by decide⟩
theorem mi_X12_markOf : Cond.instanceMethod yX12_markOf ∈ gT := gT_of (tb_7 (List.mem_of_getElem? (i := 85) rfl)) rfl
theorem me_X12_markOf : Cond.selects yX12_markOf.cls yX12_markOf yX12_markOf ∈ gT := gT_of (List.mem_append_left _ (List.mem_of_getElem? (i := 57) rfl)) rfl
theorem pf_X12_mark : plainFor yX12_mark = true := by decide +kernel
theorem mb_X12_mark : MB yX12_mark cX12_mark 2 (some .int) 1 := ⟨gT_of (tb_7 (List.mem_of_getElem? (i := 82) rfl)) rfl, gT_of (tb_1 (List.mem_of_getElem? (i := 15) rfl)) rfl, ⟨by decide +kernel, by decide +kernel, by decide +kernel⟩, by decide⟩
theorem mi_X12_mark : Cond.instanceMethod yX12_mark ∈ gT := gT_of (tb_7 (List.mem_of_getElem? (i := 80) rfl)) rfl
theorem me_X12_mark : Cond.selects yX12_mark.cls yX12_mark yX12_mark ∈ gT := gT_of (tb_7 (List.mem_of_getElem? (i := 81) rfl)) rfl
theorem pf_X12_leaves : plainFor yX12_leaves = true := by decide +kernel
theorem mb_X12_leaves : MB yX12_leaves cX12_leaves 4 (some .int) 2 := ⟨gT_of (tb_7 (List.mem_of_getElem? (i := 102) rfl)) rfl, gT_of (tb_1 (List.mem_of_getElem? (i := 15) rfl)) rfl, ⟨by decide +kernel, by decide +kernel, by decide +kernel⟩, by decide⟩
theorem mi_X12_leaves : Cond.instanceMethod yX12_leaves ∈ gT := gT_of (tb_7 (List.mem_of_getElem? (i := 101) rfl)) rfl
theorem me_X12_leaves : Cond.selects yX12_leaves.cls yX12_leaves yX12_leaves ∈ gT := gT_of (List.mem_append_left _ (List.mem_of_getElem? (i := 60) rfl)) rfl
theorem pf_X12_comes : plainFor yX12_comes = true := by decide +kernel
theorem mb_X12_comes : MB yX12_comes cX12_comes 3 none 2 := ⟨gT_of (tb_7 (List.mem_of_getElem? (i := 98) rfl)) rfl, gT_of (tb_1 (List.mem_of_getElem? (i := 15) rfl)) rfl, ⟨by decide +kernel, by decide +kernel, by decide +kernel⟩, by decide⟩
theorem mi_X12_comes : Cond.instanceMethod yX12_comes ∈ gT := gT_of (tb_7 (List.mem_of_getElem? (i := 97) rfl)) rfl
theorem me_X12_comes : Cond.selects yX12_comes.cls yX12_comes yX12_comes ∈ gT := gT_of (List.mem_append_left _ (List.mem_of_getElem? (i := 59) rfl)) rfl
theorem pf_X12_goOn : plainFor yX12_goOn = true := by decide +kernel
theorem mb_X12_goOn : MB yX12_goOn cX12_goOn 4 none 0 := ⟨gT_of (tb_7 (List.mem_of_getElem? (i := 94) rfl)) rfl, gT_of (tb_1 (List.mem_of_getElem? (i := 15) rfl)) rfl, ⟨by decide +kernel, by decide +kernel, by decide +kernel⟩, by decide⟩
theorem mi_X12_goOn : Cond.instanceMethod yX12_goOn ∈ gT := gT_of (tb_7 (List.mem_of_getElem? (i := 93) rfl)) rfl
theorem me_X12_goOn : Cond.selects yX12_goOn.cls yX12_goOn yX12_goOn ∈ gT := gT_of (List.mem_append_left _ (List.mem_of_getElem? (i := 58) rfl)) rfl
theorem pf_X12_tick : plainFor yX12_tick = true := by decide +kernel
theorem mb_X12_tick : MB yX12_tick cX12_tick 4 (some .int) 1 := ⟨gT_of (tb_7 (List.mem_of_getElem? (i := 90) rfl)) rfl, gT_of (tb_1 (List.mem_of_getElem? (i := 15) rfl)) rfl, ⟨by decide +kernel, by decide +kernel, by decide +kernel⟩, by decide⟩
theorem mi_X12_tick : Cond.instanceMethod yX12_tick ∈ gT := gT_of (tb_7 (List.mem_of_getElem? (i := 88) rfl)) rfl
theorem me_X12_tick : Cond.selects yX12_tick.cls yX12_tick yX12_tick ∈ gT := gT_of (tb_7 (List.mem_of_getElem? (i := 89) rfl)) rfl
theorem pf_X12_book : plainFor yX12_book = true := by decide +kernel
theorem mb_X12_book : MB yX12_book cX12_book 2 (some .long) 1 := ⟨gT_of (tb_7 (List.mem_of_getElem? (i := 106) rfl)) rfl, gT_of (tb_1 (List.mem_of_getElem? (i := 15) rfl)) rfl, ⟨by decide +kernel, by decide +kernel, by decide +kernel⟩, by decide⟩
theorem mi_X12_book : Cond.instanceMethod yX12_book ∈ gT := gT_of (tb_7 (List.mem_of_getElem? (i := 104) rfl)) rfl
theorem me_X12_book : Cond.selects yX12_book.cls yX12_book yX12_book ∈ gT := gT_of (tb_7 (List.mem_of_getElem? (i := 105) rfl)) rfl
theorem pf_X12_world : plainFor yX12_world = true := by decide +kernel
theorem mb_X12_world : MB yX12_world cX12_world 3 (some .int) 2 := ⟨gT_of (tb_7 (List.mem_of_getElem? (i := 111) rfl)) rfl, gT_of (tb_1 (List.mem_of_getElem? (i := 15) rfl)) rfl, ⟨by decide +kernel, by decide +kernel, by decide +kernel⟩, by decide⟩
theorem mi_X12_world : Cond.instanceMethod yX12_world ∈ gT := gT_of (tb_7 (List.mem_of_getElem? (i := 109) rfl)) rfl
theorem me_X12_world : Cond.selects yX12_world.cls yX12_world yX12_world ∈ gT := gT_of (tb_7 (List.mem_of_getElem? (i := 110) rfl)) rfl
theorem pf_X12_see : plainFor yX12_see = true := by decide +kernel
theorem mb_X12_see : MB yX12_see cX12_see 4 (some .int) 3 := ⟨gT_of (tb_7 (List.mem_of_getElem? (i := 115) rfl)) rfl, gT_of (tb_1 (List.mem_of_getElem? (i := 15) rfl)) rfl, ⟨by decide +kernel, by decide +kernel, by decide +kernel⟩, by decide⟩
theorem mi_X12_see : Cond.instanceMethod yX12_see ∈ gT := gT_of (tb_7 (List.mem_of_getElem? (i := 113) rfl)) rfl
theorem me_X12_see : Cond.selects yX12_see.cls yX12_see yX12_see ∈ gT := gT_of (tb_7 (List.mem_of_getElem? (i := 114) rfl)) rfl
theorem pf_X12_restsIn : plainFor yX12_restsIn = true := by decide +kernel
theorem mb_X12_restsIn : MB yX12_restsIn cX12_restsIn 2 (some .boolean) 1 := ⟨gT_of (tb_7 (List.mem_of_getElem? (i := 130) rfl)) rfl, gT_of (tb_1 (List.mem_of_getElem? (i := 15) rfl)) rfl, ⟨by decide +kernel, by decide +kernel, by decide +kernel⟩, by decide⟩
theorem mi_X12_restsIn : Cond.instanceMethod yX12_restsIn ∈ gT := gT_of (tb_7 (List.mem_of_getElem? (i := 129) rfl)) rfl
theorem me_X12_restsIn : Cond.selects yX12_restsIn.cls yX12_restsIn yX12_restsIn ∈ gT := gT_of (List.mem_append_left _ (List.mem_of_getElem? (i := 62) rfl)) rfl
theorem pf_X12_leftOf : plainFor yX12_leftOf = true := by decide +kernel
theorem mb_X12_leftOf : MB yX12_leftOf cX12_leftOf 7 (some .int) 0 := ⟨gT_of (tb_7 (List.mem_of_getElem? (i := 126) rfl)) rfl, gT_of (tb_1 (List.mem_of_getElem? (i := 15) rfl)) rfl, ⟨by decide +kernel, by decide +kernel, by decide +kernel⟩, by decide⟩
theorem mi_X12_leftOf : Cond.instanceMethod yX12_leftOf ∈ gT := gT_of (tb_7 (List.mem_of_getElem? (i := 125) rfl)) rfl
theorem me_X12_leftOf : Cond.selects yX12_leftOf.cls yX12_leftOf yX12_leftOf ∈ gT := gT_of (List.mem_append_left _ (List.mem_of_getElem? (i := 61) rfl)) rfl
theorem pf_X12_left : plainFor yX12_left = true := by decide +kernel
theorem mb_X12_left : MB yX12_left cX12_left 1 (some .int) 0 := ⟨gT_of (tb_7 (List.mem_of_getElem? (i := 122) rfl)) rfl, gT_of (tb_1 (List.mem_of_getElem? (i := 15) rfl)) rfl, ⟨by decide +kernel, by decide +kernel, by decide +kernel⟩, by decide⟩
theorem mi_X12_left : Cond.instanceMethod yX12_left ∈ gT := gT_of (tb_7 (List.mem_of_getElem? (i := 120) rfl)) rfl
theorem me_X12_left : Cond.selects yX12_left.cls yX12_left yX12_left ∈ gT := gT_of (tb_7 (List.mem_of_getElem? (i := 121) rfl)) rfl
theorem pf_X12_inWorld : plainFor yX12_inWorld = true := by decide +kernel
theorem mb_X12_inWorld : MB yX12_inWorld cX12_inWorld 3 (some .int) 2 := ⟨gT_of (tb_7 (List.mem_of_getElem? (i := 134) rfl)) rfl, gT_of (tb_1 (List.mem_of_getElem? (i := 15) rfl)) rfl, ⟨by decide +kernel, by decide +kernel, by decide +kernel⟩, by decide⟩
theorem mi_X12_inWorld : Cond.instanceMethod yX12_inWorld ∈ gT := gT_of (tb_7 (List.mem_of_getElem? (i := 132) rfl)) rfl
theorem me_X12_inWorld : Cond.selects yX12_inWorld.cls yX12_inWorld yX12_inWorld ∈ gT := gT_of (tb_7 (List.mem_of_getElem? (i := 133) rfl)) rfl
theorem pf_X12_alikeOf : plainFor yX12_alikeOf = true := by decide +kernel
theorem mb_X12_alikeOf : MB yX12_alikeOf cX12_alikeOf 7 (some .int) 2 := ⟨gT_of (tb_7 (List.mem_of_getElem? (i := 142) rfl)) rfl, gT_of (tb_1 (List.mem_of_getElem? (i := 15) rfl)) rfl, ⟨by decide +kernel, by decide +kernel, by decide +kernel⟩, by decide⟩
theorem mi_X12_alikeOf : Cond.instanceMethod yX12_alikeOf ∈ gT := gT_of (tb_7 (List.mem_of_getElem? (i := 141) rfl)) rfl
theorem me_X12_alikeOf : Cond.selects yX12_alikeOf.cls yX12_alikeOf yX12_alikeOf ∈ gT := gT_of (List.mem_append_left _ (List.mem_of_getElem? (i := 63) rfl)) rfl
theorem pf_X12_next : plainFor yX12_next = true := by decide +kernel
theorem mb_X12_next : MB yX12_next cX12_next 4 (some .int) 0 := ⟨gT_of (tb_7 (List.mem_of_getElem? (i := 138) rfl)) rfl, gT_of (tb_1 (List.mem_of_getElem? (i := 15) rfl)) rfl, ⟨by decide +kernel, by decide +kernel, by decide +kernel⟩, by decide⟩
theorem mi_X12_next : Cond.instanceMethod yX12_next ∈ gT := gT_of (tb_7 (List.mem_of_getElem? (i := 136) rfl)) rfl
theorem me_X12_next : Cond.selects yX12_next.cls yX12_next yX12_next ∈ gT := gT_of (tb_7 (List.mem_of_getElem? (i := 137) rfl)) rfl
theorem pf_X12_alike : plainFor yX12_alike = true := by decide +kernel
theorem mb_X12_alike : MB yX12_alike cX12_alike 2 (some .int) 1 := ⟨gT_of (tb_7 (List.mem_of_getElem? (i := 146) rfl)) rfl, gT_of (tb_1 (List.mem_of_getElem? (i := 15) rfl)) rfl, ⟨by decide +kernel, by decide +kernel, by decide +kernel⟩, by decide⟩
theorem mi_X12_alike : Cond.instanceMethod yX12_alike ∈ gT := gT_of (tb_7 (List.mem_of_getElem? (i := 144) rfl)) rfl
theorem me_X12_alike : Cond.selects yX12_alike.cls yX12_alike yX12_alike ∈ gT := gT_of (tb_7 (List.mem_of_getElem? (i := 145) rfl)) rfl
theorem pf_X12_sign : plainFor yX12_sign = true := by decide +kernel
theorem mb_X12_sign : MB yX12_sign cX12_sign 2 (some .int) 1 := ⟨gT_of (tb_7 (List.mem_of_getElem? (i := 150) rfl)) rfl, gT_of (tb_1 (List.mem_of_getElem? (i := 15) rfl)) rfl, ⟨by decide +kernel, by decide +kernel, by decide +kernel⟩, by decide⟩
theorem mi_X12_sign : Cond.instanceMethod yX12_sign ∈ gT := gT_of (tb_7 (List.mem_of_getElem? (i := 148) rfl)) rfl
theorem me_X12_sign : Cond.selects yX12_sign.cls yX12_sign yX12_sign ∈ gT := gT_of (tb_7 (List.mem_of_getElem? (i := 149) rfl)) rfl
theorem pf_X12_wipe : plainFor yX12_wipe = true := by decide +kernel
theorem mb_X12_wipe : MB yX12_wipe cX12_wipe 2 (some .int) 0 := ⟨gT_of (tb_7 (List.mem_of_getElem? (i := 156) rfl)) rfl, gT_of (tb_1 (List.mem_of_getElem? (i := 15) rfl)) rfl, ⟨by decide +kernel, by decide +kernel, by decide +kernel⟩, by decide⟩
theorem mi_X12_wipe : Cond.instanceMethod yX12_wipe ∈ gT := gT_of (tb_7 (List.mem_of_getElem? (i := 154) rfl)) rfl
theorem me_X12_wipe : Cond.selects yX12_wipe.cls yX12_wipe yX12_wipe ∈ gT := gT_of (tb_7 (List.mem_of_getElem? (i := 155) rfl)) rfl
theorem pf_X12_isDigit : plainFor yX12_isDigit = true := by decide +kernel
theorem mb_X12_isDigit : MB yX12_isDigit cX12_isDigit 1 (some .boolean) 1 := ⟨gT_of (tb_7 (List.mem_of_getElem? (i := 171) rfl)) rfl, gT_of (tb_1 (List.mem_of_getElem? (i := 15) rfl)) rfl, ⟨by decide +kernel, by decide +kernel, by decide +kernel⟩, by decide⟩
theorem ms_X12_isDigit : Cond.static yX12_isDigit ∈ gT := gT_of (tb_7 (List.mem_of_getElem? (i := 170) rfl)) rfl
theorem pf_X12_named : plainFor yX12_named = true := by decide +kernel
theorem mb_X12_named : MB yX12_named cX12_named 2 (some .int) 1 := ⟨gT_of (tb_7 (List.mem_of_getElem? (i := 168) rfl)) rfl, gT_of (tb_1 (List.mem_of_getElem? (i := 15) rfl)) rfl, ⟨by decide +kernel, by decide +kernel, by decide +kernel⟩, by decide⟩
theorem mi_X12_named : Cond.instanceMethod yX12_named ∈ gT := gT_of (tb_7 (List.mem_of_getElem? (i := 167) rfl)) rfl
theorem me_X12_named : Cond.selects yX12_named.cls yX12_named yX12_named ∈ gT := gT_of (List.mem_append_left _ (List.mem_of_getElem? (i := 65) rfl)) rfl
theorem pf_X12_faultOf : plainFor yX12_faultOf = true := by decide +kernel
theorem mb_X12_faultOf : MB yX12_faultOf cX12_faultOf 7 (some .int) 0 := ⟨gT_of (tb_7 (List.mem_of_getElem? (i := 164) rfl)) rfl, gT_of (tb_1 (List.mem_of_getElem? (i := 15) rfl)) rfl, ⟨by decide +kernel, by decide +kernel, by decide +kernel⟩, by decide⟩
theorem mi_X12_faultOf : Cond.instanceMethod yX12_faultOf ∈ gT := gT_of (tb_7 (List.mem_of_getElem? (i := 163) rfl)) rfl
theorem me_X12_faultOf : Cond.selects yX12_faultOf.cls yX12_faultOf yX12_faultOf ∈ gT := gT_of (List.mem_append_left _ (List.mem_of_getElem? (i := 64) rfl)) rfl
theorem pf_X12_fault : plainFor yX12_fault = true := by decide +kernel
theorem mb_X12_fault : MB yX12_fault cX12_fault 1 (some .int) 0 := ⟨gT_of (tb_7 (List.mem_of_getElem? (i := 160) rfl)) rfl, gT_of (tb_1 (List.mem_of_getElem? (i := 15) rfl)) rfl, ⟨by decide +kernel, by decide +kernel, by decide +kernel⟩, by decide⟩
theorem mi_X12_fault : Cond.instanceMethod yX12_fault ∈ gT := gT_of (tb_7 (List.mem_of_getElem? (i := 158) rfl)) rfl
theorem me_X12_fault : Cond.selects yX12_fault.cls yX12_fault yX12_fault ∈ gT := gT_of (tb_7 (List.mem_of_getElem? (i := 159) rfl)) rfl
theorem pf_X12_asked : plainFor yX12_asked = true := by decide +kernel
theorem mb_X12_asked : MB yX12_asked cX12_asked 3 (some .int) 2 := ⟨gT_of (tb_7 (List.mem_of_getElem? (i := 193) rfl)) rfl, gT_of (tb_1 (List.mem_of_getElem? (i := 15) rfl)) rfl, ⟨by decide +kernel, by decide +kernel, by decide +kernel⟩, by decide⟩
theorem mi_X12_asked : Cond.instanceMethod yX12_asked ∈ gT := gT_of (tb_7 (List.mem_of_getElem? (i := 192) rfl)) rfl
theorem me_X12_asked : Cond.selects yX12_asked.cls yX12_asked yX12_asked ∈ gT := gT_of (List.mem_append_left _ (List.mem_of_getElem? (i := 69) rfl)) rfl
theorem pf_X12_came : plainFor yX12_came = true := by decide +kernel
theorem mb_X12_came : MB yX12_came cX12_came 3 none 2 := ⟨gT_of (tb_7 (List.mem_of_getElem? (i := 189) rfl)) rfl, gT_of (tb_1 (List.mem_of_getElem? (i := 15) rfl)) rfl, ⟨by decide +kernel, by decide +kernel, by decide +kernel⟩, by decide⟩
theorem mi_X12_came : Cond.instanceMethod yX12_came ∈ gT := gT_of (tb_7 (List.mem_of_getElem? (i := 188) rfl)) rfl
theorem me_X12_came : Cond.selects yX12_came.cls yX12_came yX12_came ∈ gT := gT_of (List.mem_append_left _ (List.mem_of_getElem? (i := 68) rfl)) rfl
theorem pf_X12_begin : plainFor yX12_begin = true := by decide +kernel
theorem mb_X12_begin : MB yX12_begin cX12_begin 2 none 1 := ⟨gT_of (tb_7 (List.mem_of_getElem? (i := 185) rfl)) rfl, gT_of (tb_1 (List.mem_of_getElem? (i := 15) rfl)) rfl, ⟨by decide +kernel, by decide +kernel, by decide +kernel⟩, by decide⟩
theorem mi_X12_begin : Cond.instanceMethod yX12_begin ∈ gT := gT_of (tb_7 (List.mem_of_getElem? (i := 184) rfl)) rfl
theorem me_X12_begin : Cond.selects yX12_begin.cls yX12_begin yX12_begin ∈ gT := gT_of (List.mem_append_left _ (List.mem_of_getElem? (i := 67) rfl)) rfl
theorem pf_X12_isHeld : plainFor yX12_isHeld = true := by decide +kernel
theorem mb_X12_isHeld : MB yX12_isHeld cX12_isHeld 8 (some .boolean) 0 := ⟨gT_of (tb_7 (List.mem_of_getElem? (i := 181) rfl)) rfl, gT_of (tb_1 (List.mem_of_getElem? (i := 15) rfl)) rfl, ⟨by decide +kernel, by decide +kernel, by decide +kernel⟩, by decide⟩
theorem mi_X12_isHeld : Cond.instanceMethod yX12_isHeld ∈ gT := gT_of (tb_7 (List.mem_of_getElem? (i := 180) rfl)) rfl
theorem me_X12_isHeld : Cond.selects yX12_isHeld.cls yX12_isHeld yX12_isHeld ∈ gT := gT_of (List.mem_append_left _ (List.mem_of_getElem? (i := 66) rfl)) rfl
theorem pf_X12_holds : plainFor yX12_holds = true := by decide +kernel
theorem mb_X12_holds : MB yX12_holds cX12_holds 1 (some .int) 0 := ⟨gT_of (tb_7 (List.mem_of_getElem? (i := 177) rfl)) rfl, gT_of (tb_1 (List.mem_of_getElem? (i := 15) rfl)) rfl, ⟨by decide +kernel, by decide +kernel, by decide +kernel⟩, by decide⟩
theorem mi_X12_holds : Cond.instanceMethod yX12_holds ∈ gT := gT_of (tb_7 (List.mem_of_getElem? (i := 175) rfl)) rfl
theorem me_X12_holds : Cond.selects yX12_holds.cls yX12_holds yX12_holds ∈ gT := gT_of (tb_7 (List.mem_of_getElem? (i := 176) rfl)) rfl
theorem pf_X12_limit : plainFor yX12_limit = true := by decide +kernel
theorem mb_X12_limit : MB yX12_limit cX12_limit 4 (some .int) 2 := ⟨gT_of (tb_7 (List.mem_of_getElem? (i := 197) rfl)) rfl, gT_of (tb_1 (List.mem_of_getElem? (i := 15) rfl)) rfl, ⟨by decide +kernel, by decide +kernel, by decide +kernel⟩, by decide⟩
theorem mi_X12_limit : Cond.instanceMethod yX12_limit ∈ gT := gT_of (tb_7 (List.mem_of_getElem? (i := 195) rfl)) rfl
theorem me_X12_limit : Cond.selects yX12_limit.cls yX12_limit yX12_limit ∈ gT := gT_of (tb_7 (List.mem_of_getElem? (i := 196) rfl)) rfl
theorem pf_X12_draws : plainFor yX12_draws = true := by decide +kernel
theorem mb_X12_draws : MB yX12_draws cX12_draws 4 none 1 := ⟨gT_of (tb_7 (List.mem_of_getElem? (i := 210) rfl)) rfl, gT_of (tb_1 (List.mem_of_getElem? (i := 15) rfl)) rfl, ⟨by decide +kernel, by decide +kernel, by decide +kernel⟩, by decide⟩
theorem mi_X12_draws : Cond.instanceMethod yX12_draws ∈ gT := gT_of (tb_7 (List.mem_of_getElem? (i := 209) rfl)) rfl
theorem me_X12_draws : Cond.selects yX12_draws.cls yX12_draws yX12_draws ∈ gT := gT_of (List.mem_append_left _ (List.mem_of_getElem? (i := 71) rfl)) rfl
theorem pf_X12_mayBe : plainFor yX12_mayBe = true := by decide +kernel
theorem mb_X12_mayBe : MB yX12_mayBe cX12_mayBe 4 (some .boolean) 1 := ⟨gT_of (tb_7 (List.mem_of_getElem? (i := 214) rfl)) rfl, gT_of (tb_1 (List.mem_of_getElem? (i := 15) rfl)) rfl, ⟨by decide +kernel, by decide +kernel, by decide +kernel⟩, by decide⟩
theorem mi_X12_mayBe : Cond.instanceMethod yX12_mayBe ∈ gT := gT_of (tb_7 (List.mem_of_getElem? (i := 213) rfl)) rfl
theorem me_X12_mayBe : Cond.selects yX12_mayBe.cls yX12_mayBe yX12_mayBe ∈ gT := gT_of (List.mem_append_left _ (List.mem_of_getElem? (i := 72) rfl)) rfl
theorem pf_X12_plan : plainFor yX12_plan = true := by decide +kernel
theorem mb_X12_plan : MB yX12_plan cX12_plan 7 none 0 := ⟨gT_of (tb_7 (List.mem_of_getElem? (i := 206) rfl)) rfl, gT_of (tb_1 (List.mem_of_getElem? (i := 15) rfl)) rfl, ⟨by decide +kernel, by decide +kernel, by decide +kernel⟩, by decide⟩
theorem mi_X12_plan : Cond.instanceMethod yX12_plan ∈ gT := gT_of (tb_7 (List.mem_of_getElem? (i := 205) rfl)) rfl
theorem me_X12_plan : Cond.selects yX12_plan.cls yX12_plan yX12_plan ∈ gT := gT_of (List.mem_append_left _ (List.mem_of_getElem? (i := 70) rfl)) rfl
theorem pf_X12_worth : plainFor yX12_worth = true := by decide +kernel
theorem mb_X12_worth : MB yX12_worth cX12_worth 1 (some .int) 0 := ⟨gT_of (tb_7 (List.mem_of_getElem? (i := 202) rfl)) rfl, gT_of (tb_1 (List.mem_of_getElem? (i := 15) rfl)) rfl, ⟨by decide +kernel, by decide +kernel, by decide +kernel⟩, by decide⟩
theorem mi_X12_worth : Cond.instanceMethod yX12_worth ∈ gT := gT_of (tb_7 (List.mem_of_getElem? (i := 200) rfl)) rfl
theorem me_X12_worth : Cond.selects yX12_worth.cls yX12_worth yX12_worth ∈ gT := gT_of (tb_7 (List.mem_of_getElem? (i := 201) rfl)) rfl
theorem pf_X12_level : plainFor yX12_level = true := by decide +kernel
theorem mb_X12_level : MB yX12_level cX12_level 2 (some .int) 1 := ⟨gT_of (tb_7 (List.mem_of_getElem? (i := 218) rfl)) rfl, gT_of (tb_1 (List.mem_of_getElem? (i := 15) rfl)) rfl, ⟨by decide +kernel, by decide +kernel, by decide +kernel⟩, by decide⟩
theorem mi_X12_level : Cond.instanceMethod yX12_level ∈ gT := gT_of (tb_7 (List.mem_of_getElem? (i := 216) rfl)) rfl
theorem me_X12_level : Cond.selects yX12_level.cls yX12_level yX12_level ∈ gT := gT_of (tb_7 (List.mem_of_getElem? (i := 217) rfl)) rfl
theorem pf_X12_draw : plainFor yX12_draw = true := by decide +kernel
theorem mb_X12_draw : MB yX12_draw cX12_draw 2 (some .int) 0 := ⟨gT_of (tb_7 (List.mem_of_getElem? (i := 222) rfl)) rfl, gT_of (tb_1 (List.mem_of_getElem? (i := 15) rfl)) rfl, ⟨by decide +kernel, by decide +kernel, by decide +kernel⟩, by decide⟩
theorem mi_X12_draw : Cond.instanceMethod yX12_draw ∈ gT := gT_of (tb_7 (List.mem_of_getElem? (i := 220) rfl)) rfl
theorem me_X12_draw : Cond.selects yX12_draw.cls yX12_draw yX12_draw ∈ gT := gT_of (tb_7 (List.mem_of_getElem? (i := 221) rfl)) rfl
theorem pf_X12_price : plainFor yX12_price = true := by decide +kernel
theorem mb_X12_price : MB yX12_price cX12_price 4 (some .int) 1 := ⟨gT_of (tb_7 (List.mem_of_getElem? (i := 226) rfl)) rfl, gT_of (tb_1 (List.mem_of_getElem? (i := 15) rfl)) rfl, ⟨by decide +kernel, by decide +kernel, by decide +kernel⟩, by decide⟩
theorem mi_X12_price : Cond.instanceMethod yX12_price ∈ gT := gT_of (tb_7 (List.mem_of_getElem? (i := 224) rfl)) rfl
theorem me_X12_price : Cond.selects yX12_price.cls yX12_price yX12_price ∈ gT := gT_of (tb_7 (List.mem_of_getElem? (i := 225) rfl)) rfl
theorem pf_X12_drawn : plainFor yX12_drawn = true := by decide +kernel
theorem mb_X12_drawn : MB yX12_drawn cX12_drawn 4 (some .int) 2 := ⟨gT_of (tb_7 (List.mem_of_getElem? (i := 234) rfl)) rfl, gT_of (tb_1 (List.mem_of_getElem? (i := 15) rfl)) rfl, ⟨by decide +kernel, by decide +kernel, by decide +kernel⟩, by decide⟩
theorem mi_X12_drawn : Cond.instanceMethod yX12_drawn ∈ gT := gT_of (tb_7 (List.mem_of_getElem? (i := 233) rfl)) rfl
theorem me_X12_drawn : Cond.selects yX12_drawn.cls yX12_drawn yX12_drawn ∈ gT := gT_of (List.mem_append_left _ (List.mem_of_getElem? (i := 73) rfl)) rfl
theorem pf_X12_harm : plainFor yX12_harm = true := by decide +kernel
theorem mb_X12_harm : MB yX12_harm cX12_harm 4 (some .int) 1 := ⟨gT_of (tb_7 (List.mem_of_getElem? (i := 230) rfl)) rfl, gT_of (tb_1 (List.mem_of_getElem? (i := 15) rfl)) rfl, ⟨by decide +kernel, by decide +kernel, by decide +kernel⟩, by decide⟩
theorem mi_X12_harm : Cond.instanceMethod yX12_harm ∈ gT := gT_of (tb_7 (List.mem_of_getElem? (i := 228) rfl)) rfl
theorem me_X12_harm : Cond.selects yX12_harm.cls yX12_harm yX12_harm ∈ gT := gT_of (tb_7 (List.mem_of_getElem? (i := 229) rfl)) rfl
theorem pf_X12_share : plainFor yX12_share = true := by decide +kernel
theorem mb_X12_share : MB yX12_share cX12_share 10 (some .int) 2 := ⟨gT_of (tb_7 (List.mem_of_getElem? (i := 238) rfl)) rfl, gT_of (tb_1 (List.mem_of_getElem? (i := 15) rfl)) rfl, ⟨by decide +kernel, by decide +kernel, by decide +kernel⟩, by decide⟩
theorem mi_X12_share : Cond.instanceMethod yX12_share ∈ gT := gT_of (tb_7 (List.mem_of_getElem? (i := 236) rfl)) rfl
theorem me_X12_share : Cond.selects yX12_share.cls yX12_share yX12_share ∈ gT := gT_of (tb_7 (List.mem_of_getElem? (i := 237) rfl)) rfl
theorem pf_X12_count : plainFor yX12_count = true := by decide +kernel
theorem mb_X12_count : MB yX12_count cX12_count 5 (some .int) 1 := ⟨gT_of (tb_8 (List.mem_of_getElem? (i := 2) rfl)) rfl, gT_of (tb_1 (List.mem_of_getElem? (i := 15) rfl)) rfl, ⟨by decide +kernel, by decide +kernel, by decide +kernel⟩, by decide⟩
theorem mi_X12_count : Cond.instanceMethod yX12_count ∈ gT := gT_of (tb_8 (List.mem_of_getElem? (i := 0) rfl)) rfl
theorem me_X12_count : Cond.selects yX12_count.cls yX12_count yX12_count ∈ gT := gT_of (tb_8 (List.mem_of_getElem? (i := 1) rfl)) rfl
theorem pf_X0_init : plainFor yX0_init = true := by decide +kernel
theorem mb_X0_init : MB yX0_init cX0_init 2 none 1 := ⟨gT_of (tb_2 (List.mem_of_getElem? (i := 75) rfl)) rfl, gT_of (tb_1 (List.mem_of_getElem? (i := 11) rfl)) rfl, ⟨by decide +kernel, by decide +kernel, by decide +kernel⟩, by decide⟩
theorem pf_X0_beginBooks : plainFor yX0_beginBooks = true := by decide +kernel
theorem mb_X0_beginBooks : MB yX0_beginBooks cX0_beginBooks 1 none 0 := ⟨gT_of (tb_4 (List.mem_of_getElem? (i := 82) rfl)) rfl, gT_of (tb_1 (List.mem_of_getElem? (i := 11) rfl)) rfl, ⟨by decide +kernel, by decide +kernel, by decide +kernel⟩, by decide⟩
theorem mi_X0_beginBooks : Cond.instanceMethod yX0_beginBooks ∈ gT := gT_of (tb_4 (List.mem_of_getElem? (i := 80) rfl)) rfl
theorem me_X0_beginBooks : Cond.selects yX0_beginBooks.cls yX0_beginBooks yX0_beginBooks ∈ gT := gT_of (tb_4 (List.mem_of_getElem? (i := 81) rfl)) rfl
theorem pf_X0_markOf : plainFor yX0_markOf = true := by decide +kernel
theorem mb_X0_markOf : MB yX0_markOf cX0_markOf 3 (some .int) 1 := ⟨gT_of (tb_4 (List.mem_of_getElem? (i := 95) rfl)) rfl, gT_of (tb_1 (List.mem_of_getElem? (i := 11) rfl)) rfl, ⟨by decide +kernel, by decide +kernel, by decide +kernel⟩, by decide⟩
theorem mi_X0_markOf : Cond.instanceMethod yX0_markOf ∈ gT := gT_of (tb_4 (List.mem_of_getElem? (i := 93) rfl)) rfl
theorem me_X0_markOf : Cond.selects yX0_markOf.cls yX0_markOf yX0_markOf ∈ gT := gT_of (tb_4 (List.mem_of_getElem? (i := 94) rfl)) rfl
theorem pf_X0_allHeld : plainFor yX0_allHeld = true := by decide +kernel
theorem mb_X0_allHeld : MB yX0_allHeld cX0_allHeld 3 (some .int) 0 := ⟨gT_of (tb_4 (List.mem_of_getElem? (i := 129) rfl)) rfl, gT_of (tb_1 (List.mem_of_getElem? (i := 11) rfl)) rfl, ⟨by decide +kernel, by decide +kernel, by decide +kernel⟩, by decide⟩
theorem mi_X0_allHeld : Cond.instanceMethod yX0_allHeld ∈ gT := gT_of (tb_4 (List.mem_of_getElem? (i := 127) rfl)) rfl
theorem me_X0_allHeld : Cond.selects yX0_allHeld.cls yX0_allHeld yX0_allHeld ∈ gT := gT_of (tb_4 (List.mem_of_getElem? (i := 128) rfl)) rfl
theorem pf_X0_passTick : plainFor yX0_passTick = true := by decide +kernel
theorem mb_X0_passTick : MB yX0_passTick cX0_passTick 4 none 0 := ⟨gT_of (tb_4 (List.mem_of_getElem? (i := 103) rfl)) rfl, gT_of (tb_1 (List.mem_of_getElem? (i := 11) rfl)) rfl, ⟨by decide +kernel, by decide +kernel, by decide +kernel⟩, by decide⟩
theorem mi_X0_passTick : Cond.instanceMethod yX0_passTick ∈ gT := gT_of (tb_4 (List.mem_of_getElem? (i := 101) rfl)) rfl
theorem me_X0_passTick : Cond.selects yX0_passTick.cls yX0_passTick yX0_passTick ∈ gT := gT_of (tb_4 (List.mem_of_getElem? (i := 102) rfl)) rfl
theorem pf_X0_runRiver : plainFor yX0_runRiver = true := by decide +kernel
theorem mb_X0_runRiver : MB yX0_runRiver cX0_runRiver 5 none 1 := ⟨gT_of (tb_4 (List.mem_of_getElem? (i := 114) rfl)) rfl, gT_of (tb_1 (List.mem_of_getElem? (i := 11) rfl)) rfl, ⟨by decide +kernel, by decide +kernel, by decide +kernel⟩, by decide⟩
theorem mi_X0_runRiver : Cond.instanceMethod yX0_runRiver ∈ gT := gT_of (tb_4 (List.mem_of_getElem? (i := 113) rfl)) rfl
theorem me_X0_runRiver : Cond.selects yX0_runRiver.cls yX0_runRiver yX0_runRiver ∈ gT := gT_of (List.mem_append_left _ (List.mem_of_getElem? (i := 15) rfl)) rfl
theorem pf_X0_runLink : plainFor yX0_runLink = true := by decide +kernel
theorem mb_X0_runLink : MB yX0_runLink cX0_runLink 5 none 1 := ⟨gT_of (tb_4 (List.mem_of_getElem? (i := 125) rfl)) rfl, gT_of (tb_1 (List.mem_of_getElem? (i := 11) rfl)) rfl, ⟨by decide +kernel, by decide +kernel, by decide +kernel⟩, by decide⟩
theorem mi_X0_runLink : Cond.instanceMethod yX0_runLink ∈ gT := gT_of (tb_4 (List.mem_of_getElem? (i := 124) rfl)) rfl
theorem me_X0_runLink : Cond.selects yX0_runLink.cls yX0_runLink yX0_runLink ∈ gT := gT_of (List.mem_append_left _ (List.mem_of_getElem? (i := 17) rfl)) rfl
theorem pf_X0_arrive : plainFor yX0_arrive = true := by decide +kernel
theorem mb_X0_arrive : MB yX0_arrive cX0_arrive 4 none 2 := ⟨gT_of (tb_4 (List.mem_of_getElem? (i := 108) rfl)) rfl, gT_of (tb_1 (List.mem_of_getElem? (i := 11) rfl)) rfl, ⟨by decide +kernel, by decide +kernel, by decide +kernel⟩, by decide⟩
theorem mi_X0_arrive : Cond.instanceMethod yX0_arrive ∈ gT := gT_of (tb_4 (List.mem_of_getElem? (i := 107) rfl)) rfl
theorem me_X0_arrive : Cond.selects yX0_arrive.cls yX0_arrive yX0_arrive ∈ gT := gT_of (List.mem_append_left _ (List.mem_of_getElem? (i := 14) rfl)) rfl
theorem pf_X0_leave : plainFor yX0_leave = true := by decide +kernel
theorem mb_X0_leave : MB yX0_leave cX0_leave 4 (some .int) 2 := ⟨gT_of (tb_4 (List.mem_of_getElem? (i := 118) rfl)) rfl, gT_of (tb_1 (List.mem_of_getElem? (i := 11) rfl)) rfl, ⟨by decide +kernel, by decide +kernel, by decide +kernel⟩, by decide⟩
theorem mi_X0_leave : Cond.instanceMethod yX0_leave ∈ gT := gT_of (tb_4 (List.mem_of_getElem? (i := 117) rfl)) rfl
theorem me_X0_leave : Cond.selects yX0_leave.cls yX0_leave yX0_leave ∈ gT := gT_of (List.mem_append_left _ (List.mem_of_getElem? (i := 16) rfl)) rfl
theorem pf_X1_init : plainFor yX1_init = true := by decide +kernel
theorem mb_X1_init : MB yX1_init cX1_init 1 none 0 := ⟨gT_of (tb_1 (List.mem_of_getElem? (i := 108) rfl)) rfl, gT_of (tb_1 (List.mem_of_getElem? (i := 5) rfl)) rfl, ⟨by decide +kernel, by decide +kernel, by decide +kernel⟩, by decide⟩
theorem pf_X1_has : plainFor yX1_has = true := by decide +kernel
theorem mb_X1_has : MB yX1_has cX1_has 2 (some .boolean) 1 := ⟨gT_of (tb_3 (List.mem_of_getElem? (i := 173) rfl)) rfl, gT_of (tb_1 (List.mem_of_getElem? (i := 5) rfl)) rfl, ⟨by decide +kernel, by decide +kernel, by decide +kernel⟩, by decide⟩
theorem mi_X1_has : Cond.instanceMethod yX1_has ∈ gT := gT_of (tb_3 (List.mem_of_getElem? (i := 171) rfl)) rfl
theorem me_X1_has : Cond.selects yX1_has.cls yX1_has yX1_has ∈ gT := gT_of (tb_3 (List.mem_of_getElem? (i := 172) rfl)) rfl
theorem pf_X1_add : plainFor yX1_add = true := by decide +kernel
theorem mb_X1_add : MB yX1_add cX1_add 4 (some .int) 3 := ⟨gT_of (tb_3 (List.mem_of_getElem? (i := 35) rfl)) rfl, gT_of (tb_1 (List.mem_of_getElem? (i := 5) rfl)) rfl, ⟨by decide +kernel, by decide +kernel, by decide +kernel⟩, by decide⟩
theorem mi_X1_add : Cond.instanceMethod yX1_add ∈ gT := gT_of (tb_3 (List.mem_of_getElem? (i := 33) rfl)) rfl
theorem me_X1_add : Cond.selects yX1_add.cls yX1_add yX1_add ∈ gT := gT_of (tb_3 (List.mem_of_getElem? (i := 34) rfl)) rfl
theorem pf_X2_init : plainFor yX2_init = true := by decide +kernel
theorem mb_X2_init : MB yX2_init cX2_init 1 none 0 := ⟨gT_of (tb_1 (List.mem_of_getElem? (i := 30) rfl)) rfl, gT_of (tb_1 (List.mem_of_getElem? (i := 2) rfl)) rfl, ⟨by decide +kernel, by decide +kernel, by decide +kernel⟩, by decide⟩
theorem pf_X2_hasCell : plainFor yX2_hasCell = true := by decide +kernel
theorem mb_X2_hasCell : MB yX2_hasCell cX2_hasCell 2 (some .boolean) 1 := ⟨gT_of (tb_3 (List.mem_of_getElem? (i := 13) rfl)) rfl, gT_of (tb_1 (List.mem_of_getElem? (i := 2) rfl)) rfl, ⟨by decide +kernel, by decide +kernel, by decide +kernel⟩, by decide⟩
theorem mi_X2_hasCell : Cond.instanceMethod yX2_hasCell ∈ gT := gT_of (tb_3 (List.mem_of_getElem? (i := 11) rfl)) rfl
theorem me_X2_hasCell : Cond.selects yX2_hasCell.cls yX2_hasCell yX2_hasCell ∈ gT := gT_of (tb_3 (List.mem_of_getElem? (i := 12) rfl)) rfl
theorem pf_X2_hasEnd : plainFor yX2_hasEnd = true := by decide +kernel
theorem mb_X2_hasEnd : MB yX2_hasEnd cX2_hasEnd 2 (some .boolean) 1 := ⟨gT_of (tb_4 (List.mem_of_getElem? (i := 47) rfl)) rfl, gT_of (tb_1 (List.mem_of_getElem? (i := 2) rfl)) rfl, ⟨by decide +kernel, by decide +kernel, by decide +kernel⟩, by decide⟩
theorem mi_X2_hasEnd : Cond.instanceMethod yX2_hasEnd ∈ gT := gT_of (tb_4 (List.mem_of_getElem? (i := 45) rfl)) rfl
theorem me_X2_hasEnd : Cond.selects yX2_hasEnd.cls yX2_hasEnd yX2_hasEnd ∈ gT := gT_of (tb_4 (List.mem_of_getElem? (i := 46) rfl)) rfl
theorem pf_X2_addCell : plainFor yX2_addCell = true := by decide +kernel
theorem mb_X2_addCell : MB yX2_addCell cX2_addCell 4 (some .int) 3 := ⟨gT_of (tb_3 (List.mem_of_getElem? (i := 5) rfl)) rfl, gT_of (tb_1 (List.mem_of_getElem? (i := 2) rfl)) rfl, ⟨by decide +kernel, by decide +kernel, by decide +kernel⟩, by decide⟩
theorem mi_X2_addCell : Cond.instanceMethod yX2_addCell ∈ gT := gT_of (tb_3 (List.mem_of_getElem? (i := 3) rfl)) rfl
theorem me_X2_addCell : Cond.selects yX2_addCell.cls yX2_addCell yX2_addCell ∈ gT := gT_of (tb_3 (List.mem_of_getElem? (i := 4) rfl)) rfl
theorem pf_X2_patternBits : plainFor yX2_patternBits = true := by decide +kernel
theorem mb_X2_patternBits : MB yX2_patternBits cX2_patternBits 1 (some .int) 0 := ⟨gT_of (tb_3 (List.mem_of_getElem? (i := 90) rfl)) rfl, gT_of (tb_1 (List.mem_of_getElem? (i := 2) rfl)) rfl, ⟨by decide +kernel, by decide +kernel, by decide +kernel⟩, by decide⟩
theorem mi_X2_patternBits : Cond.instanceMethod yX2_patternBits ∈ gT := gT_of (tb_3 (List.mem_of_getElem? (i := 88) rfl)) rfl
theorem me_X2_patternBits : Cond.selects yX2_patternBits.cls yX2_patternBits yX2_patternBits ∈ gT := gT_of (tb_3 (List.mem_of_getElem? (i := 89) rfl)) rfl
theorem pf_X3_init : plainFor yX3_init = true := by decide +kernel
theorem mb_X3_init : MB yX3_init cX3_init 1 none 0 := ⟨gT_of (tb_1 (List.mem_of_getElem? (i := 36) rfl)) rfl, gT_of (tb_1 (List.mem_of_getElem? (i := 3) rfl)) rfl, ⟨by decide +kernel, by decide +kernel, by decide +kernel⟩, by decide⟩
theorem pf_X3_has : plainFor yX3_has = true := by decide +kernel
theorem mb_X3_has : MB yX3_has cX3_has 2 (some .boolean) 1 := ⟨gT_of (tb_3 (List.mem_of_getElem? (i := 58) rfl)) rfl, gT_of (tb_1 (List.mem_of_getElem? (i := 3) rfl)) rfl, ⟨by decide +kernel, by decide +kernel, by decide +kernel⟩, by decide⟩
theorem mi_X3_has : Cond.instanceMethod yX3_has ∈ gT := gT_of (tb_3 (List.mem_of_getElem? (i := 56) rfl)) rfl
theorem me_X3_has : Cond.selects yX3_has.cls yX3_has yX3_has ∈ gT := gT_of (tb_3 (List.mem_of_getElem? (i := 57) rfl)) rfl
theorem pf_X3_add : plainFor yX3_add = true := by decide +kernel
theorem mb_X3_add : MB yX3_add cX3_add 4 (some .int) 3 := ⟨gT_of (tb_3 (List.mem_of_getElem? (i := 19) rfl)) rfl, gT_of (tb_1 (List.mem_of_getElem? (i := 3) rfl)) rfl, ⟨by decide +kernel, by decide +kernel, by decide +kernel⟩, by decide⟩
theorem mi_X3_add : Cond.instanceMethod yX3_add ∈ gT := gT_of (tb_3 (List.mem_of_getElem? (i := 17) rfl)) rfl
theorem me_X3_add : Cond.selects yX3_add.cls yX3_add yX3_add ∈ gT := gT_of (tb_3 (List.mem_of_getElem? (i := 18) rfl)) rfl
theorem pf_X4_init : plainFor yX4_init = true := by decide +kernel
theorem mb_X4_init : MB yX4_init cX4_init 3 none 2 := ⟨gT_of (tb_2 (List.mem_of_getElem? (i := 134) rfl)) rfl, gT_of (tb_1 (List.mem_of_getElem? (i := 13) rfl)) rfl, ⟨by decide +kernel, by decide +kernel, by decide +kernel⟩, by decide⟩
theorem pf_X4_append : plainFor yX4_append = true := by decide +kernel
theorem mb_X4_append : MB yX4_append cX4_append 2 (some .int) 1 := ⟨gT_of (tb_4 (List.mem_of_getElem? (i := 217) rfl)) rfl, gT_of (tb_1 (List.mem_of_getElem? (i := 13) rfl)) rfl, ⟨by decide +kernel, by decide +kernel, by decide +kernel⟩, by decide⟩
theorem mi_X4_append : Cond.instanceMethod yX4_append ∈ gT := gT_of (tb_4 (List.mem_of_getElem? (i := 215) rfl)) rfl
theorem me_X4_append : Cond.selects yX4_append.cls yX4_append yX4_append ∈ gT := gT_of (tb_4 (List.mem_of_getElem? (i := 216) rfl)) rfl
theorem pf_X4_isPermit : plainFor yX4_isPermit = true := by decide +kernel
theorem mb_X4_isPermit : MB yX4_isPermit cX4_isPermit 1 (some .boolean) 0 := ⟨gT_of (tb_5 (List.mem_of_getElem? (i := 26) rfl)) rfl, gT_of (tb_1 (List.mem_of_getElem? (i := 13) rfl)) rfl, ⟨by decide +kernel, by decide +kernel, by decide +kernel⟩, by decide⟩
theorem mi_X4_isPermit : Cond.instanceMethod yX4_isPermit ∈ gT := gT_of (tb_5 (List.mem_of_getElem? (i := 24) rfl)) rfl
theorem me_X4_isPermit : Cond.selects yX4_isPermit.cls yX4_isPermit yX4_isPermit ∈ gT := gT_of (tb_5 (List.mem_of_getElem? (i := 25) rfl)) rfl
theorem pf_X4_firstFault : plainFor yX4_firstFault = true := by decide +kernel
theorem mb_X4_firstFault : MB yX4_firstFault cX4_firstFault 3 (some .int) 0 := ⟨gT_of (tb_4 (List.mem_of_getElem? (i := 229) rfl)) rfl, gT_of (tb_1 (List.mem_of_getElem? (i := 13) rfl)) rfl, ⟨by decide +kernel, by decide +kernel, by decide +kernel⟩, by decide⟩
theorem mi_X4_firstFault : Cond.instanceMethod yX4_firstFault ∈ gT := gT_of (tb_4 (List.mem_of_getElem? (i := 227) rfl)) rfl
theorem me_X4_firstFault : Cond.selects yX4_firstFault.cls yX4_firstFault yX4_firstFault ∈ gT := gT_of (tb_4 (List.mem_of_getElem? (i := 228) rfl)) rfl
theorem pf_X4_after : plainFor yX4_after = true := by decide +kernel
theorem mb_X4_after : MB yX4_after cX4_after 3 (some .int) 2 := ⟨gT_of (tb_4 (List.mem_of_getElem? (i := 234) rfl)) rfl, gT_of (tb_1 (List.mem_of_getElem? (i := 13) rfl)) rfl, ⟨by decide +kernel, by decide +kernel, by decide +kernel⟩, by decide⟩
theorem mi_X4_after : Cond.instanceMethod yX4_after ∈ gT := gT_of (tb_4 (List.mem_of_getElem? (i := 233) rfl)) rfl
theorem me_X4_after : Cond.selects yX4_after.cls yX4_after yX4_after ∈ gT := gT_of (List.mem_append_left _ (List.mem_of_getElem? (i := 20) rfl)) rfl
theorem pf_X4_afterOne : plainFor yX4_afterOne = true := by decide +kernel
theorem mb_X4_afterOne : MB yX4_afterOne cX4_afterOne 2 (some .int) 1 := ⟨gT_of (tb_4 (List.mem_of_getElem? (i := 238) rfl)) rfl, gT_of (tb_1 (List.mem_of_getElem? (i := 13) rfl)) rfl, ⟨by decide +kernel, by decide +kernel, by decide +kernel⟩, by decide⟩
theorem mi_X4_afterOne : Cond.instanceMethod yX4_afterOne ∈ gT := gT_of (tb_4 (List.mem_of_getElem? (i := 237) rfl)) rfl
theorem me_X4_afterOne : Cond.selects yX4_afterOne.cls yX4_afterOne yX4_afterOne ∈ gT := gT_of (List.mem_append_left _ (List.mem_of_getElem? (i := 21) rfl)) rfl
theorem pf_X4_afterNumber : plainFor yX4_afterNumber = true := by decide +kernel
theorem mb_X4_afterNumber : MB yX4_afterNumber cX4_afterNumber 2 (some .int) 1 := ⟨gT_of (tb_5 (List.mem_of_getElem? (i := 14) rfl)) rfl, gT_of (tb_1 (List.mem_of_getElem? (i := 13) rfl)) rfl, ⟨by decide +kernel, by decide +kernel, by decide +kernel⟩, by decide⟩
theorem mi_X4_afterNumber : Cond.instanceMethod yX4_afterNumber ∈ gT := gT_of (tb_5 (List.mem_of_getElem? (i := 13) rfl)) rfl
theorem me_X4_afterNumber : Cond.selects yX4_afterNumber.cls yX4_afterNumber yX4_afterNumber ∈ gT := gT_of (List.mem_append_left _ (List.mem_of_getElem? (i := 23) rfl)) rfl
theorem pf_X4_afterBehind : plainFor yX4_afterBehind = true := by decide +kernel
theorem mb_X4_afterBehind : MB yX4_afterBehind cX4_afterBehind 2 (some .int) 1 := ⟨gT_of (tb_5 (List.mem_of_getElem? (i := 18) rfl)) rfl, gT_of (tb_1 (List.mem_of_getElem? (i := 13) rfl)) rfl, ⟨by decide +kernel, by decide +kernel, by decide +kernel⟩, by decide⟩
theorem mi_X4_afterBehind : Cond.instanceMethod yX4_afterBehind ∈ gT := gT_of (tb_5 (List.mem_of_getElem? (i := 17) rfl)) rfl
theorem me_X4_afterBehind : Cond.selects yX4_afterBehind.cls yX4_afterBehind yX4_afterBehind ∈ gT := gT_of (List.mem_append_left _ (List.mem_of_getElem? (i := 24) rfl)) rfl
theorem pf_X4_isDigit : plainFor yX4_isDigit = true := by decide +kernel
theorem mb_X4_isDigit : MB yX4_isDigit cX4_isDigit 1 (some .boolean) 1 := ⟨gT_of (tb_5 (List.mem_of_getElem? (i := 1) rfl)) rfl, gT_of (tb_1 (List.mem_of_getElem? (i := 13) rfl)) rfl, ⟨by decide +kernel, by decide +kernel, by decide +kernel⟩, by decide⟩
theorem ms_X4_isDigit : Cond.static yX4_isDigit ∈ gT := gT_of (tb_5 (List.mem_of_getElem? (i := 0) rfl)) rfl
theorem pf_X4_isThere : plainFor yX4_isThere = true := by decide +kernel
theorem mb_X4_isThere : MB yX4_isThere cX4_isThere 2 (some .boolean) 1 := ⟨gT_of (tb_5 (List.mem_of_getElem? (i := 5) rfl)) rfl, gT_of (tb_1 (List.mem_of_getElem? (i := 13) rfl)) rfl, ⟨by decide +kernel, by decide +kernel, by decide +kernel⟩, by decide⟩
theorem mi_X4_isThere : Cond.instanceMethod yX4_isThere ∈ gT := gT_of (tb_5 (List.mem_of_getElem? (i := 4) rfl)) rfl
theorem me_X4_isThere : Cond.selects yX4_isThere.cls yX4_isThere yX4_isThere ∈ gT := gT_of (List.mem_append_left _ (List.mem_of_getElem? (i := 22) rfl)) rfl
theorem pf_X4_holdsWith : plainFor yX4_holdsWith = true := by decide +kernel
theorem mb_X4_holdsWith : MB yX4_holdsWith cX4_holdsWith 5 (some .boolean) 1 := ⟨gT_of (tb_5 (List.mem_of_getElem? (i := 31) rfl)) rfl, gT_of (tb_1 (List.mem_of_getElem? (i := 13) rfl)) rfl, ⟨by decide +kernel, by decide +kernel, by decide +kernel⟩, by decide⟩
theorem mi_X4_holdsWith : Cond.instanceMethod yX4_holdsWith ∈ gT := gT_of (tb_5 (List.mem_of_getElem? (i := 29) rfl)) rfl
theorem me_X4_holdsWith : Cond.selects yX4_holdsWith.cls yX4_holdsWith yX4_holdsWith ∈ gT := gT_of (tb_5 (List.mem_of_getElem? (i := 30) rfl)) rfl
theorem pf_X4_open : plainFor yX4_open = true := by decide +kernel
theorem mb_X4_open : MB yX4_open cX4_open 1 none 0 := ⟨gT_of (tb_5 (List.mem_of_getElem? (i := 35) rfl)) rfl, gT_of (tb_1 (List.mem_of_getElem? (i := 13) rfl)) rfl, ⟨by decide +kernel, by decide +kernel, by decide +kernel⟩, by decide⟩
theorem mi_X4_open : Cond.instanceMethod yX4_open ∈ gT := gT_of (tb_5 (List.mem_of_getElem? (i := 34) rfl)) rfl
theorem me_X4_open : Cond.selects yX4_open.cls yX4_open yX4_open ∈ gT := gT_of (List.mem_append_left _ (List.mem_of_getElem? (i := 25) rfl)) rfl
theorem pf_X4_put : plainFor yX4_put = true := by decide +kernel
theorem mb_X4_put : MB yX4_put cX4_put 2 none 1 := ⟨gT_of (tb_5 (List.mem_of_getElem? (i := 39) rfl)) rfl, gT_of (tb_1 (List.mem_of_getElem? (i := 13) rfl)) rfl, ⟨by decide +kernel, by decide +kernel, by decide +kernel⟩, by decide⟩
theorem mi_X4_put : Cond.instanceMethod yX4_put ∈ gT := gT_of (tb_5 (List.mem_of_getElem? (i := 38) rfl)) rfl
theorem me_X4_put : Cond.selects yX4_put.cls yX4_put yX4_put ∈ gT := gT_of (List.mem_append_left _ (List.mem_of_getElem? (i := 26) rfl)) rfl
theorem pf_X4_ask : plainFor yX4_ask = true := by decide +kernel
theorem mb_X4_ask : MB yX4_ask cX4_ask 7 (some .boolean) 2 := ⟨gT_of (tb_5 (List.mem_of_getElem? (i := 43) rfl)) rfl, gT_of (tb_1 (List.mem_of_getElem? (i := 13) rfl)) rfl, ⟨by decide +kernel, by decide +kernel, by decide +kernel⟩, by decide⟩
theorem mi_X4_ask : Cond.instanceMethod yX4_ask ∈ gT := gT_of (tb_5 (List.mem_of_getElem? (i := 42) rfl)) rfl
theorem me_X4_ask : Cond.selects yX4_ask.cls yX4_ask yX4_ask ∈ gT := gT_of (List.mem_append_left _ (List.mem_of_getElem? (i := 27) rfl)) rfl
theorem pf_X4_nextSign : plainFor yX4_nextSign = true := by decide +kernel
theorem mb_X4_nextSign : MB yX4_nextSign cX4_nextSign 1 (some .int) 0 := ⟨gT_of (tb_5 (List.mem_of_getElem? (i := 47) rfl)) rfl, gT_of (tb_1 (List.mem_of_getElem? (i := 13) rfl)) rfl, ⟨by decide +kernel, by decide +kernel, by decide +kernel⟩, by decide⟩
theorem mi_X4_nextSign : Cond.instanceMethod yX4_nextSign ∈ gT := gT_of (tb_5 (List.mem_of_getElem? (i := 46) rfl)) rfl
theorem me_X4_nextSign : Cond.selects yX4_nextSign.cls yX4_nextSign yX4_nextSign ∈ gT := gT_of (List.mem_append_left _ (List.mem_of_getElem? (i := 28) rfl)) rfl
theorem pf_X4_readNumber : plainFor yX4_readNumber = true := by decide +kernel
theorem mb_X4_readNumber : MB yX4_readNumber cX4_readNumber 4 (some .int) 0 := ⟨gT_of (tb_5 (List.mem_of_getElem? (i := 59) rfl)) rfl, gT_of (tb_1 (List.mem_of_getElem? (i := 13) rfl)) rfl, ⟨by decide +kernel, by decide +kernel, by decide +kernel⟩, by decide⟩
theorem mi_X4_readNumber : Cond.instanceMethod yX4_readNumber ∈ gT := gT_of (tb_5 (List.mem_of_getElem? (i := 58) rfl)) rfl
theorem me_X4_readNumber : Cond.selects yX4_readNumber.cls yX4_readNumber yX4_readNumber ∈ gT := gT_of (List.mem_append_left _ (List.mem_of_getElem? (i := 30) rfl)) rfl
theorem pf_X4_valueOf : plainFor yX4_valueOf = true := by decide +kernel
theorem mb_X4_valueOf : MB yX4_valueOf cX4_valueOf 3 (some .int) 2 := ⟨gT_of (tb_5 (List.mem_of_getElem? (i := 51) rfl)) rfl, gT_of (tb_1 (List.mem_of_getElem? (i := 13) rfl)) rfl, ⟨by decide +kernel, by decide +kernel, by decide +kernel⟩, by decide⟩
theorem mi_X4_valueOf : Cond.instanceMethod yX4_valueOf ∈ gT := gT_of (tb_5 (List.mem_of_getElem? (i := 50) rfl)) rfl
theorem me_X4_valueOf : Cond.selects yX4_valueOf.cls yX4_valueOf yX4_valueOf ∈ gT := gT_of (List.mem_append_left _ (List.mem_of_getElem? (i := 29) rfl)) rfl
theorem pf_X5_init : plainFor yX5_init = true := by decide +kernel
theorem mb_X5_init : MB yX5_init cX5_init 4 none 3 := ⟨gT_of (tb_2 (List.mem_of_getElem? (i := 176) rfl)) rfl, gT_of (tb_1 (List.mem_of_getElem? (i := 14) rfl)) rfl, ⟨by decide +kernel, by decide +kernel, by decide +kernel⟩, by decide⟩
theorem pf_X5_findBest : plainFor yX5_findBest = true := by decide +kernel
theorem mb_X5_findBest : MB yX5_findBest cX5_findBest 9 (some .int) 0 := ⟨gT_of (tb_5 (List.mem_of_getElem? (i := 72) rfl)) rfl, gT_of (tb_1 (List.mem_of_getElem? (i := 14) rfl)) rfl, ⟨by decide +kernel, by decide +kernel, by decide +kernel⟩, by decide⟩
theorem mi_X5_findBest : Cond.instanceMethod yX5_findBest ∈ gT := gT_of (tb_5 (List.mem_of_getElem? (i := 70) rfl)) rfl
theorem me_X5_findBest : Cond.selects yX5_findBest.cls yX5_findBest yX5_findBest ∈ gT := gT_of (tb_5 (List.mem_of_getElem? (i := 71) rfl)) rfl
theorem pf_X5_setLevels : plainFor yX5_setLevels = true := by decide +kernel
theorem mb_X5_setLevels : MB yX5_setLevels cX5_setLevels 4 none 1 := ⟨gT_of (tb_5 (List.mem_of_getElem? (i := 77) rfl)) rfl, gT_of (tb_1 (List.mem_of_getElem? (i := 14) rfl)) rfl, ⟨by decide +kernel, by decide +kernel, by decide +kernel⟩, by decide⟩
theorem mi_X5_setLevels : Cond.instanceMethod yX5_setLevels ∈ gT := gT_of (tb_5 (List.mem_of_getElem? (i := 76) rfl)) rfl
theorem me_X5_setLevels : Cond.selects yX5_setLevels.cls yX5_setLevels yX5_setLevels ∈ gT := gT_of (List.mem_append_left _ (List.mem_of_getElem? (i := 31) rfl)) rfl
theorem pf_X5_gainOf : plainFor yX5_gainOf = true := by decide +kernel
theorem mb_X5_gainOf : MB yX5_gainOf cX5_gainOf 3 (some .int) 0 := ⟨gT_of (tb_5 (List.mem_of_getElem? (i := 85) rfl)) rfl, gT_of (tb_1 (List.mem_of_getElem? (i := 14) rfl)) rfl, ⟨by decide +kernel, by decide +kernel, by decide +kernel⟩, by decide⟩
theorem mi_X5_gainOf : Cond.instanceMethod yX5_gainOf ∈ gT := gT_of (tb_5 (List.mem_of_getElem? (i := 84) rfl)) rfl
theorem me_X5_gainOf : Cond.selects yX5_gainOf.cls yX5_gainOf yX5_gainOf ∈ gT := gT_of (List.mem_append_left _ (List.mem_of_getElem? (i := 32) rfl)) rfl
theorem pf_X5_sumOfRates : plainFor yX5_sumOfRates = true := by decide +kernel
theorem mb_X5_sumOfRates : MB yX5_sumOfRates cX5_sumOfRates 3 (some .int) 0 := ⟨gT_of (tb_5 (List.mem_of_getElem? (i := 89) rfl)) rfl, gT_of (tb_1 (List.mem_of_getElem? (i := 14) rfl)) rfl, ⟨by decide +kernel, by decide +kernel, by decide +kernel⟩, by decide⟩
theorem mi_X5_sumOfRates : Cond.instanceMethod yX5_sumOfRates ∈ gT := gT_of (tb_5 (List.mem_of_getElem? (i := 88) rfl)) rfl
theorem me_X5_sumOfRates : Cond.selects yX5_sumOfRates.cls yX5_sumOfRates yX5_sumOfRates ∈ gT := gT_of (List.mem_append_left _ (List.mem_of_getElem? (i := 33) rfl)) rfl
theorem pf_X5_mayBe : plainFor yX5_mayBe = true := by decide +kernel
theorem mb_X5_mayBe : MB yX5_mayBe cX5_mayBe 3 (some .boolean) 1 := ⟨gT_of (tb_5 (List.mem_of_getElem? (i := 93) rfl)) rfl, gT_of (tb_1 (List.mem_of_getElem? (i := 14) rfl)) rfl, ⟨by decide +kernel, by decide +kernel, by decide +kernel⟩, by decide⟩
theorem mi_X5_mayBe : Cond.instanceMethod yX5_mayBe ∈ gT := gT_of (tb_5 (List.mem_of_getElem? (i := 92) rfl)) rfl
theorem me_X5_mayBe : Cond.selects yX5_mayBe.cls yX5_mayBe yX5_mayBe ∈ gT := gT_of (List.mem_append_left _ (List.mem_of_getElem? (i := 34) rfl)) rfl
theorem pf_X5_milliWith : plainFor yX5_milliWith = true := by decide +kernel
theorem mb_X5_milliWith : MB yX5_milliWith cX5_milliWith 4 (some .int) 2 := ⟨gT_of (tb_5 (List.mem_of_getElem? (i := 125) rfl)) rfl, gT_of (tb_1 (List.mem_of_getElem? (i := 14) rfl)) rfl, ⟨by decide +kernel, by decide +kernel, by decide +kernel⟩, by decide⟩
theorem mi_X5_milliWith : Cond.instanceMethod yX5_milliWith ∈ gT := gT_of (tb_5 (List.mem_of_getElem? (i := 124) rfl)) rfl
theorem me_X5_milliWith : Cond.selects yX5_milliWith.cls yX5_milliWith yX5_milliWith ∈ gT := gT_of (List.mem_append_left _ (List.mem_of_getElem? (i := 35) rfl)) rfl
theorem pf_X5_harmAt : plainFor yX5_harmAt = true := by decide +kernel
theorem mb_X5_harmAt : MB yX5_harmAt cX5_harmAt 4 (some .int) 1 := ⟨gT_of (tb_5 (List.mem_of_getElem? (i := 121) rfl)) rfl, gT_of (tb_1 (List.mem_of_getElem? (i := 14) rfl)) rfl, ⟨by decide +kernel, by decide +kernel, by decide +kernel⟩, by decide⟩
theorem mi_X5_harmAt : Cond.instanceMethod yX5_harmAt ∈ gT := gT_of (tb_5 (List.mem_of_getElem? (i := 119) rfl)) rfl
theorem me_X5_harmAt : Cond.selects yX5_harmAt.cls yX5_harmAt yX5_harmAt ∈ gT := gT_of (tb_5 (List.mem_of_getElem? (i := 120) rfl)) rfl
theorem pf_X5_shareOf : plainFor yX5_shareOf = true := by decide +kernel
theorem mb_X5_shareOf : MB yX5_shareOf cX5_shareOf 6 (some .int) 2 := ⟨gT_of (tb_5 (List.mem_of_getElem? (i := 134) rfl)) rfl, gT_of (tb_1 (List.mem_of_getElem? (i := 14) rfl)) rfl, ⟨by decide +kernel, by decide +kernel, by decide +kernel⟩, by decide⟩
theorem mi_X5_shareOf : Cond.instanceMethod yX5_shareOf ∈ gT := gT_of (tb_5 (List.mem_of_getElem? (i := 132) rfl)) rfl
theorem me_X5_shareOf : Cond.selects yX5_shareOf.cls yX5_shareOf yX5_shareOf ∈ gT := gT_of (tb_5 (List.mem_of_getElem? (i := 133) rfl)) rfl
theorem pf_X5_ordersBehind : plainFor yX5_ordersBehind = true := by decide +kernel
theorem mb_X5_ordersBehind : MB yX5_ordersBehind cX5_ordersBehind 3 (some .int) 1 := ⟨gT_of (tb_5 (List.mem_of_getElem? (i := 138) rfl)) rfl, gT_of (tb_1 (List.mem_of_getElem? (i := 14) rfl)) rfl, ⟨by decide +kernel, by decide +kernel, by decide +kernel⟩, by decide⟩
theorem mi_X5_ordersBehind : Cond.instanceMethod yX5_ordersBehind ∈ gT := gT_of (tb_5 (List.mem_of_getElem? (i := 137) rfl)) rfl
theorem me_X5_ordersBehind : Cond.selects yX5_ordersBehind.cls yX5_ordersBehind yX5_ordersBehind ∈ gT := gT_of (List.mem_append_left _ (List.mem_of_getElem? (i := 36) rfl)) rfl
theorem pf_X6_init : plainFor yX6_init = true := by decide +kernel
theorem mb_X6_init : MB yX6_init cX6_init 3 none 2 := ⟨gT_of (tb_1 (List.mem_of_getElem? (i := 238) rfl)) rfl, gT_of (tb_1 (List.mem_of_getElem? (i := 7) rfl)) rfl, ⟨by decide +kernel, by decide +kernel, by decide +kernel⟩, by decide⟩
theorem pf_X6_forget : plainFor yX6_forget = true := by decide +kernel
theorem mb_X6_forget : MB yX6_forget cX6_forget 1 none 0 := ⟨gT_of (tb_3 (List.mem_of_getElem? (i := 1) rfl)) rfl, gT_of (tb_1 (List.mem_of_getElem? (i := 7) rfl)) rfl, ⟨by decide +kernel, by decide +kernel, by decide +kernel⟩, by decide⟩
theorem mi_X6_forget : Cond.instanceMethod yX6_forget ∈ gT := gT_of (tb_2 (List.mem_of_getElem? (i := 239) rfl)) rfl
theorem me_X6_forget : Cond.selects yX6_forget.cls yX6_forget yX6_forget ∈ gT := gT_of (tb_3 (List.mem_of_getElem? (i := 0) rfl)) rfl
theorem pf_X6_settle : plainFor yX6_settle = true := by decide +kernel
theorem mb_X6_settle : MB yX6_settle cX6_settle 7 (some .boolean) 1 := ⟨gT_of (tb_3 (List.mem_of_getElem? (i := 86) rfl)) rfl, gT_of (tb_1 (List.mem_of_getElem? (i := 7) rfl)) rfl, ⟨by decide +kernel, by decide +kernel, by decide +kernel⟩, by decide⟩
theorem mi_X6_settle : Cond.instanceMethod yX6_settle ∈ gT := gT_of (tb_3 (List.mem_of_getElem? (i := 84) rfl)) rfl
theorem me_X6_settle : Cond.selects yX6_settle.cls yX6_settle yX6_settle ∈ gT := gT_of (tb_3 (List.mem_of_getElem? (i := 85) rfl)) rfl
theorem pf_X6_fits : plainFor yX6_fits = true := by decide +kernel
theorem mb_X6_fits : MB yX6_fits cX6_fits 5 (some .boolean) 2 := ⟨gT_of (tb_3 (List.mem_of_getElem? (i := 113) rfl)) rfl, gT_of (tb_1 (List.mem_of_getElem? (i := 7) rfl)) rfl, ⟨by decide +kernel, by decide +kernel, by decide +kernel⟩, by decide⟩
theorem mi_X6_fits : Cond.instanceMethod yX6_fits ∈ gT := gT_of (tb_3 (List.mem_of_getElem? (i := 112) rfl)) rfl
theorem me_X6_fits : Cond.selects yX6_fits.cls yX6_fits yX6_fits ∈ gT := gT_of (List.mem_append_left _ (List.mem_of_getElem? (i := 5) rfl)) rfl
theorem pf_X6_solve : plainFor yX6_solve = true := by decide +kernel
theorem mb_X6_solve : MB yX6_solve cX6_solve 6 (some .long) 2 := ⟨gT_of (tb_3 (List.mem_of_getElem? (i := 117) rfl)) rfl, gT_of (tb_1 (List.mem_of_getElem? (i := 7) rfl)) rfl, ⟨by decide +kernel, by decide +kernel, by decide +kernel⟩, by decide⟩
theorem mi_X6_solve : Cond.instanceMethod yX6_solve ∈ gT := gT_of (tb_3 (List.mem_of_getElem? (i := 116) rfl)) rfl
theorem me_X6_solve : Cond.selects yX6_solve.cls yX6_solve yX6_solve ∈ gT := gT_of (List.mem_append_left _ (List.mem_of_getElem? (i := 6) rfl)) rfl
theorem pf_X6_gatherSources : plainFor yX6_gatherSources = true := by decide +kernel
theorem mb_X6_gatherSources : MB yX6_gatherSources cX6_gatherSources 7 none 2 := ⟨gT_of (tb_3 (List.mem_of_getElem? (i := 109) rfl)) rfl, gT_of (tb_1 (List.mem_of_getElem? (i := 7) rfl)) rfl, ⟨by decide +kernel, by decide +kernel, by decide +kernel⟩, by decide⟩
theorem mi_X6_gatherSources : Cond.instanceMethod yX6_gatherSources ∈ gT := gT_of (tb_3 (List.mem_of_getElem? (i := 108) rfl)) rfl
theorem me_X6_gatherSources : Cond.selects yX6_gatherSources.cls yX6_gatherSources yX6_gatherSources ∈ gT := gT_of (List.mem_append_left _ (List.mem_of_getElem? (i := 4) rfl)) rfl
theorem pf_X6_invert : plainFor yX6_invert = true := by decide +kernel
theorem mb_X6_invert : MB yX6_invert cX6_invert 9 none 2 := ⟨gT_of (tb_3 (List.mem_of_getElem? (i := 94) rfl)) rfl, gT_of (tb_1 (List.mem_of_getElem? (i := 7) rfl)) rfl, ⟨by decide +kernel, by decide +kernel, by decide +kernel⟩, by decide⟩
theorem mi_X6_invert : Cond.instanceMethod yX6_invert ∈ gT := gT_of (tb_3 (List.mem_of_getElem? (i := 93) rfl)) rfl
theorem me_X6_invert : Cond.selects yX6_invert.cls yX6_invert yX6_invert ∈ gT := gT_of (List.mem_append_left _ (List.mem_of_getElem? (i := 1) rfl)) rfl
theorem pf_X6_fillMatrix : plainFor yX6_fillMatrix = true := by decide +kernel
theorem mb_X6_fillMatrix : MB yX6_fillMatrix cX6_fillMatrix 7 none 2 := ⟨gT_of (tb_3 (List.mem_of_getElem? (i := 98) rfl)) rfl, gT_of (tb_1 (List.mem_of_getElem? (i := 7) rfl)) rfl, ⟨by decide +kernel, by decide +kernel, by decide +kernel⟩, by decide⟩
theorem mi_X6_fillMatrix : Cond.instanceMethod yX6_fillMatrix ∈ gT := gT_of (tb_3 (List.mem_of_getElem? (i := 97) rfl)) rfl
theorem me_X6_fillMatrix : Cond.selects yX6_fillMatrix.cls yX6_fillMatrix yX6_fillMatrix ∈ gT := gT_of (List.mem_append_left _ (List.mem_of_getElem? (i := 2) rfl)) rfl
theorem pf_X6_eliminate : plainFor yX6_eliminate = true := by decide +kernel
theorem mb_X6_eliminate : MB yX6_eliminate cX6_eliminate 13 none 3 := ⟨gT_of (tb_3 (List.mem_of_getElem? (i := 105) rfl)) rfl, gT_of (tb_1 (List.mem_of_getElem? (i := 7) rfl)) rfl, ⟨by decide +kernel, by decide +kernel, by decide +kernel⟩, by decide⟩
theorem mi_X6_eliminate : Cond.instanceMethod yX6_eliminate ∈ gT := gT_of (tb_3 (List.mem_of_getElem? (i := 104) rfl)) rfl
theorem me_X6_eliminate : Cond.selects yX6_eliminate.cls yX6_eliminate yX6_eliminate ∈ gT := gT_of (List.mem_append_left _ (List.mem_of_getElem? (i := 3) rfl)) rfl
theorem pf_X6_linkTop : plainFor yX6_linkTop = true := by decide +kernel
theorem mb_X6_linkTop : MB yX6_linkTop cX6_linkTop 2 (some .long) 1 := ⟨gT_of (tb_3 (List.mem_of_getElem? (i := 156) rfl)) rfl, gT_of (tb_1 (List.mem_of_getElem? (i := 7) rfl)) rfl, ⟨by decide +kernel, by decide +kernel, by decide +kernel⟩, by decide⟩
theorem mi_X6_linkTop : Cond.instanceMethod yX6_linkTop ∈ gT := gT_of (tb_3 (List.mem_of_getElem? (i := 154) rfl)) rfl
theorem me_X6_linkTop : Cond.selects yX6_linkTop.cls yX6_linkTop yX6_linkTop ∈ gT := gT_of (tb_3 (List.mem_of_getElem? (i := 155) rfl)) rfl
theorem pf_X6_riverTop : plainFor yX6_riverTop = true := by decide +kernel
theorem mb_X6_riverTop : MB yX6_riverTop cX6_riverTop 6 (some .long) 1 := ⟨gT_of (tb_3 (List.mem_of_getElem? (i := 165) rfl)) rfl, gT_of (tb_1 (List.mem_of_getElem? (i := 7) rfl)) rfl, ⟨by decide +kernel, by decide +kernel, by decide +kernel⟩, by decide⟩
theorem mi_X6_riverTop : Cond.instanceMethod yX6_riverTop ∈ gT := gT_of (tb_3 (List.mem_of_getElem? (i := 163) rfl)) rfl
theorem me_X6_riverTop : Cond.selects yX6_riverTop.cls yX6_riverTop yX6_riverTop ∈ gT := gT_of (tb_3 (List.mem_of_getElem? (i := 164) rfl)) rfl
theorem pf_X6_drainTop : plainFor yX6_drainTop = true := by decide +kernel
theorem mb_X6_drainTop : MB yX6_drainTop cX6_drainTop 3 (some .long) 1 := ⟨gT_of (tb_3 (List.mem_of_getElem? (i := 177) rfl)) rfl, gT_of (tb_1 (List.mem_of_getElem? (i := 7) rfl)) rfl, ⟨by decide +kernel, by decide +kernel, by decide +kernel⟩, by decide⟩
theorem mi_X6_drainTop : Cond.instanceMethod yX6_drainTop ∈ gT := gT_of (tb_3 (List.mem_of_getElem? (i := 175) rfl)) rfl
theorem me_X6_drainTop : Cond.selects yX6_drainTop.cls yX6_drainTop yX6_drainTop ∈ gT := gT_of (tb_3 (List.mem_of_getElem? (i := 176) rfl)) rfl
theorem pf_X6_throughTop : plainFor yX6_throughTop = true := by decide +kernel
theorem mb_X6_throughTop : MB yX6_throughTop cX6_throughTop 4 (some .long) 0 := ⟨gT_of (tb_3 (List.mem_of_getElem? (i := 198) rfl)) rfl, gT_of (tb_1 (List.mem_of_getElem? (i := 7) rfl)) rfl, ⟨by decide +kernel, by decide +kernel, by decide +kernel⟩, by decide⟩
theorem mi_X6_throughTop : Cond.instanceMethod yX6_throughTop ∈ gT := gT_of (tb_3 (List.mem_of_getElem? (i := 196) rfl)) rfl
theorem me_X6_throughTop : Cond.selects yX6_throughTop.cls yX6_throughTop yX6_throughTop ∈ gT := gT_of (tb_3 (List.mem_of_getElem? (i := 197) rfl)) rfl
theorem pf_X6_isDry : plainFor yX6_isDry = true := by decide +kernel
theorem mb_X6_isDry : MB yX6_isDry cX6_isDry 2 (some .boolean) 1 := ⟨gT_of (tb_3 (List.mem_of_getElem? (i := 185) rfl)) rfl, gT_of (tb_1 (List.mem_of_getElem? (i := 7) rfl)) rfl, ⟨by decide +kernel, by decide +kernel, by decide +kernel⟩, by decide⟩
theorem mi_X6_isDry : Cond.instanceMethod yX6_isDry ∈ gT := gT_of (tb_3 (List.mem_of_getElem? (i := 183) rfl)) rfl
theorem me_X6_isDry : Cond.selects yX6_isDry.cls yX6_isDry yX6_isDry ∈ gT := gT_of (tb_3 (List.mem_of_getElem? (i := 184) rfl)) rfl
theorem pf_X6_headMilli : plainFor yX6_headMilli = true := by decide +kernel
theorem mb_X6_headMilli : MB yX6_headMilli cX6_headMilli 2 (some .int) 1 := ⟨gT_of (tb_3 (List.mem_of_getElem? (i := 141) rfl)) rfl, gT_of (tb_1 (List.mem_of_getElem? (i := 7) rfl)) rfl, ⟨by decide +kernel, by decide +kernel, by decide +kernel⟩, by decide⟩
theorem mi_X6_headMilli : Cond.instanceMethod yX6_headMilli ∈ gT := gT_of (tb_3 (List.mem_of_getElem? (i := 139) rfl)) rfl
theorem me_X6_headMilli : Cond.selects yX6_headMilli.cls yX6_headMilli yX6_headMilli ∈ gT := gT_of (tb_3 (List.mem_of_getElem? (i := 140) rfl)) rfl
theorem pf_X7_init : plainFor yX7_init = true := by decide +kernel
theorem mb_X7_init : MB yX7_init cX7_init 1 none 0 := ⟨gT_of (tb_1 (List.mem_of_getElem? (i := 70) rfl)) rfl, gT_of (tb_1 (List.mem_of_getElem? (i := 4) rfl)) rfl, ⟨by decide +kernel, by decide +kernel, by decide +kernel⟩, by decide⟩
theorem pf_X7_has : plainFor yX7_has = true := by decide +kernel
theorem mb_X7_has : MB yX7_has cX7_has 2 (some .boolean) 1 := ⟨gT_of (tb_3 (List.mem_of_getElem? (i := 74) rfl)) rfl, gT_of (tb_1 (List.mem_of_getElem? (i := 4) rfl)) rfl, ⟨by decide +kernel, by decide +kernel, by decide +kernel⟩, by decide⟩
theorem mi_X7_has : Cond.instanceMethod yX7_has ∈ gT := gT_of (tb_3 (List.mem_of_getElem? (i := 72) rfl)) rfl
theorem me_X7_has : Cond.selects yX7_has.cls yX7_has yX7_has ∈ gT := gT_of (tb_3 (List.mem_of_getElem? (i := 73) rfl)) rfl
theorem pf_X7_add : plainFor yX7_add = true := by decide +kernel
theorem mb_X7_add : MB yX7_add cX7_add 5 (some .int) 4 := ⟨gT_of (tb_3 (List.mem_of_getElem? (i := 27) rfl)) rfl, gT_of (tb_1 (List.mem_of_getElem? (i := 4) rfl)) rfl, ⟨by decide +kernel, by decide +kernel, by decide +kernel⟩, by decide⟩
theorem mi_X7_add : Cond.instanceMethod yX7_add ∈ gT := gT_of (tb_3 (List.mem_of_getElem? (i := 25) rfl)) rfl
theorem me_X7_add : Cond.selects yX7_add.cls yX7_add yX7_add ∈ gT := gT_of (tb_3 (List.mem_of_getElem? (i := 26) rfl)) rfl
theorem pf_X8_init : plainFor yX8_init = true := by decide +kernel
theorem mb_X8_init : MB yX8_init cX8_init 3 none 2 := ⟨gT_of (tb_2 (List.mem_of_getElem? (i := 49) rfl)) rfl, gT_of (tb_1 (List.mem_of_getElem? (i := 10) rfl)) rfl, ⟨by decide +kernel, by decide +kernel, by decide +kernel⟩, by decide⟩
theorem pf_X8_gather : plainFor yX8_gather = true := by decide +kernel
theorem mb_X8_gather : MB yX8_gather cX8_gather 5 none 1 := ⟨gT_of (tb_3 (List.mem_of_getElem? (i := 220) rfl)) rfl, gT_of (tb_1 (List.mem_of_getElem? (i := 10) rfl)) rfl, ⟨by decide +kernel, by decide +kernel, by decide +kernel⟩, by decide⟩
theorem mi_X8_gather : Cond.instanceMethod yX8_gather ∈ gT := gT_of (tb_3 (List.mem_of_getElem? (i := 218) rfl)) rfl
theorem me_X8_gather : Cond.selects yX8_gather.cls yX8_gather yX8_gather ∈ gT := gT_of (tb_3 (List.mem_of_getElem? (i := 219) rfl)) rfl
theorem pf_X8_addOutlet : plainFor yX8_addOutlet = true := by decide +kernel
theorem mb_X8_addOutlet : MB yX8_addOutlet cX8_addOutlet 4 none 2 := ⟨gT_of (tb_3 (List.mem_of_getElem? (i := 225) rfl)) rfl, gT_of (tb_1 (List.mem_of_getElem? (i := 10) rfl)) rfl, ⟨by decide +kernel, by decide +kernel, by decide +kernel⟩, by decide⟩
theorem mi_X8_addOutlet : Cond.instanceMethod yX8_addOutlet ∈ gT := gT_of (tb_3 (List.mem_of_getElem? (i := 224) rfl)) rfl
theorem me_X8_addOutlet : Cond.selects yX8_addOutlet.cls yX8_addOutlet yX8_addOutlet ∈ gT := gT_of (List.mem_append_left _ (List.mem_of_getElem? (i := 8) rfl)) rfl
theorem pf_X8_mainOutlet : plainFor yX8_mainOutlet = true := by decide +kernel
theorem mb_X8_mainOutlet : MB yX8_mainOutlet cX8_mainOutlet 3 (some .int) 0 := ⟨gT_of (tb_3 (List.mem_of_getElem? (i := 231) rfl)) rfl, gT_of (tb_1 (List.mem_of_getElem? (i := 10) rfl)) rfl, ⟨by decide +kernel, by decide +kernel, by decide +kernel⟩, by decide⟩
theorem mi_X8_mainOutlet : Cond.instanceMethod yX8_mainOutlet ∈ gT := gT_of (tb_3 (List.mem_of_getElem? (i := 230) rfl)) rfl
theorem me_X8_mainOutlet : Cond.selects yX8_mainOutlet.cls yX8_mainOutlet yX8_mainOutlet ∈ gT := gT_of (List.mem_append_left _ (List.mem_of_getElem? (i := 9) rfl)) rfl
theorem pf_X8_onward : plainFor yX8_onward = true := by decide +kernel
theorem mb_X8_onward : MB yX8_onward cX8_onward 3 (some .int) 1 := ⟨gT_of (tb_3 (List.mem_of_getElem? (i := 216) rfl)) rfl, gT_of (tb_1 (List.mem_of_getElem? (i := 10) rfl)) rfl, ⟨by decide +kernel, by decide +kernel, by decide +kernel⟩, by decide⟩
theorem mi_X8_onward : Cond.instanceMethod yX8_onward ∈ gT := gT_of (tb_3 (List.mem_of_getElem? (i := 215) rfl)) rfl
theorem me_X8_onward : Cond.selects yX8_onward.cls yX8_onward yX8_onward ∈ gT := gT_of (List.mem_append_left _ (List.mem_of_getElem? (i := 7) rfl)) rfl
theorem pf_X8_cellOfWay : plainFor yX8_cellOfWay = true := by decide +kernel
theorem mb_X8_cellOfWay : MB yX8_cellOfWay cX8_cellOfWay 5 (some .int) 2 := ⟨gT_of (tb_3 (List.mem_of_getElem? (i := 210) rfl)) rfl, gT_of (tb_1 (List.mem_of_getElem? (i := 10) rfl)) rfl, ⟨by decide +kernel, by decide +kernel, by decide +kernel⟩, by decide⟩
theorem mi_X8_cellOfWay : Cond.instanceMethod yX8_cellOfWay ∈ gT := gT_of (tb_3 (List.mem_of_getElem? (i := 208) rfl)) rfl
theorem me_X8_cellOfWay : Cond.selects yX8_cellOfWay.cls yX8_cellOfWay yX8_cellOfWay ∈ gT := gT_of (tb_3 (List.mem_of_getElem? (i := 209) rfl)) rfl
theorem pf_X8_endOfWay : plainFor yX8_endOfWay = true := by decide +kernel
theorem mb_X8_endOfWay : MB yX8_endOfWay cX8_endOfWay 4 (some .int) 1 := ⟨gT_of (tb_3 (List.mem_of_getElem? (i := 239) rfl)) rfl, gT_of (tb_1 (List.mem_of_getElem? (i := 10) rfl)) rfl, ⟨by decide +kernel, by decide +kernel, by decide +kernel⟩, by decide⟩
theorem mi_X8_endOfWay : Cond.instanceMethod yX8_endOfWay ∈ gT := gT_of (tb_3 (List.mem_of_getElem? (i := 237) rfl)) rfl
theorem me_X8_endOfWay : Cond.selects yX8_endOfWay.cls yX8_endOfWay yX8_endOfWay ∈ gT := gT_of (tb_3 (List.mem_of_getElem? (i := 238) rfl)) rfl
theorem pf_X8_flowTogether : plainFor yX8_flowTogether = true := by decide +kernel
theorem mb_X8_flowTogether : MB yX8_flowTogether cX8_flowTogether 4 (some .long) 0 := ⟨gT_of (tb_4 (List.mem_of_getElem? (i := 14) rfl)) rfl, gT_of (tb_1 (List.mem_of_getElem? (i := 10) rfl)) rfl, ⟨by decide +kernel, by decide +kernel, by decide +kernel⟩, by decide⟩
theorem mi_X8_flowTogether : Cond.instanceMethod yX8_flowTogether ∈ gT := gT_of (tb_4 (List.mem_of_getElem? (i := 12) rfl)) rfl
theorem me_X8_flowTogether : Cond.selects yX8_flowTogether.cls yX8_flowTogether yX8_flowTogether ∈ gT := gT_of (tb_4 (List.mem_of_getElem? (i := 13) rfl)) rfl
theorem pf_X8_waterTop : plainFor yX8_waterTop = true := by decide +kernel
theorem mb_X8_waterTop : MB yX8_waterTop cX8_waterTop 2 (some .long) 1 := ⟨gT_of (tb_4 (List.mem_of_getElem? (i := 9) rfl)) rfl, gT_of (tb_1 (List.mem_of_getElem? (i := 10) rfl)) rfl, ⟨by decide +kernel, by decide +kernel, by decide +kernel⟩, by decide⟩
theorem mi_X8_waterTop : Cond.instanceMethod yX8_waterTop ∈ gT := gT_of (tb_4 (List.mem_of_getElem? (i := 7) rfl)) rfl
theorem me_X8_waterTop : Cond.selects yX8_waterTop.cls yX8_waterTop yX8_waterTop ∈ gT := gT_of (tb_4 (List.mem_of_getElem? (i := 8) rfl)) rfl
theorem pf_X8_milliOfWay : plainFor yX8_milliOfWay = true := by decide +kernel
theorem mb_X8_milliOfWay : MB yX8_milliOfWay cX8_milliOfWay 7 (some .long) 1 := ⟨gT_of (tb_4 (List.mem_of_getElem? (i := 22) rfl)) rfl, gT_of (tb_1 (List.mem_of_getElem? (i := 10) rfl)) rfl, ⟨by decide +kernel, by decide +kernel, by decide +kernel⟩, by decide⟩
theorem mi_X8_milliOfWay : Cond.instanceMethod yX8_milliOfWay ∈ gT := gT_of (tb_4 (List.mem_of_getElem? (i := 20) rfl)) rfl
theorem me_X8_milliOfWay : Cond.selects yX8_milliOfWay.cls yX8_milliOfWay yX8_milliOfWay ∈ gT := gT_of (tb_4 (List.mem_of_getElem? (i := 21) rfl)) rfl
theorem pf_X8_zoneOf : plainFor yX8_zoneOf = true := by decide +kernel
theorem mb_X8_zoneOf : MB yX8_zoneOf cX8_zoneOf 4 (some .int) 1 := ⟨gT_of (tb_4 (List.mem_of_getElem? (i := 35) rfl)) rfl, gT_of (tb_1 (List.mem_of_getElem? (i := 10) rfl)) rfl, ⟨by decide +kernel, by decide +kernel, by decide +kernel⟩, by decide⟩
theorem mi_X8_zoneOf : Cond.instanceMethod yX8_zoneOf ∈ gT := gT_of (tb_4 (List.mem_of_getElem? (i := 33) rfl)) rfl
theorem me_X8_zoneOf : Cond.selects yX8_zoneOf.cls yX8_zoneOf yX8_zoneOf ∈ gT := gT_of (tb_4 (List.mem_of_getElem? (i := 34) rfl)) rfl
theorem pf_X8_withFeeders : plainFor yX8_withFeeders = true := by decide +kernel
theorem mb_X8_withFeeders : MB yX8_withFeeders cX8_withFeeders 8 (some .int) 1 := ⟨gT_of (tb_4 (List.mem_of_getElem? (i := 39) rfl)) rfl, gT_of (tb_1 (List.mem_of_getElem? (i := 10) rfl)) rfl, ⟨by decide +kernel, by decide +kernel, by decide +kernel⟩, by decide⟩
theorem mi_X8_withFeeders : Cond.instanceMethod yX8_withFeeders ∈ gT := gT_of (tb_4 (List.mem_of_getElem? (i := 38) rfl)) rfl
theorem me_X8_withFeeders : Cond.selects yX8_withFeeders.cls yX8_withFeeders yX8_withFeeders ∈ gT := gT_of (List.mem_append_left _ (List.mem_of_getElem? (i := 10) rfl)) rfl
theorem pf_X8_partsThatReach : plainFor yX8_partsThatReach = true := by decide +kernel
theorem mb_X8_partsThatReach : MB yX8_partsThatReach cX8_partsThatReach 7 (some .int) 2 := ⟨gT_of (tb_4 (List.mem_of_getElem? (i := 55) rfl)) rfl, gT_of (tb_1 (List.mem_of_getElem? (i := 10) rfl)) rfl, ⟨by decide +kernel, by decide +kernel, by decide +kernel⟩, by decide⟩
theorem mi_X8_partsThatReach : Cond.instanceMethod yX8_partsThatReach ∈ gT := gT_of (tb_4 (List.mem_of_getElem? (i := 53) rfl)) rfl
theorem me_X8_partsThatReach : Cond.selects yX8_partsThatReach.cls yX8_partsThatReach yX8_partsThatReach ∈ gT := gT_of (tb_4 (List.mem_of_getElem? (i := 54) rfl)) rfl
theorem pf_X8_highestBut : plainFor yX8_highestBut = true := by decide +kernel
theorem mb_X8_highestBut : MB yX8_highestBut cX8_highestBut 4 (some .int) 1 := ⟨gT_of (tb_4 (List.mem_of_getElem? (i := 61) rfl)) rfl, gT_of (tb_1 (List.mem_of_getElem? (i := 10) rfl)) rfl, ⟨by decide +kernel, by decide +kernel, by decide +kernel⟩, by decide⟩
theorem mi_X8_highestBut : Cond.instanceMethod yX8_highestBut ∈ gT := gT_of (tb_4 (List.mem_of_getElem? (i := 60) rfl)) rfl
theorem me_X8_highestBut : Cond.selects yX8_highestBut.cls yX8_highestBut yX8_highestBut ∈ gT := gT_of (List.mem_append_left _ (List.mem_of_getElem? (i := 11) rfl)) rfl
theorem pf_X8_handOn : plainFor yX8_handOn = true := by decide +kernel
theorem mb_X8_handOn : MB yX8_handOn cX8_handOn 10 (some .int) 2 := ⟨gT_of (tb_4 (List.mem_of_getElem? (i := 65) rfl)) rfl, gT_of (tb_1 (List.mem_of_getElem? (i := 10) rfl)) rfl, ⟨by decide +kernel, by decide +kernel, by decide +kernel⟩, by decide⟩
theorem mi_X8_handOn : Cond.instanceMethod yX8_handOn ∈ gT := gT_of (tb_4 (List.mem_of_getElem? (i := 64) rfl)) rfl
theorem me_X8_handOn : Cond.selects yX8_handOn.cls yX8_handOn yX8_handOn ∈ gT := gT_of (List.mem_append_left _ (List.mem_of_getElem? (i := 12) rfl)) rfl
theorem pf_X8_deliver : plainFor yX8_deliver = true := by decide +kernel
theorem mb_X8_deliver : MB yX8_deliver cX8_deliver 4 (some .int) 3 := ⟨gT_of (tb_4 (List.mem_of_getElem? (i := 73) rfl)) rfl, gT_of (tb_1 (List.mem_of_getElem? (i := 10) rfl)) rfl, ⟨by decide +kernel, by decide +kernel, by decide +kernel⟩, by decide⟩
theorem mi_X8_deliver : Cond.instanceMethod yX8_deliver ∈ gT := gT_of (tb_4 (List.mem_of_getElem? (i := 72) rfl)) rfl
theorem me_X8_deliver : Cond.selects yX8_deliver.cls yX8_deliver yX8_deliver ∈ gT := gT_of (List.mem_append_left _ (List.mem_of_getElem? (i := 13) rfl)) rfl
theorem pf_X8_shareByFlow : plainFor yX8_shareByFlow = true := by decide +kernel
theorem mb_X8_shareByFlow : MB yX8_shareByFlow cX8_shareByFlow 9 (some .int) 3 := ⟨gT_of (tb_4 (List.mem_of_getElem? (i := 68) rfl)) rfl, gT_of (tb_1 (List.mem_of_getElem? (i := 10) rfl)) rfl, ⟨by decide +kernel, by decide +kernel, by decide +kernel⟩, by decide⟩
theorem ms_X8_shareByFlow : Cond.static yX8_shareByFlow ∈ gT := gT_of (tb_4 (List.mem_of_getElem? (i := 67) rfl)) rfl
theorem pf_X9_init : plainFor yX9_init = true := by decide +kernel
theorem mb_X9_init : MB yX9_init cX9_init 1 none 0 := ⟨gT_of (tb_1 (List.mem_of_getElem? (i := 139) rfl)) rfl, gT_of (tb_1 (List.mem_of_getElem? (i := 6) rfl)) rfl, ⟨by decide +kernel, by decide +kernel, by decide +kernel⟩, by decide⟩
theorem pf_X9_has : plainFor yX9_has = true := by decide +kernel
theorem mb_X9_has : MB yX9_has cX9_has 2 (some .boolean) 1 := ⟨gT_of (tb_3 (List.mem_of_getElem? (i := 66) rfl)) rfl, gT_of (tb_1 (List.mem_of_getElem? (i := 6) rfl)) rfl, ⟨by decide +kernel, by decide +kernel, by decide +kernel⟩, by decide⟩
theorem mi_X9_has : Cond.instanceMethod yX9_has ∈ gT := gT_of (tb_3 (List.mem_of_getElem? (i := 64) rfl)) rfl
theorem me_X9_has : Cond.selects yX9_has.cls yX9_has yX9_has ∈ gT := gT_of (tb_3 (List.mem_of_getElem? (i := 65) rfl)) rfl
theorem pf_X9_add : plainFor yX9_add = true := by decide +kernel
theorem mb_X9_add : MB yX9_add cX9_add 4 (some .int) 3 := ⟨gT_of (tb_3 (List.mem_of_getElem? (i := 43) rfl)) rfl, gT_of (tb_1 (List.mem_of_getElem? (i := 6) rfl)) rfl, ⟨by decide +kernel, by decide +kernel, by decide +kernel⟩, by decide⟩
theorem mi_X9_add : Cond.instanceMethod yX9_add ∈ gT := gT_of (tb_3 (List.mem_of_getElem? (i := 41) rfl)) rfl
theorem me_X9_add : Cond.selects yX9_add.cls yX9_add yX9_add ∈ gT := gT_of (tb_3 (List.mem_of_getElem? (i := 42) rfl)) rfl
theorem pf_X9_rateAt : plainFor yX9_rateAt = true := by decide +kernel
theorem mb_X9_rateAt : MB yX9_rateAt cX9_rateAt 3 (some .int) 2 := ⟨gT_of (tb_5 (List.mem_of_getElem? (i := 81) rfl)) rfl, gT_of (tb_1 (List.mem_of_getElem? (i := 6) rfl)) rfl, ⟨by decide +kernel, by decide +kernel, by decide +kernel⟩, by decide⟩
theorem mi_X9_rateAt : Cond.instanceMethod yX9_rateAt ∈ gT := gT_of (tb_5 (List.mem_of_getElem? (i := 79) rfl)) rfl
theorem me_X9_rateAt : Cond.selects yX9_rateAt.cls yX9_rateAt yX9_rateAt ∈ gT := gT_of (tb_5 (List.mem_of_getElem? (i := 80) rfl)) rfl
theorem pf_X9_allRates : plainFor yX9_allRates = true := by decide +kernel
theorem mb_X9_allRates : MB yX9_allRates cX9_allRates 3 (some .int) 0 := ⟨gT_of (tb_5 (List.mem_of_getElem? (i := 158) rfl)) rfl, gT_of (tb_1 (List.mem_of_getElem? (i := 6) rfl)) rfl, ⟨by decide +kernel, by decide +kernel, by decide +kernel⟩, by decide⟩
theorem mi_X9_allRates : Cond.instanceMethod yX9_allRates ∈ gT := gT_of (tb_5 (List.mem_of_getElem? (i := 156) rfl)) rfl
theorem me_X9_allRates : Cond.selects yX9_allRates.cls yX9_allRates yX9_allRates ∈ gT := gT_of (tb_5 (List.mem_of_getElem? (i := 157) rfl)) rfl
theorem pf_X10_init : plainFor yX10_init = true := by decide +kernel
theorem mb_X10_init : MB yX10_init cX10_init 2 none 1 := ⟨gT_of (tb_2 (List.mem_of_getElem? (i := 96) rfl)) rfl, gT_of (tb_1 (List.mem_of_getElem? (i := 12) rfl)) rfl, ⟨by decide +kernel, by decide +kernel, by decide +kernel⟩, by decide⟩
theorem pf_X10_has : plainFor yX10_has = true := by decide +kernel
theorem mb_X10_has : MB yX10_has cX10_has 2 (some .boolean) 1 := ⟨gT_of (tb_4 (List.mem_of_getElem? (i := 189) rfl)) rfl, gT_of (tb_1 (List.mem_of_getElem? (i := 12) rfl)) rfl, ⟨by decide +kernel, by decide +kernel, by decide +kernel⟩, by decide⟩
theorem mi_X10_has : Cond.instanceMethod yX10_has ∈ gT := gT_of (tb_4 (List.mem_of_getElem? (i := 187) rfl)) rfl
theorem me_X10_has : Cond.selects yX10_has.cls yX10_has yX10_has ∈ gT := gT_of (tb_4 (List.mem_of_getElem? (i := 188) rfl)) rfl
theorem pf_X10_add : plainFor yX10_add = true := by decide +kernel
theorem mb_X10_add : MB yX10_add cX10_add 3 (some .int) 2 := ⟨gT_of (tb_4 (List.mem_of_getElem? (i := 142) rfl)) rfl, gT_of (tb_1 (List.mem_of_getElem? (i := 12) rfl)) rfl, ⟨by decide +kernel, by decide +kernel, by decide +kernel⟩, by decide⟩
theorem mi_X10_add : Cond.instanceMethod yX10_add ∈ gT := gT_of (tb_4 (List.mem_of_getElem? (i := 140) rfl)) rfl
theorem me_X10_add : Cond.selects yX10_add.cls yX10_add yX10_add ∈ gT := gT_of (tb_4 (List.mem_of_getElem? (i := 141) rfl)) rfl
theorem pf_X10_note : plainFor yX10_note = true := by decide +kernel
theorem mb_X10_note : MB yX10_note cX10_note 4 (some .boolean) 3 := ⟨gT_of (tb_4 (List.mem_of_getElem? (i := 153) rfl)) rfl, gT_of (tb_1 (List.mem_of_getElem? (i := 12) rfl)) rfl, ⟨by decide +kernel, by decide +kernel, by decide +kernel⟩, by decide⟩
theorem mi_X10_note : Cond.instanceMethod yX10_note ∈ gT := gT_of (tb_4 (List.mem_of_getElem? (i := 151) rfl)) rfl
theorem me_X10_note : Cond.selects yX10_note.cls yX10_note yX10_note ∈ gT := gT_of (tb_4 (List.mem_of_getElem? (i := 152) rfl)) rfl
theorem pf_X10_isSeen : plainFor yX10_isSeen = true := by decide +kernel
theorem mb_X10_isSeen : MB yX10_isSeen cX10_isSeen 2 (some .boolean) 1 := ⟨gT_of (tb_4 (List.mem_of_getElem? (i := 178) rfl)) rfl, gT_of (tb_1 (List.mem_of_getElem? (i := 12) rfl)) rfl, ⟨by decide +kernel, by decide +kernel, by decide +kernel⟩, by decide⟩
theorem mi_X10_isSeen : Cond.instanceMethod yX10_isSeen ∈ gT := gT_of (tb_4 (List.mem_of_getElem? (i := 177) rfl)) rfl
theorem me_X10_isSeen : Cond.selects yX10_isSeen.cls yX10_isSeen yX10_isSeen ∈ gT := gT_of (List.mem_append_left _ (List.mem_of_getElem? (i := 19) rfl)) rfl
theorem pf_X10_seenCells : plainFor yX10_seenCells = true := by decide +kernel
theorem mb_X10_seenCells : MB yX10_seenCells cX10_seenCells 3 (some .int) 0 := ⟨gT_of (tb_5 (List.mem_of_getElem? (i := 154) rfl)) rfl, gT_of (tb_1 (List.mem_of_getElem? (i := 12) rfl)) rfl, ⟨by decide +kernel, by decide +kernel, by decide +kernel⟩, by decide⟩
theorem mi_X10_seenCells : Cond.instanceMethod yX10_seenCells ∈ gT := gT_of (tb_5 (List.mem_of_getElem? (i := 152) rfl)) rfl
theorem me_X10_seenCells : Cond.selects yX10_seenCells.cls yX10_seenCells yX10_seenCells ∈ gT := gT_of (tb_5 (List.mem_of_getElem? (i := 153) rfl)) rfl
theorem pf_X10_settleIn : plainFor yX10_settleIn = true := by decide +kernel
theorem mb_X10_settleIn : MB yX10_settleIn cX10_settleIn 5 (some .boolean) 1 := ⟨gT_of (tb_4 (List.mem_of_getElem? (i := 166) rfl)) rfl, gT_of (tb_1 (List.mem_of_getElem? (i := 12) rfl)) rfl, ⟨by decide +kernel, by decide +kernel, by decide +kernel⟩, by decide⟩
theorem mi_X10_settleIn : Cond.instanceMethod yX10_settleIn ∈ gT := gT_of (tb_4 (List.mem_of_getElem? (i := 164) rfl)) rfl
theorem me_X10_settleIn : Cond.selects yX10_settleIn.cls yX10_settleIn yX10_settleIn ∈ gT := gT_of (tb_4 (List.mem_of_getElem? (i := 165) rfl)) rfl
theorem pf_X10_thatAreLeft : plainFor yX10_thatAreLeft = true := by decide +kernel
theorem mb_X10_thatAreLeft : MB yX10_thatAreLeft cX10_thatAreLeft 3 (some .int) 0 := ⟨gT_of (tb_4 (List.mem_of_getElem? (i := 162) rfl)) rfl, gT_of (tb_1 (List.mem_of_getElem? (i := 12) rfl)) rfl, ⟨by decide +kernel, by decide +kernel, by decide +kernel⟩, by decide⟩
theorem mi_X10_thatAreLeft : Cond.instanceMethod yX10_thatAreLeft ∈ gT := gT_of (tb_4 (List.mem_of_getElem? (i := 160) rfl)) rfl
theorem me_X10_thatAreLeft : Cond.selects yX10_thatAreLeft.cls yX10_thatAreLeft yX10_thatAreLeft ∈ gT := gT_of (tb_4 (List.mem_of_getElem? (i := 161) rfl)) rfl
theorem pf_X10_agrees : plainFor yX10_agrees = true := by decide +kernel
theorem mb_X10_agrees : MB yX10_agrees cX10_agrees 5 (some .boolean) 1 := ⟨gT_of (tb_4 (List.mem_of_getElem? (i := 173) rfl)) rfl, gT_of (tb_1 (List.mem_of_getElem? (i := 12) rfl)) rfl, ⟨by decide +kernel, by decide +kernel, by decide +kernel⟩, by decide⟩
theorem mi_X10_agrees : Cond.instanceMethod yX10_agrees ∈ gT := gT_of (tb_4 (List.mem_of_getElem? (i := 172) rfl)) rfl
theorem me_X10_agrees : Cond.selects yX10_agrees.cls yX10_agrees yX10_agrees ∈ gT := gT_of (List.mem_append_left _ (List.mem_of_getElem? (i := 18) rfl)) rfl
theorem pf_X10_mostAlike : plainFor yX10_mostAlike = true := by decide +kernel
theorem mb_X10_mostAlike : MB yX10_mostAlike cX10_mostAlike 7 (some .int) 2 := ⟨gT_of (tb_4 (List.mem_of_getElem? (i := 204) rfl)) rfl, gT_of (tb_1 (List.mem_of_getElem? (i := 12) rfl)) rfl, ⟨by decide +kernel, by decide +kernel, by decide +kernel⟩, by decide⟩
theorem mi_X10_mostAlike : Cond.instanceMethod yX10_mostAlike ∈ gT := gT_of (tb_4 (List.mem_of_getElem? (i := 202) rfl)) rfl
theorem me_X10_mostAlike : Cond.selects yX10_mostAlike.cls yX10_mostAlike yX10_mostAlike ∈ gT := gT_of (tb_4 (List.mem_of_getElem? (i := 203) rfl)) rfl
theorem pf_X10_nextTest : plainFor yX10_nextTest = true := by decide +kernel
theorem mb_X10_nextTest : MB yX10_nextTest cX10_nextTest 6 (some .int) 0 := ⟨gT_of (tb_4 (List.mem_of_getElem? (i := 198) rfl)) rfl, gT_of (tb_1 (List.mem_of_getElem? (i := 12) rfl)) rfl, ⟨by decide +kernel, by decide +kernel, by decide +kernel⟩, by decide⟩
theorem mi_X10_nextTest : Cond.instanceMethod yX10_nextTest ∈ gT := gT_of (tb_4 (List.mem_of_getElem? (i := 196) rfl)) rfl
theorem me_X10_nextTest : Cond.selects yX10_nextTest.cls yX10_nextTest yX10_nextTest ∈ gT := gT_of (tb_4 (List.mem_of_getElem? (i := 197) rfl)) rfl
theorem pf_J6_bitCount_0f7a4 : plainFor yJ6_bitCount_0f7a4 = true := by decide +kernel
theorem mb_J6_bitCount_0f7a4 : MB yJ6_bitCount_0f7a4 cJ6_bitCount_0f7a4 1 (some .int) 1 := ⟨gT_of (tb_5 (List.mem_of_getElem? (i := 141) rfl)) rfl, gT_of (tb_1 (List.mem_of_getElem? (i := 17) rfl)) rfl, ⟨by decide +kernel, by decide +kernel, by decide +kernel⟩, by decide⟩
theorem ms_J6_bitCount_0f7a4 : Cond.static yJ6_bitCount_0f7a4 ∈ gT := gT_of (tb_5 (List.mem_of_getElem? (i := 140) rfl)) rfl
theorem pf_J9_abs_0f7a4 : plainFor yJ9_abs_0f7a4 = true := by decide +kernel
theorem mb_J9_abs_0f7a4 : MB yJ9_abs_0f7a4 cJ9_abs_0f7a4 1 (some .int) 1 := ⟨gT_of (tb_4 (List.mem_of_getElem? (i := 181) rfl)) rfl, gT_of (tb_1 (List.mem_of_getElem? (i := 8) rfl)) rfl, ⟨by decide +kernel, by decide +kernel, by decide +kernel⟩, by decide⟩
theorem ms_J9_abs_0f7a4 : Cond.static yJ9_abs_0f7a4 ∈ gT := gT_of (tb_4 (List.mem_of_getElem? (i := 180) rfl)) rfl
theorem pf_J9_abs_067f4 : plainFor yJ9_abs_067f4 = true := by decide +kernel
theorem mb_J9_abs_067f4 : MB yJ9_abs_067f4 cJ9_abs_067f4 2 (some .long) 1 := ⟨gT_of (tb_3 (List.mem_of_getElem? (i := 130) rfl)) rfl, gT_of (tb_1 (List.mem_of_getElem? (i := 8) rfl)) rfl, ⟨by decide +kernel, by decide +kernel, by decide +kernel⟩, by decide⟩
theorem ms_J9_abs_067f4 : Cond.static yJ9_abs_067f4 ∈ gT := gT_of (tb_3 (List.mem_of_getElem? (i := 129) rfl)) rfl
theorem pf_J9_floorDiv_f86c9 : plainFor yJ9_floorDiv_f86c9 = true := by decide +kernel
theorem mb_J9_floorDiv_f86c9 : MB yJ9_floorDiv_f86c9 cJ9_floorDiv_f86c9 6 (some .long) 2 := ⟨gT_of (tb_3 (List.mem_of_getElem? (i := 148) rfl)) rfl, gT_of (tb_1 (List.mem_of_getElem? (i := 8) rfl)) rfl, ⟨by decide +kernel, by decide +kernel, by decide +kernel⟩, by decide⟩
theorem ms_J9_floorDiv_f86c9 : Cond.static yJ9_floorDiv_f86c9 ∈ gT := gT_of (tb_3 (List.mem_of_getElem? (i := 147) rfl)) rfl
theorem pf_J9_max_7cf53 : plainFor yJ9_max_7cf53 = true := by decide +kernel
theorem mb_J9_max_7cf53 : MB yJ9_max_7cf53 cJ9_max_7cf53 2 (some .int) 2 := ⟨gT_of (tb_2 (List.mem_of_getElem? (i := 2) rfl)) rfl, gT_of (tb_1 (List.mem_of_getElem? (i := 8) rfl)) rfl, ⟨by decide +kernel, by decide +kernel, by decide +kernel⟩, by decide⟩
theorem ms_J9_max_7cf53 : Cond.static yJ9_max_7cf53 ∈ gT := gT_of (tb_2 (List.mem_of_getElem? (i := 1) rfl)) rfl
theorem pf_J9_max_f86c9 : plainFor yJ9_max_f86c9 = true := by decide +kernel
theorem mb_J9_max_f86c9 : MB yJ9_max_f86c9 cJ9_max_f86c9 4 (some .long) 2 := ⟨gT_of (tb_3 (List.mem_of_getElem? (i := 202) rfl)) rfl, gT_of (tb_1 (List.mem_of_getElem? (i := 8) rfl)) rfl, ⟨by decide +kernel, by decide +kernel, by decide +kernel⟩, by decide⟩
theorem ms_J9_max_f86c9 : Cond.static yJ9_max_f86c9 ∈ gT := gT_of (tb_3 (List.mem_of_getElem? (i := 201) rfl)) rfl
theorem pf_J9_min_7cf53 : plainFor yJ9_min_7cf53 = true := by decide +kernel
theorem mb_J9_min_7cf53 : MB yJ9_min_7cf53 cJ9_min_7cf53 2 (some .int) 2 := ⟨gT_of (tb_4 (List.mem_of_getElem? (i := 121) rfl)) rfl, gT_of (tb_1 (List.mem_of_getElem? (i := 8) rfl)) rfl, ⟨by decide +kernel, by decide +kernel, by decide +kernel⟩, by decide⟩
theorem ms_J9_min_7cf53 : Cond.static yJ9_min_7cf53 ∈ gT := gT_of (tb_4 (List.mem_of_getElem? (i := 120) rfl)) rfl
theorem pf_J7_fill_53178 : plainFor yJ7_fill_53178 = true := by decide +kernel
theorem mb_J7_fill_53178 : MB yJ7_fill_53178 cJ7_fill_53178 4 none 2 := ⟨gT_of (tb_2 (List.mem_of_getElem? (i := 8) rfl)) rfl, gT_of (tb_1 (List.mem_of_getElem? (i := 9) rfl)) rfl, ⟨by decide +kernel, by decide +kernel, by decide +kernel⟩, by decide⟩
theorem ms_J7_fill_53178 : Cond.static yJ7_fill_53178 ∈ gT := gT_of (tb_2 (List.mem_of_getElem? (i := 7) rfl)) rfl
theorem pf_J7_fill_d0a16 : plainFor yJ7_fill_d0a16 = true := by decide +kernel
theorem mb_J7_fill_d0a16 : MB yJ7_fill_d0a16 cJ7_fill_d0a16 5 none 2 := ⟨gT_of (tb_3 (List.mem_of_getElem? (i := 101) rfl)) rfl, gT_of (tb_1 (List.mem_of_getElem? (i := 9) rfl)) rfl, ⟨by decide +kernel, by decide +kernel, by decide +kernel⟩, by decide⟩
theorem ms_J7_fill_d0a16 : Cond.static yJ7_fill_d0a16 ∈ gT := gT_of (tb_3 (List.mem_of_getElem? (i := 100) rfl)) rfl
theorem acp_nat : Cond.native arraycopyName ∈ gT := gT_of (tb_5 (List.mem_of_getElem? (i := 100) rfl)) rfl
theorem acp_sta : Cond.static arraycopyName ∈ gT := gT_of (tb_5 (List.mem_of_getElem? (i := 99) rfl)) rfl
theorem acp_ini : Cond.initialized "java/lang/System" ∈ gT := gT_of (tb_1 (List.mem_of_getElem? (i := 16) rfl)) rfl
