def f_X12_flowOf (z1 : Int) (μ : GM) : Option (Int × GM) :=
  ck (0 ≤ z1 ∧ z1 < 12) (
  ck (0 ≤ z1 ∧ z1 < 12) (
  ck (0 ≤ (μ.1 57 z1) ∧ (μ.1 57 z1) < 6) (
  ck (0 ≤ z1 ∧ z1 < 12) (
  ck (0 ≤ (μ.1 58 z1) ∧ (μ.1 58 z1) < 6) (
  some ((w64 ((μ.1 72 z1) * (w64 ((μ.1 71 (μ.1 57 z1)) - (μ.1 71 (μ.1 58 z1)))))), μ))))))
set_option maxHeartbeats 4000000 in
set_option maxRecDepth 100000 in
theorem w_X12_flowOf_0 {G : GX} {u : Int × GM} (C : CX G 0 cX12_flowOf 2 RX12) (hQ : gQL G (some .long) u) {z1 : Int} (hz1 : r32 z1) {μ : GM} (hμ : gRg μ) (h : f_X12_flowOf z1 μ = some u) : WM G 2 μ 0 [(0, gR G 53), (1, vI z1)] [] := by
  unfold f_X12_flowOf at h
  refine o_aload_n C 0 dX12_flowOf_0 rfl rfl ?_
  refine o_getR (j := 26) C kt_53 rfl rfl (Nat.le_of_ble_eq_true rfl) lkf_RX12_65 dX12_flowOf_1 ?_
  refine o_iload_n C 1 dX12_flowOf_4 rfl rfl ?_
  refine o_iald C kt_72 rfl hz1 dX12_flowOf_5 h (fun h => ?_)
  refine o_i2l C (hμ.i kt_72 (by decide) _) dX12_flowOf_6 ?_
  refine o_aload_n C 0 dX12_flowOf_7 rfl rfl ?_
  refine o_getR (j := 23) C kt_53 rfl rfl (Nat.le_of_ble_eq_true rfl) lkf_RX12_61 dX12_flowOf_8 ?_
  refine o_aload_n C 0 dX12_flowOf_11 rfl rfl ?_
  refine o_getR (j := 6) C kt_53 rfl rfl (Nat.le_of_ble_eq_true rfl) lkf_RX12_19 dX12_flowOf_12 ?_
  refine o_iload_n C 1 dX12_flowOf_15 rfl rfl ?_
  refine o_iald C kt_57 rfl hz1 dX12_flowOf_16 h (fun h => ?_)
  refine o_lald C kt_71 rfl (hμ.i kt_57 (by decide) _) dX12_flowOf_17 h (fun h => ?_)
  refine o_aload_n C 0 dX12_flowOf_18 rfl rfl ?_
  refine o_getR (j := 23) C kt_53 rfl rfl (Nat.le_of_ble_eq_true rfl) lkf_RX12_61 dX12_flowOf_19 ?_
  refine o_aload_n C 0 dX12_flowOf_22 rfl rfl ?_
  refine o_getR (j := 7) C kt_53 rfl rfl (Nat.le_of_ble_eq_true rfl) lkf_RX12_22 dX12_flowOf_23 ?_
  refine o_iload_n C 1 dX12_flowOf_26 rfl rfl ?_
  refine o_iald C kt_58 rfl hz1 dX12_flowOf_27 h (fun h => ?_)
  refine o_lald C kt_71 rfl (hμ.i kt_58 (by decide) _) dX12_flowOf_28 h (fun h => ?_)
  refine o_lsub C dX12_flowOf_29 ?_
  refine o_lmul C dX12_flowOf_30 ?_
  exact o_lret C hQ dX12_flowOf_31 h (r64_w _) hμ
theorem c_X12_flowOf {z1 : Int} (hz1 : r32 z1) {μ : GM} (hμ : gRg μ) {u : Int × GM} (h : f_X12_flowOf z1 μ = some u) : MtL 0 yX12_flowOf cX12_flowOf 2 (some .long) (fun ad => [.ref (ad 53), vI z1]) μ u := MtL.of pf_X12_flowOf (fun _ => Nat.le_of_ble_eq_true rfl) (fun G C hQ => w_X12_flowOf_0 C hQ hz1 hμ h)
def f_X12_givesOf (z1 : Int) (μ : GM) : Option (Int × GM) :=
  if (gand (gshr (μ.2 53 25) z1) 1) = 1 then
    ck (0 ≤ z1 ∧ z1 < 3) (
    ck (0 ≤ z1 ∧ z1 < 3) (
    ck (0 ≤ z1 ∧ z1 < 3) (
    ck (0 ≤ (μ.1 60 z1) ∧ (μ.1 60 z1) < 6) (
    some ((w64 ((μ.1 63 z1) * (w64 ((w64 ((μ.1 61 z1) * (μ.2 53 24))) - (μ.1 71 (μ.1 60 z1)))))), μ)))))
  else
    ck (0 ≤ z1 ∧ z1 < 3) (
    ck (0 ≤ z1 ∧ z1 < 3) (
    ck (0 ≤ z1 ∧ z1 < 3) (
    some ((w64 ((w32 ((μ.1 63 z1) * (w32 ((μ.1 61 z1) - (μ.1 62 z1))))) * (μ.2 53 24))), μ))))
set_option maxHeartbeats 4000000 in
set_option maxRecDepth 100000 in
theorem w_X12_givesOf_0 {G : GX} {u : Int × GM} (C : CX G 0 cX12_givesOf 2 RX12) (hQ : gQL G (some .long) u) {z1 : Int} (hz1 : r32 z1) {μ : GM} (hμ : gRg μ) (h : f_X12_givesOf z1 μ = some u) : WM G 2 μ 0 [(0, gR G 53), (1, vI z1)] [] := by
  unfold f_X12_givesOf at h
  refine o_aload_n C 0 dX12_givesOf_0 rfl rfl ?_
  refine o_getI (j := 25) C kt_53 rfl rfl (Nat.le_of_ble_eq_true rfl) lkf_RX12_200 dX12_givesOf_1 ?_
  refine o_iload_n C 1 dX12_givesOf_4 rfl rfl ?_
  refine o_ishr C dX12_givesOf_5 ?_
  refine o_iconst C dX12_givesOf_6 ?_
  refine o_iand C dX12_givesOf_7 ?_
  refine o_iconst C dX12_givesOf_8 ?_
  refine o_icmp_ne (tgt := 47) C (r32_toInt _) ⟨by decide, by decide⟩ dX12_givesOf_9 (by decide) h (fun _ h => ?_) (fun _ h => ?_)
  · refine o_aload_n C 0 dX12_givesOf_47 rfl rfl ?_
    refine o_getR (j := 13) C kt_53 rfl rfl (Nat.le_of_ble_eq_true rfl) lkf_RX12_37 dX12_givesOf_48 ?_
    refine o_iload_n C 1 dX12_givesOf_51 rfl rfl ?_
    refine o_iald C kt_63 rfl hz1 dX12_givesOf_52 h (fun h => ?_)
    refine o_aload_n C 0 dX12_givesOf_53 rfl rfl ?_
    refine o_getR (j := 11) C kt_53 rfl rfl (Nat.le_of_ble_eq_true rfl) lkf_RX12_31 dX12_givesOf_54 ?_
    refine o_iload_n C 1 dX12_givesOf_57 rfl rfl ?_
    refine o_iald C kt_61 rfl hz1 dX12_givesOf_58 h (fun h => ?_)
    refine o_aload_n C 0 dX12_givesOf_59 rfl rfl ?_
    refine o_getR (j := 12) C kt_53 rfl rfl (Nat.le_of_ble_eq_true rfl) lkf_RX12_34 dX12_givesOf_60 ?_
    refine o_iload_n C 1 dX12_givesOf_63 rfl rfl ?_
    refine o_iald C kt_62 rfl hz1 dX12_givesOf_64 h (fun h => ?_)
    refine o_isub C dX12_givesOf_65 ?_
    refine o_imul C dX12_givesOf_66 ?_
    refine o_i2l C (r32_w _) dX12_givesOf_67 ?_
    refine o_aload_n C 0 dX12_givesOf_68 rfl rfl ?_
    refine o_getJ (j := 24) C kt_53 rfl rfl (Nat.le_of_ble_eq_true rfl) lkf_RX12_211 dX12_givesOf_69 ?_
    refine o_lmul C dX12_givesOf_72 ?_
    exact o_lret C hQ dX12_givesOf_73 h (r64_w _) hμ
  · refine o_aload_n C 0 dX12_givesOf_12 rfl rfl ?_
    refine o_getR (j := 13) C kt_53 rfl rfl (Nat.le_of_ble_eq_true rfl) lkf_RX12_37 dX12_givesOf_13 ?_
    refine o_iload_n C 1 dX12_givesOf_16 rfl rfl ?_
    refine o_iald C kt_63 rfl hz1 dX12_givesOf_17 h (fun h => ?_)
    refine o_i2l C (hμ.i kt_63 (by decide) _) dX12_givesOf_18 ?_
    refine o_aload_n C 0 dX12_givesOf_19 rfl rfl ?_
    refine o_getR (j := 11) C kt_53 rfl rfl (Nat.le_of_ble_eq_true rfl) lkf_RX12_31 dX12_givesOf_20 ?_
    refine o_iload_n C 1 dX12_givesOf_23 rfl rfl ?_
    refine o_iald C kt_61 rfl hz1 dX12_givesOf_24 h (fun h => ?_)
    refine o_i2l C (hμ.i kt_61 (by decide) _) dX12_givesOf_25 ?_
    refine o_aload_n C 0 dX12_givesOf_26 rfl rfl ?_
    refine o_getJ (j := 24) C kt_53 rfl rfl (Nat.le_of_ble_eq_true rfl) lkf_RX12_211 dX12_givesOf_27 ?_
    refine o_lmul C dX12_givesOf_30 ?_
    refine o_aload_n C 0 dX12_givesOf_31 rfl rfl ?_
    refine o_getR (j := 23) C kt_53 rfl rfl (Nat.le_of_ble_eq_true rfl) lkf_RX12_61 dX12_givesOf_32 ?_
    refine o_aload_n C 0 dX12_givesOf_35 rfl rfl ?_
    refine o_getR (j := 10) C kt_53 rfl rfl (Nat.le_of_ble_eq_true rfl) lkf_RX12_28 dX12_givesOf_36 ?_
    refine o_iload_n C 1 dX12_givesOf_39 rfl rfl ?_
    refine o_iald C kt_60 rfl hz1 dX12_givesOf_40 h (fun h => ?_)
    refine o_lald C kt_71 rfl (hμ.i kt_60 (by decide) _) dX12_givesOf_41 h (fun h => ?_)
    refine o_lsub C dX12_givesOf_42 ?_
    refine o_lmul C dX12_givesOf_43 ?_
    refine o_goto (tgt := 73) C dX12_givesOf_44 (by decide) ?_
    exact o_lret C hQ dX12_givesOf_73 h (r64_w _) hμ
theorem c_X12_givesOf {z1 : Int} (hz1 : r32 z1) {μ : GM} (hμ : gRg μ) {u : Int × GM} (h : f_X12_givesOf z1 μ = some u) : MtL 0 yX12_givesOf cX12_givesOf 2 (some .long) (fun ad => [.ref (ad 53), vI z1]) μ u := MtL.of pf_X12_givesOf (fun _ => Nat.le_of_ble_eq_true rfl) (fun G C hQ => w_X12_givesOf_0 C hQ hz1 hμ h)
def f_X12_takesOf (z1 : Int) (μ : GM) : Option (Int × GM) :=
  if (gand (gshr (μ.2 53 25) (w32 (z1 + 3))) 1) = 1 then
    ck (0 ≤ z1 ∧ z1 < 2) (
    ck (0 ≤ z1 ∧ z1 < 2) (
    ck (0 ≤ (μ.1 64 z1) ∧ (μ.1 64 z1) < 6) (
    ck (0 ≤ z1 ∧ z1 < 2) (
    some ((w64 ((μ.1 66 z1) * (w64 ((μ.1 71 (μ.1 64 z1)) - (w64 ((μ.1 65 z1) * (μ.2 53 24))))))), μ)))))
  else
    some (0, μ)
set_option maxHeartbeats 4000000 in
set_option maxRecDepth 100000 in
theorem w_X12_takesOf_0 {G : GX} {u : Int × GM} (C : CX G 0 cX12_takesOf 2 RX12) (hQ : gQL G (some .long) u) {z1 : Int} (hz1 : r32 z1) {μ : GM} (hμ : gRg μ) (h : f_X12_takesOf z1 μ = some u) : WM G 2 μ 0 [(0, gR G 53), (1, vI z1)] [] := by
  unfold f_X12_takesOf at h
  refine o_aload_n C 0 dX12_takesOf_0 rfl rfl ?_
  refine o_getI (j := 25) C kt_53 rfl rfl (Nat.le_of_ble_eq_true rfl) lkf_RX12_200 dX12_takesOf_1 ?_
  refine o_iload_n C 1 dX12_takesOf_4 rfl rfl ?_
  refine o_iconst C dX12_takesOf_5 ?_
  refine o_iadd C dX12_takesOf_6 ?_
  refine o_ishr C dX12_takesOf_7 ?_
  refine o_iconst C dX12_takesOf_8 ?_
  refine o_iand C dX12_takesOf_9 ?_
  refine o_iconst C dX12_takesOf_10 ?_
  refine o_icmp_ne (tgt := 49) C (r32_toInt _) ⟨by decide, by decide⟩ dX12_takesOf_11 (by decide) h (fun _ h => ?_) (fun _ h => ?_)
  · refine o_lconst (v := 0) C dX12_takesOf_49 rfl ?_
    exact o_lret C hQ dX12_takesOf_50 h ⟨by decide, by decide⟩ hμ
  · refine o_aload_n C 0 dX12_takesOf_14 rfl rfl ?_
    refine o_getR (j := 17) C kt_53 rfl rfl (Nat.le_of_ble_eq_true rfl) lkf_RX12_46 dX12_takesOf_15 ?_
    refine o_iload_n C 1 dX12_takesOf_18 rfl rfl ?_
    refine o_iald C kt_66 rfl hz1 dX12_takesOf_19 h (fun h => ?_)
    refine o_i2l C (hμ.i kt_66 (by decide) _) dX12_takesOf_20 ?_
    refine o_aload_n C 0 dX12_takesOf_21 rfl rfl ?_
    refine o_getR (j := 23) C kt_53 rfl rfl (Nat.le_of_ble_eq_true rfl) lkf_RX12_61 dX12_takesOf_22 ?_
    refine o_aload_n C 0 dX12_takesOf_25 rfl rfl ?_
    refine o_getR (j := 15) C kt_53 rfl rfl (Nat.le_of_ble_eq_true rfl) lkf_RX12_40 dX12_takesOf_26 ?_
    refine o_iload_n C 1 dX12_takesOf_29 rfl rfl ?_
    refine o_iald C kt_64 rfl hz1 dX12_takesOf_30 h (fun h => ?_)
    refine o_lald C kt_71 rfl (hμ.i kt_64 (by decide) _) dX12_takesOf_31 h (fun h => ?_)
    refine o_aload_n C 0 dX12_takesOf_32 rfl rfl ?_
    refine o_getR (j := 16) C kt_53 rfl rfl (Nat.le_of_ble_eq_true rfl) lkf_RX12_43 dX12_takesOf_33 ?_
    refine o_iload_n C 1 dX12_takesOf_36 rfl rfl ?_
    refine o_iald C kt_65 rfl hz1 dX12_takesOf_37 h (fun h => ?_)
    refine o_i2l C (hμ.i kt_65 (by decide) _) dX12_takesOf_38 ?_
    refine o_aload_n C 0 dX12_takesOf_39 rfl rfl ?_
    refine o_getJ (j := 24) C kt_53 rfl rfl (Nat.le_of_ble_eq_true rfl) lkf_RX12_211 dX12_takesOf_40 ?_
    refine o_lmul C dX12_takesOf_43 ?_
    refine o_lsub C dX12_takesOf_44 ?_
    refine o_lmul C dX12_takesOf_45 ?_
    refine o_goto (tgt := 50) C dX12_takesOf_46 (by decide) ?_
    exact o_lret C hQ dX12_takesOf_50 h (r64_w _) hμ
theorem c_X12_takesOf {z1 : Int} (hz1 : r32 z1) {μ : GM} (hμ : gRg μ) {u : Int × GM} (h : f_X12_takesOf z1 μ = some u) : MtL 0 yX12_takesOf cX12_takesOf 2 (some .long) (fun ad => [.ref (ad 53), vI z1]) μ u := MtL.of pf_X12_takesOf (fun _ => Nat.le_of_ble_eq_true rfl) (fun G C hQ => w_X12_takesOf_0 C hQ hz1 hμ h)
def f_X12_pattern (μ : GM) : Option (Int × GM) :=
  lm (gF μ 53 0 0) fun μ1 =>
  bd (f_X12_rests μ1) fun x2 μ3 =>
  if x2 = 0 then
    some ((-10000009), μ3)
  else
    some ((μ3.2 53 25), μ3)
set_option maxHeartbeats 4000000 in
set_option maxRecDepth 100000 in
theorem w_X12_pattern_0 {G : GX} {u : Int × GM} (C : CX G 5 cX12_pattern 1 RX12) (hQ : gQI G (some .int) u) {μ : GM} (hμ : gRg μ) (h : f_X12_pattern μ = some u) : WM G 1 μ 0 [(0, gR G 53)] [] := by
  unfold f_X12_pattern at h
  refine o_aload_n C 0 dX12_pattern_0 rfl rfl ?_
  refine o_iconst C dX12_pattern_1 ?_
  refine o_putI (j := 0) C kt_53 rfl rfl tyX12_ok nmX12 (Nat.le_of_ble_eq_true rfl) lkf_RX12_133 rfl rfl ⟨by decide, by decide⟩ hμ dX12_pattern_2 h (fun μ1 hμ1 h => ?_)
  refine o_aload_n C 0 dX12_pattern_5 rfl rfl ?_
  refine o_cVI C [] mb_X12_rests (by decide) (fun _ hu => c_X12_rests hμ1 hu) rfl (Nat.le_of_ble_eq_true rfl) h mi_X12_rests me_X12_rests lkm_RX12_229 kt_53 rfl rfl rfl dX12_pattern_6 (fun x2 μ3 hx2 hμ3 h => ?_)
  refine o_if_eq (tgt := 19) C hx2 dX12_pattern_9 (by decide) h (fun _ h => ?_) (fun _ h => ?_)
  · refine o_ldc (v := (-10000009)) C lkc_RX12_132 rfl dX12_pattern_19 ?_
    exact o_iret C hQ dX12_pattern_21 h ⟨by decide, by decide⟩ hμ3
  · refine o_aload_n C 0 dX12_pattern_12 rfl rfl ?_
    refine o_getI (j := 25) C kt_53 rfl rfl (Nat.le_of_ble_eq_true rfl) lkf_RX12_200 dX12_pattern_13 ?_
    refine o_goto (tgt := 21) C dX12_pattern_16 (by decide) ?_
    exact o_iret C hQ dX12_pattern_21 h (hμ3.fi kt_53 rfl (by decide)) hμ3
theorem c_X12_pattern {μ : GM} (hμ : gRg μ) {u : Int × GM} (h : f_X12_pattern μ = some u) : MtI 5 yX12_pattern cX12_pattern 1 (some .int) (fun ad => [.ref (ad 53)]) μ u := MtI.of pf_X12_pattern (fun _ => Nat.le_of_ble_eq_true rfl) (fun G C hQ => w_X12_pattern_0 C hQ hμ h)
def f_X12_told (z0 : Int) (z2 : Int) (z4 : Int) (μ : GM) : Option (Int × GM) :=
  bd (f_X12_common z0 z2 μ) fun x1 μ2 =>
  if z4 = 0 then
    ck (x1 ≠ 0) (
    some ((w64 (Int.tdiv z2 x1)), μ2))
  else
    ck (x1 ≠ 0) (
    some ((w64 (Int.tdiv z0 x1)), μ2))
set_option maxHeartbeats 4000000 in
set_option maxRecDepth 100000 in
theorem w_X12_told_0 {G : GX} {u : Int × GM} (C : CX G 1 cX12_told 7 RX12) (hQ : gQL G (some .long) u) {z0 : Int} (hz0 : r64 z0) {z2 : Int} (hz2 : r64 z2) {z4 : Int} (hz4 : r32 z4) {μ : GM} (hμ : gRg μ) (h : f_X12_told z0 z2 z4 μ = some u) : WM G 7 μ 0 [(0, vJ z0), (2, vJ z2), (4, vI z4)] [] := by
  unfold f_X12_told at h
  refine o_lload_n C 0 dX12_told_0 rfl rfl ?_
  refine o_lload_n C 1 dX12_told_1 rfl rfl ?_
  refine o_cSL C [vJ z0, vJ z2] mb_X12_common (by decide) (fun _ hu => c_X12_common hz0 hz2 hμ hu) rfl (Nat.le_of_ble_eq_true rfl) h ms_X12_common lkm_RX12_232 rfl rfl dX12_told_2 (fun x1 μ2 hx1 hμ2 h => ?_)
  refine o_lstore (lv2 := [(5, vJ x1), (0, vJ z0), (2, vJ z2), (4, vI z4)]) C dX12_told_5 (by decide) rfl ?_
  refine o_iload C 3 dX12_told_7 rfl ?_
  refine o_if_eq (tgt := 19) C hz4 dX12_told_9 (by decide) h (fun _ h => ?_) (fun _ h => ?_)
  · refine o_lload_n C 2 dX12_told_19 rfl rfl ?_
    refine o_lload C 0 dX12_told_20 rfl ?_
    refine o_ldiv C hz2 hx1 dX12_told_22 h (fun h => ?_)
    exact o_lret C hQ dX12_told_23 h (r64_w _) hμ2
  · refine o_lload_n C 1 dX12_told_12 rfl rfl ?_
    refine o_lload C 0 dX12_told_13 rfl ?_
    refine o_ldiv C hz0 hx1 dX12_told_15 h (fun h => ?_)
    refine o_goto (tgt := 23) C dX12_told_16 (by decide) ?_
    exact o_lret C hQ dX12_told_23 h (r64_w _) hμ2
theorem c_X12_told {z0 : Int} (hz0 : r64 z0) {z2 : Int} (hz2 : r64 z2) {z4 : Int} (hz4 : r32 z4) {μ : GM} (hμ : gRg μ) {u : Int × GM} (h : f_X12_told z0 z2 z4 μ = some u) : MtL 1 yX12_told cX12_told 7 (some .long) (fun ad => [vJ z0, vJ z2, vI z4]) μ u := MtL.of pf_X12_told (fun _ => Nat.le_of_ble_eq_true rfl) (fun G C hQ => w_X12_told_0 C hQ hz0 hz2 hz4 hμ h)
def f_X12_head (z1 : Int) (z2 : Int) (μ : GM) : Option (Int × GM) :=
  lm (gF μ 53 0 0) fun μ1 =>
  bd (f_X12_noCell z1 μ1) fun x2 μ3 =>
  if x2 = 0 then
    bd (f_X12_rests μ3) fun x4 μ5 =>
    if x4 = 0 then
      some ((-10000003), μ5)
    else
      ck (0 ≤ z1 ∧ z1 < 6) (
      bd (f_X12_told (μ5.1 71 z1) (μ5.2 53 24) z2 μ5) fun x6 μ7 =>
      some (x6, μ7))
  else
    some ((-10000001), μ3)
set_option maxHeartbeats 4000000 in
set_option maxRecDepth 100000 in
theorem w_X12_head_0 {G : GX} {u : Int × GM} (C : CX G 5 cX12_head 3 RX12) (hQ : gQL G (some .long) u) {z1 : Int} (hz1 : r32 z1) {z2 : Int} (hz2 : r32 z2) {μ : GM} (hμ : gRg μ) (h : f_X12_head z1 z2 μ = some u) : WM G 3 μ 0 [(0, gR G 53), (1, vI z1), (2, vI z2)] [] := by
  unfold f_X12_head at h
  refine o_aload_n C 0 dX12_head_0 rfl rfl ?_
  refine o_iconst C dX12_head_1 ?_
  refine o_putI (j := 0) C kt_53 rfl rfl tyX12_ok nmX12 (Nat.le_of_ble_eq_true rfl) lkf_RX12_133 rfl rfl ⟨by decide, by decide⟩ hμ dX12_head_2 h (fun μ1 hμ1 h => ?_)
  refine o_aload_n C 0 dX12_head_5 rfl rfl ?_
  refine o_iload_n C 1 dX12_head_6 rfl rfl ?_
  refine o_cVI C [vI z1] mb_X12_noCell (by decide) (fun _ hu => c_X12_noCell hz1 hμ1 hu) rfl (Nat.le_of_ble_eq_true rfl) h mi_X12_noCell me_X12_noCell lkm_RX12_155 kt_53 rfl rfl rfl dX12_head_7 (fun x2 μ3 hx2 hμ3 h => ?_)
  refine o_if_eq (tgt := 17) C hx2 dX12_head_10 (by decide) h (fun _ h => ?_) (fun _ h => ?_)
  · refine o_aload_n C 0 dX12_head_17 rfl rfl ?_
    refine o_cVI C [] mb_X12_rests (by decide) (fun _ hu => c_X12_rests hμ3 hu) rfl (Nat.le_of_ble_eq_true rfl) h mi_X12_rests me_X12_rests lkm_RX12_229 kt_53 rfl rfl rfl dX12_head_18 (fun x4 μ5 hx4 hμ5 h => ?_)
    refine o_if_eq (tgt := 41) C hx4 dX12_head_21 (by decide) h (fun _ h => ?_) (fun _ h => ?_)
    · refine o_ldc2 (v := (-10000003)) C lkc_RX12_241 rfl dX12_head_41 ?_
      exact o_lret C hQ dX12_head_44 h ⟨by decide, by decide⟩ hμ5
    · refine o_aload_n C 0 dX12_head_24 rfl rfl ?_
      refine o_getR (j := 23) C kt_53 rfl rfl (Nat.le_of_ble_eq_true rfl) lkf_RX12_61 dX12_head_25 ?_
      refine o_iload_n C 1 dX12_head_28 rfl rfl ?_
      refine o_lald C kt_71 rfl hz1 dX12_head_29 h (fun h => ?_)
      refine o_aload_n C 0 dX12_head_30 rfl rfl ?_
      refine o_getJ (j := 24) C kt_53 rfl rfl (Nat.le_of_ble_eq_true rfl) lkf_RX12_211 dX12_head_31 ?_
      refine o_iload_n C 2 dX12_head_34 rfl rfl ?_
      refine o_cSL C [vJ (μ5.1 71 z1), vJ (μ5.2 53 24), vI z2] mb_X12_told (by decide) (fun _ hu => c_X12_told (hμ5.l kt_71 _) (hμ5.fl kt_53 rfl) hz2 hμ5 hu) rfl (Nat.le_of_ble_eq_true rfl) h ms_X12_told lkm_RX12_237 rfl rfl dX12_head_35 (fun x6 μ7 hx6 hμ7 h => ?_)
      refine o_goto (tgt := 44) C dX12_head_38 (by decide) ?_
      exact o_lret C hQ dX12_head_44 h hx6 hμ7
  · refine o_ldc2 (v := (-10000001)) C lkc_RX12_235 rfl dX12_head_13 ?_
    exact o_lret C hQ dX12_head_16 h ⟨by decide, by decide⟩ hμ3
theorem c_X12_head {z1 : Int} (hz1 : r32 z1) {z2 : Int} (hz2 : r32 z2) {μ : GM} (hμ : gRg μ) {u : Int × GM} (h : f_X12_head z1 z2 μ = some u) : MtL 5 yX12_head cX12_head 3 (some .long) (fun ad => [.ref (ad 53), vI z1, vI z2]) μ u := MtL.of pf_X12_head (fun _ => Nat.le_of_ble_eq_true rfl) (fun G C hQ => w_X12_head_0 C hQ hz1 hz2 hμ h)
def f_X12_milli (z1 : Int) (μ : GM) : Option (Int × GM) :=
  lm (gF μ 53 0 0) fun μ1 =>
  bd (f_X12_noCell z1 μ1) fun x2 μ3 =>
  if x2 = 0 then
    bd (f_X12_rests μ3) fun x4 μ5 =>
    if x4 = 0 then
      some ((-10000003), μ5)
    else
      ck (0 ≤ z1 ∧ z1 < 6) (
      bd (f_X12_milliOf (μ5.1 71 z1) μ5) fun x6 μ7 =>
      some (x6, μ7))
  else
    some ((-10000001), μ3)
set_option maxHeartbeats 4000000 in
set_option maxRecDepth 100000 in
theorem w_X12_milli_0 {G : GX} {u : Int × GM} (C : CX G 5 cX12_milli 2 RX12) (hQ : gQI G (some .int) u) {z1 : Int} (hz1 : r32 z1) {μ : GM} (hμ : gRg μ) (h : f_X12_milli z1 μ = some u) : WM G 2 μ 0 [(0, gR G 53), (1, vI z1)] [] := by
  unfold f_X12_milli at h
  refine o_aload_n C 0 dX12_milli_0 rfl rfl ?_
  refine o_iconst C dX12_milli_1 ?_
  refine o_putI (j := 0) C kt_53 rfl rfl tyX12_ok nmX12 (Nat.le_of_ble_eq_true rfl) lkf_RX12_133 rfl rfl ⟨by decide, by decide⟩ hμ dX12_milli_2 h (fun μ1 hμ1 h => ?_)
  refine o_aload_n C 0 dX12_milli_5 rfl rfl ?_
  refine o_iload_n C 1 dX12_milli_6 rfl rfl ?_
  refine o_cVI C [vI z1] mb_X12_noCell (by decide) (fun _ hu => c_X12_noCell hz1 hμ1 hu) rfl (Nat.le_of_ble_eq_true rfl) h mi_X12_noCell me_X12_noCell lkm_RX12_155 kt_53 rfl rfl rfl dX12_milli_7 (fun x2 μ3 hx2 hμ3 h => ?_)
  refine o_if_eq (tgt := 18) C hx2 dX12_milli_10 (by decide) h (fun _ h => ?_) (fun _ h => ?_)
  · refine o_aload_n C 0 dX12_milli_18 rfl rfl ?_
    refine o_cVI C [] mb_X12_rests (by decide) (fun _ hu => c_X12_rests hμ3 hu) rfl (Nat.le_of_ble_eq_true rfl) h mi_X12_rests me_X12_rests lkm_RX12_229 kt_53 rfl rfl rfl dX12_milli_19 (fun x4 μ5 hx4 hμ5 h => ?_)
    refine o_if_eq (tgt := 38) C hx4 dX12_milli_22 (by decide) h (fun _ h => ?_) (fun _ h => ?_)
    · refine o_ldc (v := (-10000003)) C lkc_RX12_163 rfl dX12_milli_38 ?_
      exact o_iret C hQ dX12_milli_40 h ⟨by decide, by decide⟩ hμ5
    · refine o_aload_n C 0 dX12_milli_25 rfl rfl ?_
      refine o_aload_n C 0 dX12_milli_26 rfl rfl ?_
      refine o_getR (j := 23) C kt_53 rfl rfl (Nat.le_of_ble_eq_true rfl) lkf_RX12_61 dX12_milli_27 ?_
      refine o_iload_n C 1 dX12_milli_30 rfl rfl ?_
      refine o_lald C kt_71 rfl hz1 dX12_milli_31 h (fun h => ?_)
      refine o_cVI C [vJ (μ5.1 71 z1)] mb_X12_milliOf (by decide) (fun _ hu => c_X12_milliOf (hμ5.l kt_71 _) hμ5 hu) rfl (Nat.le_of_ble_eq_true rfl) h mi_X12_milliOf me_X12_milliOf lkm_RX12_243 kt_53 rfl rfl rfl dX12_milli_32 (fun x6 μ7 hx6 hμ7 h => ?_)
      refine o_goto (tgt := 40) C dX12_milli_35 (by decide) ?_
      exact o_iret C hQ dX12_milli_40 h hx6 hμ7
  · refine o_ldc (v := (-10000001)) C lkc_RX12_159 rfl dX12_milli_13 ?_
    refine o_goto (tgt := 40) C dX12_milli_15 (by decide) ?_
    exact o_iret C hQ dX12_milli_40 h ⟨by decide, by decide⟩ hμ3
theorem c_X12_milli {z1 : Int} (hz1 : r32 z1) {μ : GM} (hμ : gRg μ) {u : Int × GM} (h : f_X12_milli z1 μ = some u) : MtI 5 yX12_milli cX12_milli 2 (some .int) (fun ad => [.ref (ad 53), vI z1]) μ u := MtI.of pf_X12_milli (fun _ => Nat.le_of_ble_eq_true rfl) (fun G C hQ => w_X12_milli_0 C hQ hz1 hμ h)
def f_X12_flow (z1 : Int) (μ : GM) : Option (Int × GM) :=
  lm (gF μ 53 0 0) fun μ1 =>
  bd (f_X12_in z1 0 (w32 ((μ1.2 53 5) - 1)) μ1) fun x2 μ3 =>
  if x2 = 0 then
    some ((-10000001), μ3)
  else
    bd (f_X12_rests μ3) fun x4 μ5 =>
    if x4 = 0 then
      some ((-10000003), μ5)
    else
      bd (f_X12_flowOf z1 μ5) fun x6 μ7 =>
      bd (f_X12_milliOf x6 μ7) fun x8 μ9 =>
      some (x8, μ9)
set_option maxHeartbeats 4000000 in
set_option maxRecDepth 100000 in
theorem w_X12_flow_0 {G : GX} {u : Int × GM} (C : CX G 5 cX12_flow 2 RX12) (hQ : gQI G (some .int) u) {z1 : Int} (hz1 : r32 z1) {μ : GM} (hμ : gRg μ) (h : f_X12_flow z1 μ = some u) : WM G 2 μ 0 [(0, gR G 53), (1, vI z1)] [] := by
  unfold f_X12_flow at h
  refine o_aload_n C 0 dX12_flow_0 rfl rfl ?_
  refine o_iconst C dX12_flow_1 ?_
  refine o_putI (j := 0) C kt_53 rfl rfl tyX12_ok nmX12 (Nat.le_of_ble_eq_true rfl) lkf_RX12_133 rfl rfl ⟨by decide, by decide⟩ hμ dX12_flow_2 h (fun μ1 hμ1 h => ?_)
  refine o_iload_n C 1 dX12_flow_5 rfl rfl ?_
  refine o_i2l C hz1 dX12_flow_6 ?_
  refine o_lconst (v := 0) C dX12_flow_7 rfl ?_
  refine o_aload_n C 0 dX12_flow_8 rfl rfl ?_
  refine o_getI (j := 5) C kt_53 rfl rfl (Nat.le_of_ble_eq_true rfl) lkf_RX12_164 dX12_flow_9 ?_
  refine o_iconst C dX12_flow_12 ?_
  refine o_isub C dX12_flow_13 ?_
  refine o_i2l C (r32_w _) dX12_flow_14 ?_
  refine o_cSI C [vJ z1, vJ 0, vJ (w32 ((μ1.2 53 5) - 1))] mb_X12_in (by decide) (fun _ hu => c_X12_in (r32_r64 hz1) ⟨by decide, by decide⟩ (r32_r64 (r32_w _)) hμ1 hu) rfl (Nat.le_of_ble_eq_true rfl) h ms_X12_in lkm_RX12_140 rfl rfl dX12_flow_15 (fun x2 μ3 hx2 hμ3 h => ?_)
  refine o_if_ne (tgt := 26) C hx2 dX12_flow_18 (by decide) h (fun _ h => ?_) (fun _ h => ?_)
  · refine o_aload_n C 0 dX12_flow_26 rfl rfl ?_
    refine o_cVI C [] mb_X12_rests (by decide) (fun _ hu => c_X12_rests hμ3 hu) rfl (Nat.le_of_ble_eq_true rfl) h mi_X12_rests me_X12_rests lkm_RX12_229 kt_53 rfl rfl rfl dX12_flow_27 (fun x4 μ5 hx4 hμ5 h => ?_)
    refine o_if_eq (tgt := 45) C hx4 dX12_flow_30 (by decide) h (fun _ h => ?_) (fun _ h => ?_)
    · refine o_ldc (v := (-10000003)) C lkc_RX12_163 rfl dX12_flow_45 ?_
      exact o_iret C hQ dX12_flow_47 h ⟨by decide, by decide⟩ hμ5
    · refine o_aload_n C 0 dX12_flow_33 rfl rfl ?_
      refine o_aload_n C 0 dX12_flow_34 rfl rfl ?_
      refine o_iload_n C 1 dX12_flow_35 rfl rfl ?_
      refine o_cVL C [vI z1] mb_X12_flowOf (by decide) (fun _ hu => c_X12_flowOf hz1 hμ5 hu) rfl (Nat.le_of_ble_eq_true rfl) h mi_X12_flowOf me_X12_flowOf lkm_RX12_247 kt_53 rfl rfl rfl dX12_flow_36 (fun x6 μ7 hx6 hμ7 h => ?_)
      refine o_cVI C [vJ x6] mb_X12_milliOf (by decide) (fun _ hu => c_X12_milliOf hx6 hμ7 hu) rfl (Nat.le_of_ble_eq_true rfl) h mi_X12_milliOf me_X12_milliOf lkm_RX12_243 kt_53 rfl rfl rfl dX12_flow_39 (fun x8 μ9 hx8 hμ9 h => ?_)
      refine o_goto (tgt := 47) C dX12_flow_42 (by decide) ?_
      exact o_iret C hQ dX12_flow_47 h hx8 hμ9
  · refine o_ldc (v := (-10000001)) C lkc_RX12_159 rfl dX12_flow_21 ?_
    refine o_goto (tgt := 47) C dX12_flow_23 (by decide) ?_
    exact o_iret C hQ dX12_flow_47 h ⟨by decide, by decide⟩ hμ3
theorem c_X12_flow {z1 : Int} (hz1 : r32 z1) {μ : GM} (hμ : gRg μ) {u : Int × GM} (h : f_X12_flow z1 μ = some u) : MtI 5 yX12_flow cX12_flow 2 (some .int) (fun ad => [.ref (ad 53), vI z1]) μ u := MtI.of pf_X12_flow (fun _ => Nat.le_of_ble_eq_true rfl) (fun G C hQ => w_X12_flow_0 C hQ hz1 hμ h)
def f_X12_gives (z1 : Int) (μ : GM) : Option (Int × GM) :=
  lm (gF μ 53 0 0) fun μ1 =>
  bd (f_X12_in z1 0 (w32 ((μ1.2 53 9) - 1)) μ1) fun x2 μ3 =>
  if x2 = 0 then
    some ((-10000001), μ3)
  else
    bd (f_X12_rests μ3) fun x4 μ5 =>
    if x4 = 0 then
      some ((-10000003), μ5)
    else
      bd (f_X12_givesOf z1 μ5) fun x6 μ7 =>
      bd (f_X12_milliOf x6 μ7) fun x8 μ9 =>
      some (x8, μ9)
set_option maxHeartbeats 4000000 in
set_option maxRecDepth 100000 in
theorem w_X12_gives_0 {G : GX} {u : Int × GM} (C : CX G 5 cX12_gives 2 RX12) (hQ : gQI G (some .int) u) {z1 : Int} (hz1 : r32 z1) {μ : GM} (hμ : gRg μ) (h : f_X12_gives z1 μ = some u) : WM G 2 μ 0 [(0, gR G 53), (1, vI z1)] [] := by
  unfold f_X12_gives at h
  refine o_aload_n C 0 dX12_gives_0 rfl rfl ?_
  refine o_iconst C dX12_gives_1 ?_
  refine o_putI (j := 0) C kt_53 rfl rfl tyX12_ok nmX12 (Nat.le_of_ble_eq_true rfl) lkf_RX12_133 rfl rfl ⟨by decide, by decide⟩ hμ dX12_gives_2 h (fun μ1 hμ1 h => ?_)
  refine o_iload_n C 1 dX12_gives_5 rfl rfl ?_
  refine o_i2l C hz1 dX12_gives_6 ?_
  refine o_lconst (v := 0) C dX12_gives_7 rfl ?_
  refine o_aload_n C 0 dX12_gives_8 rfl rfl ?_
  refine o_getI (j := 9) C kt_53 rfl rfl (Nat.le_of_ble_eq_true rfl) lkf_RX12_169 dX12_gives_9 ?_
  refine o_iconst C dX12_gives_12 ?_
  refine o_isub C dX12_gives_13 ?_
  refine o_i2l C (r32_w _) dX12_gives_14 ?_
  refine o_cSI C [vJ z1, vJ 0, vJ (w32 ((μ1.2 53 9) - 1))] mb_X12_in (by decide) (fun _ hu => c_X12_in (r32_r64 hz1) ⟨by decide, by decide⟩ (r32_r64 (r32_w _)) hμ1 hu) rfl (Nat.le_of_ble_eq_true rfl) h ms_X12_in lkm_RX12_140 rfl rfl dX12_gives_15 (fun x2 μ3 hx2 hμ3 h => ?_)
  refine o_if_ne (tgt := 26) C hx2 dX12_gives_18 (by decide) h (fun _ h => ?_) (fun _ h => ?_)
  · refine o_aload_n C 0 dX12_gives_26 rfl rfl ?_
    refine o_cVI C [] mb_X12_rests (by decide) (fun _ hu => c_X12_rests hμ3 hu) rfl (Nat.le_of_ble_eq_true rfl) h mi_X12_rests me_X12_rests lkm_RX12_229 kt_53 rfl rfl rfl dX12_gives_27 (fun x4 μ5 hx4 hμ5 h => ?_)
    refine o_if_eq (tgt := 45) C hx4 dX12_gives_30 (by decide) h (fun _ h => ?_) (fun _ h => ?_)
    · refine o_ldc (v := (-10000003)) C lkc_RX12_163 rfl dX12_gives_45 ?_
      exact o_iret C hQ dX12_gives_47 h ⟨by decide, by decide⟩ hμ5
    · refine o_aload_n C 0 dX12_gives_33 rfl rfl ?_
      refine o_aload_n C 0 dX12_gives_34 rfl rfl ?_
      refine o_iload_n C 1 dX12_gives_35 rfl rfl ?_
      refine o_cVL C [vI z1] mb_X12_givesOf (by decide) (fun _ hu => c_X12_givesOf hz1 hμ5 hu) rfl (Nat.le_of_ble_eq_true rfl) h mi_X12_givesOf me_X12_givesOf lkm_RX12_250 kt_53 rfl rfl rfl dX12_gives_36 (fun x6 μ7 hx6 hμ7 h => ?_)
      refine o_cVI C [vJ x6] mb_X12_milliOf (by decide) (fun _ hu => c_X12_milliOf hx6 hμ7 hu) rfl (Nat.le_of_ble_eq_true rfl) h mi_X12_milliOf me_X12_milliOf lkm_RX12_243 kt_53 rfl rfl rfl dX12_gives_39 (fun x8 μ9 hx8 hμ9 h => ?_)
      refine o_goto (tgt := 47) C dX12_gives_42 (by decide) ?_
      exact o_iret C hQ dX12_gives_47 h hx8 hμ9
  · refine o_ldc (v := (-10000001)) C lkc_RX12_159 rfl dX12_gives_21 ?_
    refine o_goto (tgt := 47) C dX12_gives_23 (by decide) ?_
    exact o_iret C hQ dX12_gives_47 h ⟨by decide, by decide⟩ hμ3
theorem c_X12_gives {z1 : Int} (hz1 : r32 z1) {μ : GM} (hμ : gRg μ) {u : Int × GM} (h : f_X12_gives z1 μ = some u) : MtI 5 yX12_gives cX12_gives 2 (some .int) (fun ad => [.ref (ad 53), vI z1]) μ u := MtI.of pf_X12_gives (fun _ => Nat.le_of_ble_eq_true rfl) (fun G C hQ => w_X12_gives_0 C hQ hz1 hμ h)
def f_X12_takes (z1 : Int) (μ : GM) : Option (Int × GM) :=
  lm (gF μ 53 0 0) fun μ1 =>
  bd (f_X12_in z1 0 (w32 ((μ1.2 53 14) - 1)) μ1) fun x2 μ3 =>
  if x2 = 0 then
    some ((-10000001), μ3)
  else
    bd (f_X12_rests μ3) fun x4 μ5 =>
    if x4 = 0 then
      some ((-10000003), μ5)
    else
      bd (f_X12_takesOf z1 μ5) fun x6 μ7 =>
      bd (f_X12_milliOf x6 μ7) fun x8 μ9 =>
      some (x8, μ9)
set_option maxHeartbeats 4000000 in
set_option maxRecDepth 100000 in
theorem w_X12_takes_0 {G : GX} {u : Int × GM} (C : CX G 5 cX12_takes 2 RX12) (hQ : gQI G (some .int) u) {z1 : Int} (hz1 : r32 z1) {μ : GM} (hμ : gRg μ) (h : f_X12_takes z1 μ = some u) : WM G 2 μ 0 [(0, gR G 53), (1, vI z1)] [] := by
  unfold f_X12_takes at h
  refine o_aload_n C 0 dX12_takes_0 rfl rfl ?_
  refine o_iconst C dX12_takes_1 ?_
  refine o_putI (j := 0) C kt_53 rfl rfl tyX12_ok nmX12 (Nat.le_of_ble_eq_true rfl) lkf_RX12_133 rfl rfl ⟨by decide, by decide⟩ hμ dX12_takes_2 h (fun μ1 hμ1 h => ?_)
  refine o_iload_n C 1 dX12_takes_5 rfl rfl ?_
  refine o_i2l C hz1 dX12_takes_6 ?_
  refine o_lconst (v := 0) C dX12_takes_7 rfl ?_
  refine o_aload_n C 0 dX12_takes_8 rfl rfl ?_
  refine o_getI (j := 14) C kt_53 rfl rfl (Nat.le_of_ble_eq_true rfl) lkf_RX12_172 dX12_takes_9 ?_
  refine o_iconst C dX12_takes_12 ?_
  refine o_isub C dX12_takes_13 ?_
  refine o_i2l C (r32_w _) dX12_takes_14 ?_
  refine o_cSI C [vJ z1, vJ 0, vJ (w32 ((μ1.2 53 14) - 1))] mb_X12_in (by decide) (fun _ hu => c_X12_in (r32_r64 hz1) ⟨by decide, by decide⟩ (r32_r64 (r32_w _)) hμ1 hu) rfl (Nat.le_of_ble_eq_true rfl) h ms_X12_in lkm_RX12_140 rfl rfl dX12_takes_15 (fun x2 μ3 hx2 hμ3 h => ?_)
  refine o_if_ne (tgt := 26) C hx2 dX12_takes_18 (by decide) h (fun _ h => ?_) (fun _ h => ?_)
  · refine o_aload_n C 0 dX12_takes_26 rfl rfl ?_
    refine o_cVI C [] mb_X12_rests (by decide) (fun _ hu => c_X12_rests hμ3 hu) rfl (Nat.le_of_ble_eq_true rfl) h mi_X12_rests me_X12_rests lkm_RX12_229 kt_53 rfl rfl rfl dX12_takes_27 (fun x4 μ5 hx4 hμ5 h => ?_)
    refine o_if_eq (tgt := 45) C hx4 dX12_takes_30 (by decide) h (fun _ h => ?_) (fun _ h => ?_)
    · refine o_ldc (v := (-10000003)) C lkc_RX12_163 rfl dX12_takes_45 ?_
      exact o_iret C hQ dX12_takes_47 h ⟨by decide, by decide⟩ hμ5
    · refine o_aload_n C 0 dX12_takes_33 rfl rfl ?_
      refine o_aload_n C 0 dX12_takes_34 rfl rfl ?_
      refine o_iload_n C 1 dX12_takes_35 rfl rfl ?_
      refine o_cVL C [vI z1] mb_X12_takesOf (by decide) (fun _ hu => c_X12_takesOf hz1 hμ5 hu) rfl (Nat.le_of_ble_eq_true rfl) h mi_X12_takesOf me_X12_takesOf lkm_RX12_253 kt_53 rfl rfl rfl dX12_takes_36 (fun x6 μ7 hx6 hμ7 h => ?_)
      refine o_cVI C [vJ x6] mb_X12_milliOf (by decide) (fun _ hu => c_X12_milliOf hx6 hμ7 hu) rfl (Nat.le_of_ble_eq_true rfl) h mi_X12_milliOf me_X12_milliOf lkm_RX12_243 kt_53 rfl rfl rfl dX12_takes_39 (fun x8 μ9 hx8 hμ9 h => ?_)
      refine o_goto (tgt := 47) C dX12_takes_42 (by decide) ?_
      exact o_iret C hQ dX12_takes_47 h hx8 hμ9
  · refine o_ldc (v := (-10000001)) C lkc_RX12_159 rfl dX12_takes_21 ?_
    refine o_goto (tgt := 47) C dX12_takes_23 (by decide) ?_
    exact o_iret C hQ dX12_takes_47 h ⟨by decide, by decide⟩ hμ3
theorem c_X12_takes {z1 : Int} (hz1 : r32 z1) {μ : GM} (hμ : gRg μ) {u : Int × GM} (h : f_X12_takes z1 μ = some u) : MtI 5 yX12_takes cX12_takes 2 (some .int) (fun ad => [.ref (ad 53), vI z1]) μ u := MtI.of pf_X12_takes (fun _ => Nat.le_of_ble_eq_true rfl) (fun G C hQ => w_X12_takes_0 C hQ hz1 hμ h)
def f_X12_isDry (z1 : Int) (μ : GM) : Option (Int × GM) :=
  ck (0 ≤ z1 ∧ z1 < 6) (
  ck (0 ≤ z1 ∧ z1 < 6) (
  if (μ.1 71 z1) < (w64 ((μ.1 54 z1) * (μ.2 53 24))) then
    some (1 % 2, μ)
  else
    some (0 % 2, μ)))
set_option maxHeartbeats 4000000 in
set_option maxRecDepth 100000 in
theorem w_X12_isDry_0 {G : GX} {u : Int × GM} (C : CX G 0 cX12_isDry 2 RX12) (hQ : gQI G (some .boolean) u) {z1 : Int} (hz1 : r32 z1) {μ : GM} (hμ : gRg μ) (h : f_X12_isDry z1 μ = some u) : WM G 2 μ 0 [(0, gR G 53), (1, vI z1)] [] := by
  unfold f_X12_isDry at h
  refine o_aload_n C 0 dX12_isDry_0 rfl rfl ?_
  refine o_getR (j := 23) C kt_53 rfl rfl (Nat.le_of_ble_eq_true rfl) lkf_RX12_61 dX12_isDry_1 ?_
  refine o_iload_n C 1 dX12_isDry_4 rfl rfl ?_
  refine o_lald C kt_71 rfl hz1 dX12_isDry_5 h (fun h => ?_)
  refine o_aload_n C 0 dX12_isDry_6 rfl rfl ?_
  refine o_getR (j := 2) C kt_53 rfl rfl (Nat.le_of_ble_eq_true rfl) lkf_RX12_7 dX12_isDry_7 ?_
  refine o_iload_n C 1 dX12_isDry_10 rfl rfl ?_
  refine o_iald C kt_54 rfl hz1 dX12_isDry_11 h (fun h => ?_)
  refine o_i2l C (hμ.i kt_54 (by decide) _) dX12_isDry_12 ?_
  refine o_aload_n C 0 dX12_isDry_13 rfl rfl ?_
  refine o_getJ (j := 24) C kt_53 rfl rfl (Nat.le_of_ble_eq_true rfl) lkf_RX12_211 dX12_isDry_14 ?_
  refine o_lmul C dX12_isDry_17 ?_
  refine o_lcmp_ge (tgt := 26) C (hμ.l kt_71 _) (r64_w _) dX12_isDry_18 dX12_isDry_19 (by decide) h (fun _ h => ?_) (fun _ h => ?_)
  · refine o_iconst C dX12_isDry_26 ?_
    exact o_zret C hQ dX12_isDry_27 h hμ
  · refine o_iconst C dX12_isDry_22 ?_
    refine o_goto (tgt := 27) C dX12_isDry_23 (by decide) ?_
    exact o_zret C hQ dX12_isDry_27 h hμ
theorem c_X12_isDry {z1 : Int} (hz1 : r32 z1) {μ : GM} (hμ : gRg μ) {u : Int × GM} (h : f_X12_isDry z1 μ = some u) : MtI 0 yX12_isDry cX12_isDry 2 (some .boolean) (fun ad => [.ref (ad 53), vI z1]) μ u := MtI.of pf_X12_isDry (fun _ => Nat.le_of_ble_eq_true rfl) (fun G C hQ => w_X12_isDry_0 C hQ hz1 hμ h)
def f_X12_dry (z1 : Int) (μ : GM) : Option (Int × GM) :=
  lm (gF μ 53 0 0) fun μ1 =>
  bd (f_X12_noCell z1 μ1) fun x2 μ3 =>
  if x2 = 0 then
    bd (f_X12_rests μ3) fun x4 μ5 =>
    if x4 = 0 then
      some ((-10000003), μ5)
    else
      bd (f_X12_isDry z1 μ5) fun x6 μ7 =>
      if x6 = 0 then
        some (0, μ7)
      else
        some (1, μ7)
  else
    some ((-10000001), μ3)
set_option maxHeartbeats 4000000 in
set_option maxRecDepth 100000 in
theorem w_X12_dry_0 {G : GX} {u : Int × GM} (C : CX G 5 cX12_dry 2 RX12) (hQ : gQI G (some .int) u) {z1 : Int} (hz1 : r32 z1) {μ : GM} (hμ : gRg μ) (h : f_X12_dry z1 μ = some u) : WM G 2 μ 0 [(0, gR G 53), (1, vI z1)] [] := by
  unfold f_X12_dry at h
  refine o_aload_n C 0 dX12_dry_0 rfl rfl ?_
  refine o_iconst C dX12_dry_1 ?_
  refine o_putI (j := 0) C kt_53 rfl rfl tyX12_ok nmX12 (Nat.le_of_ble_eq_true rfl) lkf_RX12_133 rfl rfl ⟨by decide, by decide⟩ hμ dX12_dry_2 h (fun μ1 hμ1 h => ?_)
  refine o_aload_n C 0 dX12_dry_5 rfl rfl ?_
  refine o_iload_n C 1 dX12_dry_6 rfl rfl ?_
  refine o_cVI C [vI z1] mb_X12_noCell (by decide) (fun _ hu => c_X12_noCell hz1 hμ1 hu) rfl (Nat.le_of_ble_eq_true rfl) h mi_X12_noCell me_X12_noCell lkm_RX12_155 kt_53 rfl rfl rfl dX12_dry_7 (fun x2 μ3 hx2 hμ3 h => ?_)
  refine o_if_eq (tgt := 18) C hx2 dX12_dry_10 (by decide) h (fun _ h => ?_) (fun _ h => ?_)
  · refine o_aload_n C 0 dX12_dry_18 rfl rfl ?_
    refine o_cVI C [] mb_X12_rests (by decide) (fun _ hu => c_X12_rests hμ3 hu) rfl (Nat.le_of_ble_eq_true rfl) h mi_X12_rests me_X12_rests lkm_RX12_229 kt_53 rfl rfl rfl dX12_dry_19 (fun x4 μ5 hx4 hμ5 h => ?_)
    refine o_if_ne (tgt := 30) C hx4 dX12_dry_22 (by decide) h (fun _ h => ?_) (fun _ h => ?_)
    · refine o_aload_n C 0 dX12_dry_30 rfl rfl ?_
      refine o_iload_n C 1 dX12_dry_31 rfl rfl ?_
      refine o_cVI C [vI z1] mb_X12_isDry (by decide) (fun _ hu => c_X12_isDry hz1 hμ5 hu) rfl (Nat.le_of_ble_eq_true rfl) h mi_X12_isDry me_X12_isDry lkm_RX12_256 kt_53 rfl rfl rfl dX12_dry_32 (fun x6 μ7 hx6 hμ7 h => ?_)
      refine o_if_eq (tgt := 42) C hx6 dX12_dry_35 (by decide) h (fun _ h => ?_) (fun _ h => ?_)
      · refine o_iconst C dX12_dry_42 ?_
        exact o_iret C hQ dX12_dry_43 h ⟨by decide, by decide⟩ hμ7
      · refine o_iconst C dX12_dry_38 ?_
        refine o_goto (tgt := 43) C dX12_dry_39 (by decide) ?_
        exact o_iret C hQ dX12_dry_43 h ⟨by decide, by decide⟩ hμ7
    · refine o_ldc (v := (-10000003)) C lkc_RX12_163 rfl dX12_dry_25 ?_
      refine o_goto (tgt := 43) C dX12_dry_27 (by decide) ?_
      exact o_iret C hQ dX12_dry_43 h ⟨by decide, by decide⟩ hμ5
  · refine o_ldc (v := (-10000001)) C lkc_RX12_159 rfl dX12_dry_13 ?_
    refine o_goto (tgt := 43) C dX12_dry_15 (by decide) ?_
    exact o_iret C hQ dX12_dry_43 h ⟨by decide, by decide⟩ hμ3
theorem c_X12_dry {z1 : Int} (hz1 : r32 z1) {μ : GM} (hμ : gRg μ) {u : Int × GM} (h : f_X12_dry z1 μ = some u) : MtI 5 yX12_dry cX12_dry 2 (some .int) (fun ad => [.ref (ad 53), vI z1]) μ u := MtI.of pf_X12_dry (fun _ => Nat.le_of_ble_eq_true rfl) (fun G C hQ => w_X12_dry_0 C hQ hz1 hμ h)
def f_X12_salt (z1 : Int) (μ : GM) : Option (Int × GM) :=
  lm (gF μ 53 0 0) fun μ1 =>
  bd (f_X12_noCell z1 μ1) fun x2 μ3 =>
  if x2 = 0 then
    bd (f_X12_rests μ3) fun x4 μ5 =>
    if x4 = 0 then
      some ((-10000003), μ5)
    else
      ck (0 ≤ z1 ∧ z1 < 6) (
      bd (f_X12_milliOf (w64 ((-40) * (μ5.1 71 z1))) μ5) fun x6 μ7 =>
      some (x6, μ7))
  else
    some ((-10000001), μ3)
set_option maxHeartbeats 4000000 in
set_option maxRecDepth 100000 in
theorem w_X12_salt_0 {G : GX} {u : Int × GM} (C : CX G 5 cX12_salt 2 RX12) (hQ : gQI G (some .int) u) {z1 : Int} (hz1 : r32 z1) {μ : GM} (hμ : gRg μ) (h : f_X12_salt z1 μ = some u) : WM G 2 μ 0 [(0, gR G 53), (1, vI z1)] [] := by
  unfold f_X12_salt at h
  refine o_aload_n C 0 dX12_salt_0 rfl rfl ?_
  refine o_iconst C dX12_salt_1 ?_
  refine o_putI (j := 0) C kt_53 rfl rfl tyX12_ok nmX12 (Nat.le_of_ble_eq_true rfl) lkf_RX12_133 rfl rfl ⟨by decide, by decide⟩ hμ dX12_salt_2 h (fun μ1 hμ1 h => ?_)
  refine o_aload_n C 0 dX12_salt_5 rfl rfl ?_
  refine o_iload_n C 1 dX12_salt_6 rfl rfl ?_
  refine o_cVI C [vI z1] mb_X12_noCell (by decide) (fun _ hu => c_X12_noCell hz1 hμ1 hu) rfl (Nat.le_of_ble_eq_true rfl) h mi_X12_noCell me_X12_noCell lkm_RX12_155 kt_53 rfl rfl rfl dX12_salt_7 (fun x2 μ3 hx2 hμ3 h => ?_)
  refine o_if_eq (tgt := 18) C hx2 dX12_salt_10 (by decide) h (fun _ h => ?_) (fun _ h => ?_)
  · refine o_aload_n C 0 dX12_salt_18 rfl rfl ?_
    refine o_cVI C [] mb_X12_rests (by decide) (fun _ hu => c_X12_rests hμ3 hu) rfl (Nat.le_of_ble_eq_true rfl) h mi_X12_rests me_X12_rests lkm_RX12_229 kt_53 rfl rfl rfl dX12_salt_19 (fun x4 μ5 hx4 hμ5 h => ?_)
    refine o_if_eq (tgt := 42) C hx4 dX12_salt_22 (by decide) h (fun _ h => ?_) (fun _ h => ?_)
    · refine o_ldc (v := (-10000003)) C lkc_RX12_163 rfl dX12_salt_42 ?_
      exact o_iret C hQ dX12_salt_44 h ⟨by decide, by decide⟩ hμ5
    · refine o_aload_n C 0 dX12_salt_25 rfl rfl ?_
      refine o_ldc2 (v := (-40)) C lkc_RX12_259 rfl dX12_salt_26 ?_
      refine o_aload_n C 0 dX12_salt_29 rfl rfl ?_
      refine o_getR (j := 23) C kt_53 rfl rfl (Nat.le_of_ble_eq_true rfl) lkf_RX12_61 dX12_salt_30 ?_
      refine o_iload_n C 1 dX12_salt_33 rfl rfl ?_
      refine o_lald C kt_71 rfl hz1 dX12_salt_34 h (fun h => ?_)
      refine o_lmul C dX12_salt_35 ?_
      refine o_cVI C [vJ (w64 ((-40) * (μ5.1 71 z1)))] mb_X12_milliOf (by decide) (fun _ hu => c_X12_milliOf (r64_w _) hμ5 hu) rfl (Nat.le_of_ble_eq_true rfl) h mi_X12_milliOf me_X12_milliOf lkm_RX12_243 kt_53 rfl rfl rfl dX12_salt_36 (fun x6 μ7 hx6 hμ7 h => ?_)
      refine o_goto (tgt := 44) C dX12_salt_39 (by decide) ?_
      exact o_iret C hQ dX12_salt_44 h hx6 hμ7
  · refine o_ldc (v := (-10000001)) C lkc_RX12_159 rfl dX12_salt_13 ?_
    refine o_goto (tgt := 44) C dX12_salt_15 (by decide) ?_
    exact o_iret C hQ dX12_salt_44 h ⟨by decide, by decide⟩ hμ3
theorem c_X12_salt {z1 : Int} (hz1 : r32 z1) {μ : GM} (hμ : gRg μ) {u : Int × GM} (h : f_X12_salt z1 μ = some u) : MtI 5 yX12_salt cX12_salt 2 (some .int) (fun ad => [.ref (ad 53), vI z1]) μ u := MtI.of pf_X12_salt (fun _ => Nat.le_of_ble_eq_true rfl) (fun G C hQ => w_X12_salt_0 C hQ hz1 hμ h)
def k_X12_through_55 : Nat → Int → Int → Int → GM → Option (Int × GM)
  | 0, _, _, _, _ => none
  | n + 1, z1, z2, z4, μ =>
    if z4 < (μ.2 53 9) then
      bd (f_X12_givesOf z4 μ) fun x3 μ4 =>
      if 0 < x3 then
        bd (f_X12_givesOf z4 μ4) fun x7 μ8 =>
        lt (w64 (z2 + x7)) fun x9 =>
        lt (w32 (z4 + 1)) fun x10 =>
        k_X12_through_55 n z1 x9 x10 μ8
      else
        lt (w64 (z2 + 0)) fun x5 =>
        lt (w32 (z4 + 1)) fun x6 =>
        k_X12_through_55 n z1 x5 x6 μ4
    else
      bd (f_X12_told z2 (μ.2 53 24) z1 μ) fun x1 μ2 =>
      some (x1, μ2)
set_option maxHeartbeats 4000000 in
set_option maxRecDepth 100000 in
theorem w_X12_through_55 {G : GX} {u : Int × GM} (C : CX G 5 cX12_through 5 RX12) (hQ : gQL G (some .long) u) : ∀ (n : Nat) (z1 : Int) (hz1 : r32 z1) (z2 : Int) (hz2 : r64 z2) (z4 : Int) (hz4 : r32 z4) (μ : GM) (hμ : gRg μ), k_X12_through_55 n z1 z2 z4 μ = some u → WM G 5 μ 55 [(0, gR G 53), (1, vI z1), (2, vJ z2), (4, vI z4)] [] := by
  intro n
  induction n with
  | zero =>
    intro z1 hz1 z2 hz2 z4 hz4 μ hμ h
    cases h
  | succ n ih =>
    intro z1 hz1 z2 hz2 z4 hz4 μ hμ h
    rw [k_X12_through_55] at h
    refine o_iload C 3 dX12_through_55 rfl ?_
    refine o_aload_n C 0 dX12_through_57 rfl rfl ?_
    refine o_getI (j := 9) C kt_53 rfl rfl (Nat.le_of_ble_eq_true rfl) lkf_RX12_169 dX12_through_58 ?_
    refine o_icmp_ge (tgt := 94) C hz4 (hμ.fi kt_53 rfl (by decide)) dX12_through_61 (by decide) h (fun _ h => ?_) (fun _ h => ?_)
    · refine o_lload_n C 2 dX12_through_94 rfl rfl ?_
      refine o_aload_n C 0 dX12_through_95 rfl rfl ?_
      refine o_getJ (j := 24) C kt_53 rfl rfl (Nat.le_of_ble_eq_true rfl) lkf_RX12_211 dX12_through_96 ?_
      refine o_iload_n C 1 dX12_through_99 rfl rfl ?_
      refine o_cSL C [vJ z2, vJ (μ.2 53 24), vI z1] mb_X12_told (by decide) (fun _ hu => c_X12_told hz2 (hμ.fl kt_53 rfl) hz1 hμ hu) rfl (Nat.le_of_ble_eq_true rfl) h ms_X12_told lkm_RX12_237 rfl rfl dX12_through_100 (fun x1 μ2 hx1 hμ2 h => ?_)
      exact o_lret C hQ dX12_through_103 h hx1 hμ2
    · refine o_lload_n C 2 dX12_through_64 rfl rfl ?_
      refine o_aload_n C 0 dX12_through_65 rfl rfl ?_
      refine o_iload C 3 dX12_through_66 rfl ?_
      refine o_cVL C [vI z4] mb_X12_givesOf (by decide) (fun _ hu => c_X12_givesOf hz4 hμ hu) rfl (Nat.le_of_ble_eq_true rfl) h mi_X12_givesOf me_X12_givesOf lkm_RX12_250 kt_53 rfl rfl rfl dX12_through_68 (fun x3 μ4 hx3 hμ4 h => ?_)
      refine o_lconst (v := 0) C dX12_through_71 rfl ?_
      refine o_lcmp_le (tgt := 85) C hx3 ⟨by decide, by decide⟩ dX12_through_72 dX12_through_73 (by decide) h (fun _ h => ?_) (fun _ h => ?_)
      · refine o_lconst (v := 0) C dX12_through_85 rfl ?_
        refine o_ladd C dX12_through_86 ?_
        refine o_ltl h (r64_w _) (fun x5 hx5 h => ?_)
        refine o_lstore_n (lv2 := [(2, vJ x5), (0, gR G 53), (1, vI z1), (4, vI z4)]) C dX12_through_87 rfl (by decide) rfl ?_
        refine o_iinc (lv2 := fun x6 => [(4, vI x6), (2, vJ x5), (0, gR G 53), (1, vI z1)]) C 3 dX12_through_88 rfl (by decide) (fun _ => rfl) h (fun x6 hx6 h => ?_)
        refine o_goto (tgt := 55) C dX12_through_91 (by decide) ?_
        exact WM.sub [2, 3, 1, 0] rfl (ih z1 hz1 x5 hx5 x6 hx6 μ4 hμ4 h)
      · refine o_aload_n C 0 dX12_through_76 rfl rfl ?_
        refine o_iload C 3 dX12_through_77 rfl ?_
        refine o_cVL C [vI z4] mb_X12_givesOf (by decide) (fun _ hu => c_X12_givesOf hz4 hμ4 hu) rfl (Nat.le_of_ble_eq_true rfl) h mi_X12_givesOf me_X12_givesOf lkm_RX12_250 kt_53 rfl rfl rfl dX12_through_79 (fun x7 μ8 hx7 hμ8 h => ?_)
        refine o_goto (tgt := 86) C dX12_through_82 (by decide) ?_
        refine o_ladd C dX12_through_86 ?_
        refine o_ltl h (r64_w _) (fun x9 hx9 h => ?_)
        refine o_lstore_n (lv2 := [(2, vJ x9), (0, gR G 53), (1, vI z1), (4, vI z4)]) C dX12_through_87 rfl (by decide) rfl ?_
        refine o_iinc (lv2 := fun x10 => [(4, vI x10), (2, vJ x9), (0, gR G 53), (1, vI z1)]) C 3 dX12_through_88 rfl (by decide) (fun _ => rfl) h (fun x10 hx10 h => ?_)
        refine o_goto (tgt := 55) C dX12_through_91 (by decide) ?_
        exact WM.sub [2, 3, 1, 0] rfl (ih z1 hz1 x9 hx9 x10 hx10 μ8 hμ8 h)
def k_X12_through_21 : Nat → Int → Int → Int → GM → Option (Int × GM)
  | 0, _, _, _, _ => none
  | n + 1, z1, z2, z4, μ =>
    if z4 < (μ.2 53 1) then
      ck (0 ≤ z4 ∧ z4 < 6) (
      lt (w64 (z2 + (w64 ((μ.1 55 z4) * (μ.2 53 24))))) fun x1 =>
      lt (w32 (z4 + 1)) fun x2 =>
      k_X12_through_21 n z1 x1 x2 μ)
    else
      k_X12_through_55 FU z1 z2 0 μ
set_option maxHeartbeats 4000000 in
set_option maxRecDepth 100000 in
theorem w_X12_through_21 {G : GX} {u : Int × GM} (C : CX G 5 cX12_through 5 RX12) (hQ : gQL G (some .long) u) : ∀ (n : Nat) (z1 : Int) (hz1 : r32 z1) (z2 : Int) (hz2 : r64 z2) (z4 : Int) (hz4 : r32 z4) (μ : GM) (hμ : gRg μ), k_X12_through_21 n z1 z2 z4 μ = some u → WM G 5 μ 21 [(0, gR G 53), (1, vI z1), (2, vJ z2), (4, vI z4)] [] := by
  intro n
  induction n with
  | zero =>
    intro z1 hz1 z2 hz2 z4 hz4 μ hμ h
    cases h
  | succ n ih =>
    intro z1 hz1 z2 hz2 z4 hz4 μ hμ h
    rw [k_X12_through_21] at h
    refine o_iload C 3 dX12_through_21 rfl ?_
    refine o_aload_n C 0 dX12_through_23 rfl rfl ?_
    refine o_getI (j := 1) C kt_53 rfl rfl (Nat.le_of_ble_eq_true rfl) lkf_RX12_137 dX12_through_24 ?_
    refine o_icmp_ge (tgt := 52) C hz4 (hμ.fi kt_53 rfl (by decide)) dX12_through_27 (by decide) h (fun _ h => ?_) (fun _ h => ?_)
    · refine o_iconst C dX12_through_52 ?_
      refine o_istore (lv2 := [(4, vI 0), (0, gR G 53), (1, vI z1), (2, vJ z2)]) C dX12_through_53 (by decide) rfl ?_
      exact WM.sub [1, 2, 3, 0] rfl (w_X12_through_55 C hQ FU z1 hz1 z2 hz2 0 ⟨by decide, by decide⟩ μ hμ h)
    · refine o_lload_n C 2 dX12_through_30 rfl rfl ?_
      refine o_aload_n C 0 dX12_through_31 rfl rfl ?_
      refine o_getR (j := 3) C kt_53 rfl rfl (Nat.le_of_ble_eq_true rfl) lkf_RX12_13 dX12_through_32 ?_
      refine o_iload C 3 dX12_through_35 rfl ?_
      refine o_iald C kt_55 rfl hz4 dX12_through_37 h (fun h => ?_)
      refine o_i2l C (hμ.i kt_55 (by decide) _) dX12_through_38 ?_
      refine o_aload_n C 0 dX12_through_39 rfl rfl ?_
      refine o_getJ (j := 24) C kt_53 rfl rfl (Nat.le_of_ble_eq_true rfl) lkf_RX12_211 dX12_through_40 ?_
      refine o_lmul C dX12_through_43 ?_
      refine o_ladd C dX12_through_44 ?_
      refine o_ltl h (r64_w _) (fun x1 hx1 h => ?_)
      refine o_lstore_n (lv2 := [(2, vJ x1), (0, gR G 53), (1, vI z1), (4, vI z4)]) C dX12_through_45 rfl (by decide) rfl ?_
      refine o_iinc (lv2 := fun x2 => [(4, vI x2), (2, vJ x1), (0, gR G 53), (1, vI z1)]) C 3 dX12_through_46 rfl (by decide) (fun _ => rfl) h (fun x2 hx2 h => ?_)
      refine o_goto (tgt := 21) C dX12_through_49 (by decide) ?_
      exact WM.sub [2, 3, 1, 0] rfl (ih z1 hz1 x1 hx1 x2 hx2 μ hμ h)
def f_X12_through (z1 : Int) (μ : GM) : Option (Int × GM) :=
  lm (gF μ 53 0 0) fun μ1 =>
  bd (f_X12_rests μ1) fun x2 μ3 =>
  if x2 = 0 then
    some ((-10000003), μ3)
  else
    k_X12_through_21 FU z1 0 0 μ3
set_option maxHeartbeats 4000000 in
set_option maxRecDepth 100000 in
theorem w_X12_through_0 {G : GX} {u : Int × GM} (C : CX G 5 cX12_through 5 RX12) (hQ : gQL G (some .long) u) {z1 : Int} (hz1 : r32 z1) {μ : GM} (hμ : gRg μ) (h : f_X12_through z1 μ = some u) : WM G 5 μ 0 [(0, gR G 53), (1, vI z1)] [] := by
  unfold f_X12_through at h
  refine o_aload_n C 0 dX12_through_0 rfl rfl ?_
  refine o_iconst C dX12_through_1 ?_
  refine o_putI (j := 0) C kt_53 rfl rfl tyX12_ok nmX12 (Nat.le_of_ble_eq_true rfl) lkf_RX12_133 rfl rfl ⟨by decide, by decide⟩ hμ dX12_through_2 h (fun μ1 hμ1 h => ?_)
  refine o_aload_n C 0 dX12_through_5 rfl rfl ?_
  refine o_cVI C [] mb_X12_rests (by decide) (fun _ hu => c_X12_rests hμ1 hu) rfl (Nat.le_of_ble_eq_true rfl) h mi_X12_rests me_X12_rests lkm_RX12_229 kt_53 rfl rfl rfl dX12_through_6 (fun x2 μ3 hx2 hμ3 h => ?_)
  refine o_if_ne (tgt := 16) C hx2 dX12_through_9 (by decide) h (fun _ h => ?_) (fun _ h => ?_)
  · refine o_lconst (v := 0) C dX12_through_16 rfl ?_
    refine o_lstore_n (lv2 := [(2, vJ 0), (0, gR G 53), (1, vI z1)]) C dX12_through_17 rfl (by decide) rfl ?_
    refine o_iconst C dX12_through_18 ?_
    refine o_istore (lv2 := [(4, vI 0), (2, vJ 0), (0, gR G 53), (1, vI z1)]) C dX12_through_19 (by decide) rfl ?_
    exact WM.sub [2, 3, 1, 0] rfl (w_X12_through_21 C hQ FU z1 hz1 0 ⟨by decide, by decide⟩ 0 ⟨by decide, by decide⟩ μ3 hμ3 h)
  · refine o_ldc2 (v := (-10000003)) C lkc_RX12_241 rfl dX12_through_12 ?_
    exact o_lret C hQ dX12_through_15 h ⟨by decide, by decide⟩ hμ3
theorem c_X12_through {z1 : Int} (hz1 : r32 z1) {μ : GM} (hμ : gRg μ) {u : Int × GM} (h : f_X12_through z1 μ = some u) : MtL 5 yX12_through cX12_through 5 (some .long) (fun ad => [.ref (ad 53), vI z1]) μ u := MtL.of pf_X12_through (fun _ => Nat.le_of_ble_eq_true rfl) (fun G C hQ => w_X12_through_0 C hQ hz1 hμ h)
def f_X12_let (z1 : Int) (z2 : Int) (μ : GM) : Option (Int × GM) :=
  if 0 < z2 then
    ck (0 ≤ (μ.2 53 31) ∧ (μ.2 53 31) < 20) (lm (gA μ 77 (μ.2 53 31) z1) fun μ1 =>
    ck (0 ≤ (μ1.2 53 31) ∧ (μ1.2 53 31) < 20) (lm (gA μ1 78 (μ1.2 53 31) z2) fun μ2 =>
    lm (gF μ2 53 31 (w32 ((μ2.2 53 31) + 1))) fun μ3 =>
    some (0, μ3)))
  else
    some (0, μ)
set_option maxHeartbeats 4000000 in
set_option maxRecDepth 100000 in
theorem w_X12_let_0 {G : GX} {u : Int × GM} (C : CX G 0 cX12_let 4 RX12) (hQ : gQV G none u) {z1 : Int} (hz1 : r32 z1) {z2 : Int} (hz2 : r64 z2) {μ : GM} (hμ : gRg μ) (h : f_X12_let z1 z2 μ = some u) : WM G 4 μ 0 [(0, gR G 53), (1, vI z1), (2, vJ z2)] [] := by
  unfold f_X12_let at h
  refine o_lload_n C 2 dX12_let_0 rfl rfl ?_
  refine o_lconst (v := 0) C dX12_let_1 rfl ?_
  refine o_lcmp_le (tgt := 36) C hz2 ⟨by decide, by decide⟩ dX12_let_2 dX12_let_3 (by decide) h (fun _ h => ?_) (fun _ h => ?_)
  · exact o_vret C hQ dX12_let_36 h hμ
  · refine o_aload_n C 0 dX12_let_6 rfl rfl ?_
    refine o_getR (j := 32) C kt_53 rfl rfl (Nat.le_of_ble_eq_true rfl) lkf_RX12_80 dX12_let_7 ?_
    refine o_aload_n C 0 dX12_let_10 rfl rfl ?_
    refine o_getI (j := 31) C kt_53 rfl rfl (Nat.le_of_ble_eq_true rfl) lkf_RX12_261 dX12_let_11 ?_
    refine o_iload_n C 1 dX12_let_14 rfl rfl ?_
    refine o_iast C kt_77 rfl (hμ.fi kt_53 rfl (by decide)) hz1 hμ dX12_let_15 h (fun μ1 hμ1 h => ?_)
    refine o_aload_n C 0 dX12_let_16 rfl rfl ?_
    refine o_getR (j := 33) C kt_53 rfl rfl (Nat.le_of_ble_eq_true rfl) lkf_RX12_83 dX12_let_17 ?_
    refine o_aload_n C 0 dX12_let_20 rfl rfl ?_
    refine o_getI (j := 31) C kt_53 rfl rfl (Nat.le_of_ble_eq_true rfl) lkf_RX12_261 dX12_let_21 ?_
    refine o_lload_n C 2 dX12_let_24 rfl rfl ?_
    refine o_last C kt_78 rfl (hμ1.fi kt_53 rfl (by decide)) hz2 hμ1 dX12_let_25 h (fun μ2 hμ2 h => ?_)
    refine o_aload_n C 0 dX12_let_26 rfl rfl ?_
    refine o_dupr C dX12_let_27 ?_
    refine o_getI (j := 31) C kt_53 rfl rfl (Nat.le_of_ble_eq_true rfl) lkf_RX12_261 dX12_let_28 ?_
    refine o_iconst C dX12_let_31 ?_
    refine o_iadd C dX12_let_32 ?_
    refine o_putI (j := 31) C kt_53 rfl rfl tyX12_ok nmX12 (Nat.le_of_ble_eq_true rfl) lkf_RX12_261 rfl rfl (r32_w _) hμ2 dX12_let_33 h (fun μ3 hμ3 h => ?_)
    exact o_vret C hQ dX12_let_36 h hμ3
theorem c_X12_let {z1 : Int} (hz1 : r32 z1) {z2 : Int} (hz2 : r64 z2) {μ : GM} (hμ : gRg μ) {u : Int × GM} (h : f_X12_let z1 z2 μ = some u) : MtV 0 yX12_let cX12_let 4 none (fun ad => [.ref (ad 53), vI z1, vJ z2]) μ u := MtV.of pf_X12_let (fun _ => Nat.le_of_ble_eq_true rfl) (fun G C hQ => w_X12_let_0 C hQ hz1 hz2 hμ h)
