def f_X12_inWorld (z1 : Int) (z2 : Int) (μ : GM) : Option (Int × GM) :=
  lm (gF μ 53 0 0) fun μ1 =>
  bd (f_X12_in z1 0 (w32 ((μ1.2 53 37) - 1)) μ1) fun x2 μ3 =>
  if x2 = 0 then
    some ((-10000001), μ3)
  else
    bd (f_X12_noCell z2 μ3) fun x4 μ5 =>
    if x4 = 0 then
      bd (f_X12_restsIn z1 μ5) fun x6 μ7 =>
      if x6 = 0 then
        some ((-10000003), μ7)
      else
        ck (0 ≤ z2 ∧ z2 < 6) (
        bd (f_X12_milliOf (μ7.1 71 z2) μ7) fun x8 μ9 =>
        some (x8, μ9))
    else
      some ((-10000001), μ5)
set_option maxHeartbeats 4000000 in
set_option maxRecDepth 100000 in
theorem w_X12_inWorld_0 {G : GX} {u : Int × GM} (C : CX G 5 cX12_inWorld 3 RX12) (hQ : gQI G (some .int) u) {z1 : Int} (hz1 : r32 z1) {z2 : Int} (hz2 : r32 z2) {μ : GM} (hμ : gRg μ) (h : f_X12_inWorld z1 z2 μ = some u) : WM G 3 μ 0 [(0, gR G 53), (1, vI z1), (2, vI z2)] [] := by
  unfold f_X12_inWorld at h
  refine o_aload_n C 0 dX12_inWorld_0 rfl rfl ?_
  refine o_iconst C dX12_inWorld_1 ?_
  refine o_putI (j := 0) C kt_53 rfl rfl tyX12_ok nmX12 (Nat.le_of_ble_eq_true rfl) lkf_RX12_133 rfl rfl ⟨by decide, by decide⟩ hμ dX12_inWorld_2 h (fun μ1 hμ1 h => ?_)
  refine o_iload_n C 1 dX12_inWorld_5 rfl rfl ?_
  refine o_i2l C hz1 dX12_inWorld_6 ?_
  refine o_lconst (v := 0) C dX12_inWorld_7 rfl ?_
  refine o_aload_n C 0 dX12_inWorld_8 rfl rfl ?_
  refine o_getI (j := 37) C kt_53 rfl rfl (Nat.le_of_ble_eq_true rfl) lkf_RX12_319 dX12_inWorld_9 ?_
  refine o_iconst C dX12_inWorld_12 ?_
  refine o_isub C dX12_inWorld_13 ?_
  refine o_i2l C (r32_w _) dX12_inWorld_14 ?_
  refine o_cSI C [vJ z1, vJ 0, vJ (w32 ((μ1.2 53 37) - 1))] mb_X12_in (by decide) (fun _ hu => c_X12_in (r32_r64 hz1) ⟨by decide, by decide⟩ (r32_r64 (r32_w _)) hμ1 hu) rfl (Nat.le_of_ble_eq_true rfl) h ms_X12_in lkm_RX12_140 rfl rfl dX12_inWorld_15 (fun x2 μ3 hx2 hμ3 h => ?_)
  refine o_if_eq (tgt := 29) C hx2 dX12_inWorld_18 (by decide) h (fun _ h => ?_) (fun _ h => ?_)
  · refine o_ldc (v := (-10000001)) C lkc_RX12_159 rfl dX12_inWorld_29 ?_
    exact o_iret C hQ dX12_inWorld_31 h ⟨by decide, by decide⟩ hμ3
  · refine o_aload_n C 0 dX12_inWorld_21 rfl rfl ?_
    refine o_iload_n C 2 dX12_inWorld_22 rfl rfl ?_
    refine o_cVI C [vI z2] mb_X12_noCell (by decide) (fun _ hu => c_X12_noCell hz2 hμ3 hu) rfl (Nat.le_of_ble_eq_true rfl) h mi_X12_noCell me_X12_noCell lkm_RX12_155 kt_53 rfl rfl rfl dX12_inWorld_23 (fun x4 μ5 hx4 hμ5 h => ?_)
    refine o_if_eq (tgt := 32) C hx4 dX12_inWorld_26 (by decide) h (fun _ h => ?_) (fun _ h => ?_)
    · refine o_aload_n C 0 dX12_inWorld_32 rfl rfl ?_
      refine o_iload_n C 1 dX12_inWorld_33 rfl rfl ?_
      refine o_cVI C [vI z1] mb_X12_restsIn (by decide) (fun _ hu => c_X12_restsIn hz1 hμ5 hu) rfl (Nat.le_of_ble_eq_true rfl) h mi_X12_restsIn me_X12_restsIn lkm_RX12_327 kt_53 rfl rfl rfl dX12_inWorld_34 (fun x6 μ7 hx6 hμ7 h => ?_)
      refine o_if_eq (tgt := 53) C hx6 dX12_inWorld_37 (by decide) h (fun _ h => ?_) (fun _ h => ?_)
      · refine o_ldc (v := (-10000003)) C lkc_RX12_163 rfl dX12_inWorld_53 ?_
        exact o_iret C hQ dX12_inWorld_55 h ⟨by decide, by decide⟩ hμ7
      · refine o_aload_n C 0 dX12_inWorld_40 rfl rfl ?_
        refine o_aload_n C 0 dX12_inWorld_41 rfl rfl ?_
        refine o_getR (j := 23) C kt_53 rfl rfl (Nat.le_of_ble_eq_true rfl) lkf_RX12_61 dX12_inWorld_42 ?_
        refine o_iload_n C 2 dX12_inWorld_45 rfl rfl ?_
        refine o_lald C kt_71 rfl hz2 dX12_inWorld_46 h (fun h => ?_)
        refine o_cVI C [vJ (μ7.1 71 z2)] mb_X12_milliOf (by decide) (fun _ hu => c_X12_milliOf (hμ7.l kt_71 _) hμ7 hu) rfl (Nat.le_of_ble_eq_true rfl) h mi_X12_milliOf me_X12_milliOf lkm_RX12_243 kt_53 rfl rfl rfl dX12_inWorld_47 (fun x8 μ9 hx8 hμ9 h => ?_)
        refine o_goto (tgt := 55) C dX12_inWorld_50 (by decide) ?_
        exact o_iret C hQ dX12_inWorld_55 h hx8 hμ9
    · refine o_ldc (v := (-10000001)) C lkc_RX12_159 rfl dX12_inWorld_29 ?_
      exact o_iret C hQ dX12_inWorld_31 h ⟨by decide, by decide⟩ hμ5
theorem c_X12_inWorld {z1 : Int} (hz1 : r32 z1) {z2 : Int} (hz2 : r32 z2) {μ : GM} (hμ : gRg μ) {u : Int × GM} (h : f_X12_inWorld z1 z2 μ = some u) : MtI 5 yX12_inWorld cX12_inWorld 3 (some .int) (fun ad => [.ref (ad 53), vI z1, vI z2]) μ u := MtI.of pf_X12_inWorld (fun _ => Nat.le_of_ble_eq_true rfl) (fun G C hQ => w_X12_inWorld_0 C hQ hz1 hz2 hμ h)
def k_X12_alikeOf_20 (kL5 : Int → Int → Int → Int → GM → Option (Int × GM)) : Nat → Int → Int → Int → Int → Int → Int → GM → Option (Int × GM)
  | 0, _, _, _, _, _, _, _ => none
  | n + 1, z1, z2, z3, z4, z5, z6, μ =>
    if z6 < (μ.2 53 37) then
      if (gand (gand (gshr z1 z4) (gshr z1 z6)) 1) = 1 then
        ck (0 ≤ (w32 ((w32 (6 * z4)) + z2)) ∧ (w32 ((w32 (6 * z4)) + z2)) < 30) (
        ck (0 ≤ (w32 ((w32 (6 * z6)) + z2)) ∧ (w32 ((w32 (6 * z6)) + z2)) < 30) (
        if (μ.1 87 (w32 ((w32 (6 * z4)) + z2))) = (μ.1 87 (w32 ((w32 (6 * z6)) + z2))) then
          lt (w32 (z5 + 1)) fun x7 =>
          lt (w32 (z6 + 1)) fun x8 =>
          k_X12_alikeOf_20 kL5 n z1 z2 z3 z4 x7 x8 μ
        else
          lt (w32 (z5 + 0)) fun x5 =>
          lt (w32 (z6 + 1)) fun x6 =>
          k_X12_alikeOf_20 kL5 n z1 z2 z3 z4 x5 x6 μ))
      else
        lt (w32 (z5 + 0)) fun x3 =>
        lt (w32 (z6 + 1)) fun x4 =>
        k_X12_alikeOf_20 kL5 n z1 z2 z3 z4 x3 x4 μ
    else
      if z3 < z5 then
        lt (w32 (z4 + 1)) fun x2 =>
        kL5 z1 z2 z5 x2 μ
      else
        lt (w32 (z4 + 1)) fun x1 =>
        kL5 z1 z2 z3 x1 μ
set_option maxHeartbeats 4000000 in
set_option maxRecDepth 100000 in
theorem w_X12_alikeOf_20 {G : GX} {u : Int × GM} (C : CX G 0 cX12_alikeOf 7 RX12) (hQ : gQI G (some .int) u) {kL5 : Int → Int → Int → Int → GM → Option (Int × GM)} (hL5 : ∀ (z1 : Int) (hz1 : r32 z1) (z2 : Int) (hz2 : r32 z2) (z3 : Int) (hz3 : r32 z3) (z4 : Int) (hz4 : r32 z4) (μ : GM) (hμ : gRg μ), kL5 z1 z2 z3 z4 μ = some u → WM G 7 μ 5 [(0, gR G 53), (1, vI z1), (2, vI z2), (3, vI z3), (4, vI z4)] []) : ∀ (n : Nat) (z1 : Int) (hz1 : r32 z1) (z2 : Int) (hz2 : r32 z2) (z3 : Int) (hz3 : r32 z3) (z4 : Int) (hz4 : r32 z4) (z5 : Int) (hz5 : r32 z5) (z6 : Int) (hz6 : r32 z6) (μ : GM) (hμ : gRg μ), k_X12_alikeOf_20 kL5 n z1 z2 z3 z4 z5 z6 μ = some u → WM G 7 μ 20 [(0, gR G 53), (1, vI z1), (2, vI z2), (3, vI z3), (4, vI z4), (5, vI z5), (6, vI z6)] [] := by
  intro n
  induction n with
  | zero =>
    intro z1 hz1 z2 hz2 z3 hz3 z4 hz4 z5 hz5 z6 hz6 μ hμ h
    cases h
  | succ n ih =>
    intro z1 hz1 z2 hz2 z3 hz3 z4 hz4 z5 hz5 z6 hz6 μ hμ h
    rw [k_X12_alikeOf_20] at h
    refine o_iload C 6 dX12_alikeOf_20 rfl ?_
    refine o_aload_n C 0 dX12_alikeOf_22 rfl rfl ?_
    refine o_getI (j := 37) C kt_53 rfl rfl (Nat.le_of_ble_eq_true rfl) lkf_RX12_319 dX12_alikeOf_23 ?_
    refine o_icmp_ge (tgt := 87) C hz6 (hμ.fi kt_53 rfl (by decide)) dX12_alikeOf_26 (by decide) h (fun _ h => ?_) (fun _ h => ?_)
    · refine o_iload C 5 dX12_alikeOf_87 rfl ?_
      refine o_iload_n C 3 dX12_alikeOf_89 rfl rfl ?_
      refine o_icmp_le (tgt := 98) C hz5 hz3 dX12_alikeOf_90 (by decide) h (fun _ h => ?_) (fun _ h => ?_)
      · refine o_iload_n C 3 dX12_alikeOf_98 rfl rfl ?_
        refine o_istore_n (lv2 := [(3, vI z3), (0, gR G 53), (1, vI z1), (2, vI z2), (4, vI z4), (5, vI z5), (6, vI z6)]) C dX12_alikeOf_99 rfl (by decide) rfl ?_
        refine o_iinc (lv2 := fun x1 => [(4, vI x1), (3, vI z3), (0, gR G 53), (1, vI z1), (2, vI z2), (5, vI z5), (6, vI z6)]) C 4 dX12_alikeOf_100 rfl (by decide) (fun _ => rfl) h (fun x1 hx1 h => ?_)
        refine o_goto (tgt := 5) C dX12_alikeOf_103 (by decide) ?_
        exact WM.sub [2, 3, 4, 1, 0] rfl (hL5 z1 hz1 z2 hz2 z3 hz3 x1 hx1 μ hμ h)
      · refine o_iload C 5 dX12_alikeOf_93 rfl ?_
        refine o_goto (tgt := 99) C dX12_alikeOf_95 (by decide) ?_
        refine o_istore_n (lv2 := [(3, vI z5), (0, gR G 53), (1, vI z1), (2, vI z2), (4, vI z4), (5, vI z5), (6, vI z6)]) C dX12_alikeOf_99 rfl (by decide) rfl ?_
        refine o_iinc (lv2 := fun x2 => [(4, vI x2), (3, vI z5), (0, gR G 53), (1, vI z1), (2, vI z2), (5, vI z5), (6, vI z6)]) C 4 dX12_alikeOf_100 rfl (by decide) (fun _ => rfl) h (fun x2 hx2 h => ?_)
        refine o_goto (tgt := 5) C dX12_alikeOf_103 (by decide) ?_
        exact WM.sub [2, 3, 4, 1, 0] rfl (hL5 z1 hz1 z2 hz2 z5 hz5 x2 hx2 μ hμ h)
    · refine o_iload C 5 dX12_alikeOf_29 rfl ?_
      refine o_iload_n C 1 dX12_alikeOf_31 rfl rfl ?_
      refine o_iload C 4 dX12_alikeOf_32 rfl ?_
      refine o_ishr C dX12_alikeOf_34 ?_
      refine o_iload_n C 1 dX12_alikeOf_35 rfl rfl ?_
      refine o_iload C 6 dX12_alikeOf_36 rfl ?_
      refine o_ishr C dX12_alikeOf_38 ?_
      refine o_iand C dX12_alikeOf_39 ?_
      refine o_iconst C dX12_alikeOf_40 ?_
      refine o_iand C dX12_alikeOf_41 ?_
      refine o_iconst C dX12_alikeOf_42 ?_
      refine o_icmp_ne (tgt := 77) C (r32_toInt _) ⟨by decide, by decide⟩ dX12_alikeOf_43 (by decide) h (fun _ h => ?_) (fun _ h => ?_)
      · refine o_iconst C dX12_alikeOf_77 ?_
        refine o_iadd C dX12_alikeOf_78 ?_
        refine o_lt h (r32_w _) (fun x3 hx3 h => ?_)
        refine o_istore (lv2 := [(5, vI x3), (0, gR G 53), (1, vI z1), (2, vI z2), (3, vI z3), (4, vI z4), (6, vI z6)]) C dX12_alikeOf_79 (by decide) rfl ?_
        refine o_iinc (lv2 := fun x4 => [(6, vI x4), (5, vI x3), (0, gR G 53), (1, vI z1), (2, vI z2), (3, vI z3), (4, vI z4)]) C 6 dX12_alikeOf_81 rfl (by decide) (fun _ => rfl) h (fun x4 hx4 h => ?_)
        refine o_goto (tgt := 20) C dX12_alikeOf_84 (by decide) ?_
        exact WM.sub [2, 3, 4, 5, 6, 1, 0] rfl (ih z1 hz1 z2 hz2 z3 hz3 z4 hz4 x3 hx3 x4 hx4 μ hμ h)
      · refine o_aload_n C 0 dX12_alikeOf_46 rfl rfl ?_
        refine o_getR (j := 43) C kt_53 rfl rfl (Nat.le_of_ble_eq_true rfl) lkf_RX12_111 dX12_alikeOf_47 ?_
        refine o_bipush (v := 6) C dX12_alikeOf_50 (by decide) ?_
        refine o_iload C 4 dX12_alikeOf_52 rfl ?_
        refine o_imul C dX12_alikeOf_54 ?_
        refine o_iload_n C 2 dX12_alikeOf_55 rfl rfl ?_
        refine o_iadd C dX12_alikeOf_56 ?_
        refine o_iald C kt_87 rfl (r32_w _) dX12_alikeOf_57 h (fun h => ?_)
        refine o_aload_n C 0 dX12_alikeOf_58 rfl rfl ?_
        refine o_getR (j := 43) C kt_53 rfl rfl (Nat.le_of_ble_eq_true rfl) lkf_RX12_111 dX12_alikeOf_59 ?_
        refine o_bipush (v := 6) C dX12_alikeOf_62 (by decide) ?_
        refine o_iload C 6 dX12_alikeOf_64 rfl ?_
        refine o_imul C dX12_alikeOf_66 ?_
        refine o_iload_n C 2 dX12_alikeOf_67 rfl rfl ?_
        refine o_iadd C dX12_alikeOf_68 ?_
        refine o_iald C kt_87 rfl (r32_w _) dX12_alikeOf_69 h (fun h => ?_)
        refine o_icmp_ne (tgt := 77) C (hμ.i kt_87 (by decide) _) (hμ.i kt_87 (by decide) _) dX12_alikeOf_70 (by decide) h (fun _ h => ?_) (fun _ h => ?_)
        · refine o_iconst C dX12_alikeOf_77 ?_
          refine o_iadd C dX12_alikeOf_78 ?_
          refine o_lt h (r32_w _) (fun x5 hx5 h => ?_)
          refine o_istore (lv2 := [(5, vI x5), (0, gR G 53), (1, vI z1), (2, vI z2), (3, vI z3), (4, vI z4), (6, vI z6)]) C dX12_alikeOf_79 (by decide) rfl ?_
          refine o_iinc (lv2 := fun x6 => [(6, vI x6), (5, vI x5), (0, gR G 53), (1, vI z1), (2, vI z2), (3, vI z3), (4, vI z4)]) C 6 dX12_alikeOf_81 rfl (by decide) (fun _ => rfl) h (fun x6 hx6 h => ?_)
          refine o_goto (tgt := 20) C dX12_alikeOf_84 (by decide) ?_
          exact WM.sub [2, 3, 4, 5, 6, 1, 0] rfl (ih z1 hz1 z2 hz2 z3 hz3 z4 hz4 x5 hx5 x6 hx6 μ hμ h)
        · refine o_iconst C dX12_alikeOf_73 ?_
          refine o_goto (tgt := 78) C dX12_alikeOf_74 (by decide) ?_
          refine o_iadd C dX12_alikeOf_78 ?_
          refine o_lt h (r32_w _) (fun x7 hx7 h => ?_)
          refine o_istore (lv2 := [(5, vI x7), (0, gR G 53), (1, vI z1), (2, vI z2), (3, vI z3), (4, vI z4), (6, vI z6)]) C dX12_alikeOf_79 (by decide) rfl ?_
          refine o_iinc (lv2 := fun x8 => [(6, vI x8), (5, vI x7), (0, gR G 53), (1, vI z1), (2, vI z2), (3, vI z3), (4, vI z4)]) C 6 dX12_alikeOf_81 rfl (by decide) (fun _ => rfl) h (fun x8 hx8 h => ?_)
          refine o_goto (tgt := 20) C dX12_alikeOf_84 (by decide) ?_
          exact WM.sub [2, 3, 4, 5, 6, 1, 0] rfl (ih z1 hz1 z2 hz2 z3 hz3 z4 hz4 x7 hx7 x8 hx8 μ hμ h)
def k_X12_alikeOf_5 : Nat → Int → Int → Int → Int → GM → Option (Int × GM)
  | 0, _, _, _, _, _ => none
  | n + 1, z1, z2, z3, z4, μ =>
    if z4 < (μ.2 53 37) then
      k_X12_alikeOf_20 (k_X12_alikeOf_5 n) FU z1 z2 z3 z4 0 0 μ
    else
      some (z3, μ)
set_option maxHeartbeats 4000000 in
set_option maxRecDepth 100000 in
theorem w_X12_alikeOf_5 {G : GX} {u : Int × GM} (C : CX G 0 cX12_alikeOf 7 RX12) (hQ : gQI G (some .int) u) : ∀ (n : Nat) (z1 : Int) (hz1 : r32 z1) (z2 : Int) (hz2 : r32 z2) (z3 : Int) (hz3 : r32 z3) (z4 : Int) (hz4 : r32 z4) (μ : GM) (hμ : gRg μ), k_X12_alikeOf_5 n z1 z2 z3 z4 μ = some u → WM G 7 μ 5 [(0, gR G 53), (1, vI z1), (2, vI z2), (3, vI z3), (4, vI z4)] [] := by
  intro n
  induction n with
  | zero =>
    intro z1 hz1 z2 hz2 z3 hz3 z4 hz4 μ hμ h
    cases h
  | succ n ih =>
    intro z1 hz1 z2 hz2 z3 hz3 z4 hz4 μ hμ h
    rw [k_X12_alikeOf_5] at h
    refine o_iload C 4 dX12_alikeOf_5 rfl ?_
    refine o_aload_n C 0 dX12_alikeOf_7 rfl rfl ?_
    refine o_getI (j := 37) C kt_53 rfl rfl (Nat.le_of_ble_eq_true rfl) lkf_RX12_319 dX12_alikeOf_8 ?_
    refine o_icmp_ge (tgt := 106) C hz4 (hμ.fi kt_53 rfl (by decide)) dX12_alikeOf_11 (by decide) h (fun _ h => ?_) (fun _ h => ?_)
    · refine o_iload_n C 3 dX12_alikeOf_106 rfl rfl ?_
      exact o_iret C hQ dX12_alikeOf_107 h hz3 hμ
    · refine o_iconst C dX12_alikeOf_14 ?_
      refine o_istore (lv2 := [(5, vI 0), (0, gR G 53), (1, vI z1), (2, vI z2), (3, vI z3), (4, vI z4)]) C dX12_alikeOf_15 (by decide) rfl ?_
      refine o_iconst C dX12_alikeOf_17 ?_
      refine o_istore (lv2 := [(6, vI 0), (5, vI 0), (0, gR G 53), (1, vI z1), (2, vI z2), (3, vI z3), (4, vI z4)]) C dX12_alikeOf_18 (by decide) rfl ?_
      exact WM.sub [2, 3, 4, 5, 6, 1, 0] rfl (w_X12_alikeOf_20 C hQ ih FU z1 hz1 z2 hz2 z3 hz3 z4 hz4 0 ⟨by decide, by decide⟩ 0 ⟨by decide, by decide⟩ μ hμ h)
def f_X12_alikeOf (z1 : Int) (z2 : Int) (μ : GM) : Option (Int × GM) :=
  k_X12_alikeOf_5 FU z1 z2 0 0 μ
set_option maxHeartbeats 4000000 in
set_option maxRecDepth 100000 in
theorem w_X12_alikeOf_0 {G : GX} {u : Int × GM} (C : CX G 0 cX12_alikeOf 7 RX12) (hQ : gQI G (some .int) u) {z1 : Int} (hz1 : r32 z1) {z2 : Int} (hz2 : r32 z2) {μ : GM} (hμ : gRg μ) (h : f_X12_alikeOf z1 z2 μ = some u) : WM G 7 μ 0 [(0, gR G 53), (1, vI z1), (2, vI z2)] [] := by
  unfold f_X12_alikeOf at h
  refine o_iconst C dX12_alikeOf_0 ?_
  refine o_istore_n (lv2 := [(3, vI 0), (0, gR G 53), (1, vI z1), (2, vI z2)]) C dX12_alikeOf_1 rfl (by decide) rfl ?_
  refine o_iconst C dX12_alikeOf_2 ?_
  refine o_istore (lv2 := [(4, vI 0), (3, vI 0), (0, gR G 53), (1, vI z1), (2, vI z2)]) C dX12_alikeOf_3 (by decide) rfl ?_
  exact WM.sub [2, 3, 4, 1, 0] rfl (w_X12_alikeOf_5 C hQ FU z1 hz1 z2 hz2 0 ⟨by decide, by decide⟩ 0 ⟨by decide, by decide⟩ μ hμ h)
theorem c_X12_alikeOf {z1 : Int} (hz1 : r32 z1) {z2 : Int} (hz2 : r32 z2) {μ : GM} (hμ : gRg μ) {u : Int × GM} (h : f_X12_alikeOf z1 z2 μ = some u) : MtI 0 yX12_alikeOf cX12_alikeOf 7 (some .int) (fun ad => [.ref (ad 53), vI z1, vI z2]) μ u := MtI.of pf_X12_alikeOf (fun _ => Nat.le_of_ble_eq_true rfl) (fun G C hQ => w_X12_alikeOf_0 C hQ hz1 hz2 hμ h)
def k_X12_next_15 : Nat → Int → Int → Int → GM → Option (Int × GM)
  | 0, _, _, _, _ => none
  | n + 1, z1, z2, z3, μ =>
    if z3 < (μ.2 53 1) then
      if z1 = 0 then
        some (z2, μ)
      else
        ck (0 ≤ z3 ∧ z3 < 6) (
        if (μ.1 84 z3) = 0 then
          if z2 = (-10000009) then
            lt (w32 (z3 + 1)) fun x2 =>
            k_X12_next_15 n z1 z3 x2 μ
          else
            bd (f_X12_alikeOf z1 z3 μ) fun x3 μ4 =>
            bd (f_X12_alikeOf z1 z2 μ4) fun x5 μ6 =>
            if x3 < x5 then
              lt (w32 (z3 + 1)) fun x8 =>
              k_X12_next_15 n z1 z3 x8 μ6
            else
              lt (w32 (z3 + 1)) fun x7 =>
              k_X12_next_15 n z1 z2 x7 μ6
        else
          lt (w32 (z3 + 1)) fun x1 =>
          k_X12_next_15 n z1 z2 x1 μ)
    else
      some (z2, μ)
set_option maxHeartbeats 4000000 in
set_option maxRecDepth 100000 in
theorem w_X12_next_15 {G : GX} {u : Int × GM} (C : CX G 6 cX12_next 4 RX12) (hQ : gQI G (some .int) u) : ∀ (n : Nat) (z1 : Int) (hz1 : r32 z1) (z2 : Int) (hz2 : r32 z2) (z3 : Int) (hz3 : r32 z3) (μ : GM) (hμ : gRg μ), k_X12_next_15 n z1 z2 z3 μ = some u → WM G 4 μ 15 [(0, gR G 53), (1, vI z1), (2, vI z2), (3, vI z3)] [] := by
  intro n
  induction n with
  | zero =>
    intro z1 hz1 z2 hz2 z3 hz3 μ hμ h
    cases h
  | succ n ih =>
    intro z1 hz1 z2 hz2 z3 hz3 μ hμ h
    rw [k_X12_next_15] at h
    refine o_iload_n C 3 dX12_next_15 rfl rfl ?_
    refine o_aload_n C 0 dX12_next_16 rfl rfl ?_
    refine o_getI (j := 1) C kt_53 rfl rfl (Nat.le_of_ble_eq_true rfl) lkf_RX12_137 dX12_next_17 ?_
    refine o_icmp_ge (tgt := 69) C hz3 (hμ.fi kt_53 rfl (by decide)) dX12_next_20 (by decide) h (fun _ h => ?_) (fun _ h => ?_)
    · refine o_iload_n C 2 dX12_next_69 rfl rfl ?_
      exact o_iret C hQ dX12_next_70 h hz2 hμ
    · refine o_iload_n C 1 dX12_next_23 rfl rfl ?_
      refine o_if_eq (tgt := 69) C hz1 dX12_next_24 (by decide) h (fun _ h => ?_) (fun _ h => ?_)
      · refine o_iload_n C 2 dX12_next_69 rfl rfl ?_
        exact o_iret C hQ dX12_next_70 h hz2 hμ
      · refine o_aload_n C 0 dX12_next_27 rfl rfl ?_
        refine o_getR (j := 40) C kt_53 rfl rfl (Nat.le_of_ble_eq_true rfl) lkf_RX12_101 dX12_next_28 ?_
        refine o_iload_n C 3 dX12_next_31 rfl rfl ?_
        refine o_zald C kt_84 rfl hz3 dX12_next_32 h (fun h => ?_)
        refine o_if_ne (tgt := 61) C (hμ.i kt_84 (by decide) _) dX12_next_33 (by decide) h (fun _ h => ?_) (fun _ h => ?_)
        · refine o_iload_n C 2 dX12_next_61 rfl rfl ?_
          refine o_istore_n (lv2 := [(2, vI z2), (0, gR G 53), (1, vI z1), (3, vI z3)]) C dX12_next_62 rfl (by decide) rfl ?_
          refine o_iinc (lv2 := fun x1 => [(3, vI x1), (2, vI z2), (0, gR G 53), (1, vI z1)]) C 3 dX12_next_63 rfl (by decide) (fun _ => rfl) h (fun x1 hx1 h => ?_)
          refine o_goto (tgt := 15) C dX12_next_66 (by decide) ?_
          exact WM.sub [2, 3, 1, 0] rfl (ih z1 hz1 z2 hz2 x1 hx1 μ hμ h)
        · refine o_iload_n C 2 dX12_next_36 rfl rfl ?_
          refine o_ldc (v := (-10000009)) C lkc_RX12_132 rfl dX12_next_37 ?_
          refine o_icmp_eq (tgt := 57) C hz2 ⟨by decide, by decide⟩ dX12_next_39 (by decide) h (fun _ h => ?_) (fun _ h => ?_)
          · refine o_iload_n C 3 dX12_next_57 rfl rfl ?_
            refine o_goto (tgt := 62) C dX12_next_58 (by decide) ?_
            refine o_istore_n (lv2 := [(2, vI z3), (0, gR G 53), (1, vI z1), (3, vI z3)]) C dX12_next_62 rfl (by decide) rfl ?_
            refine o_iinc (lv2 := fun x2 => [(3, vI x2), (2, vI z3), (0, gR G 53), (1, vI z1)]) C 3 dX12_next_63 rfl (by decide) (fun _ => rfl) h (fun x2 hx2 h => ?_)
            refine o_goto (tgt := 15) C dX12_next_66 (by decide) ?_
            exact WM.sub [2, 3, 1, 0] rfl (ih z1 hz1 z3 hz3 x2 hx2 μ hμ h)
          · refine o_aload_n C 0 dX12_next_42 rfl rfl ?_
            refine o_iload_n C 1 dX12_next_43 rfl rfl ?_
            refine o_iload_n C 3 dX12_next_44 rfl rfl ?_
            refine o_cVI C [vI z1, vI z3] mb_X12_alikeOf (by decide) (fun _ hu => c_X12_alikeOf hz1 hz3 hμ hu) rfl (Nat.le_of_ble_eq_true rfl) h mi_X12_alikeOf me_X12_alikeOf lkm_RX12_333 kt_53 rfl rfl rfl dX12_next_45 (fun x3 μ4 hx3 hμ4 h => ?_)
            refine o_aload_n C 0 dX12_next_48 rfl rfl ?_
            refine o_iload_n C 1 dX12_next_49 rfl rfl ?_
            refine o_iload_n C 2 dX12_next_50 rfl rfl ?_
            refine o_cVI C [vI z1, vI z2] mb_X12_alikeOf (by decide) (fun _ hu => c_X12_alikeOf hz1 hz2 hμ4 hu) rfl (Nat.le_of_ble_eq_true rfl) h mi_X12_alikeOf me_X12_alikeOf lkm_RX12_333 kt_53 rfl rfl rfl dX12_next_51 (fun x5 μ6 hx5 hμ6 h => ?_)
            refine o_icmp_ge (tgt := 61) C hx3 hx5 dX12_next_54 (by decide) h (fun _ h => ?_) (fun _ h => ?_)
            · refine o_iload_n C 2 dX12_next_61 rfl rfl ?_
              refine o_istore_n (lv2 := [(2, vI z2), (0, gR G 53), (1, vI z1), (3, vI z3)]) C dX12_next_62 rfl (by decide) rfl ?_
              refine o_iinc (lv2 := fun x7 => [(3, vI x7), (2, vI z2), (0, gR G 53), (1, vI z1)]) C 3 dX12_next_63 rfl (by decide) (fun _ => rfl) h (fun x7 hx7 h => ?_)
              refine o_goto (tgt := 15) C dX12_next_66 (by decide) ?_
              exact WM.sub [2, 3, 1, 0] rfl (ih z1 hz1 z2 hz2 x7 hx7 μ6 hμ6 h)
            · refine o_iload_n C 3 dX12_next_57 rfl rfl ?_
              refine o_goto (tgt := 62) C dX12_next_58 (by decide) ?_
              refine o_istore_n (lv2 := [(2, vI z3), (0, gR G 53), (1, vI z1), (3, vI z3)]) C dX12_next_62 rfl (by decide) rfl ?_
              refine o_iinc (lv2 := fun x8 => [(3, vI x8), (2, vI z3), (0, gR G 53), (1, vI z1)]) C 3 dX12_next_63 rfl (by decide) (fun _ => rfl) h (fun x8 hx8 h => ?_)
              refine o_goto (tgt := 15) C dX12_next_66 (by decide) ?_
              exact WM.sub [2, 3, 1, 0] rfl (ih z1 hz1 z3 hz3 x8 hx8 μ6 hμ6 h)
def f_X12_next (μ : GM) : Option (Int × GM) :=
  lm (gF μ 53 0 0) fun μ1 =>
  bd (f_X12_leftOf μ1) fun x2 μ3 =>
  k_X12_next_15 FU x2 (-10000009) 0 μ3
set_option maxHeartbeats 4000000 in
set_option maxRecDepth 100000 in
theorem w_X12_next_0 {G : GX} {u : Int × GM} (C : CX G 6 cX12_next 4 RX12) (hQ : gQI G (some .int) u) {μ : GM} (hμ : gRg μ) (h : f_X12_next μ = some u) : WM G 4 μ 0 [(0, gR G 53)] [] := by
  unfold f_X12_next at h
  refine o_aload_n C 0 dX12_next_0 rfl rfl ?_
  refine o_iconst C dX12_next_1 ?_
  refine o_putI (j := 0) C kt_53 rfl rfl tyX12_ok nmX12 (Nat.le_of_ble_eq_true rfl) lkf_RX12_133 rfl rfl ⟨by decide, by decide⟩ hμ dX12_next_2 h (fun μ1 hμ1 h => ?_)
  refine o_aload_n C 0 dX12_next_5 rfl rfl ?_
  refine o_cVI C [] mb_X12_leftOf (by decide) (fun _ hu => c_X12_leftOf hμ1 hu) rfl (Nat.le_of_ble_eq_true rfl) h mi_X12_leftOf me_X12_leftOf lkm_RX12_330 kt_53 rfl rfl rfl dX12_next_6 (fun x2 μ3 hx2 hμ3 h => ?_)
  refine o_istore_n (lv2 := [(1, vI x2), (0, gR G 53)]) C dX12_next_9 rfl (by decide) rfl ?_
  refine o_ldc (v := (-10000009)) C lkc_RX12_132 rfl dX12_next_10 ?_
  refine o_istore_n (lv2 := [(2, vI (-10000009)), (1, vI x2), (0, gR G 53)]) C dX12_next_12 rfl (by decide) rfl ?_
  refine o_iconst C dX12_next_13 ?_
  refine o_istore_n (lv2 := [(3, vI 0), (2, vI (-10000009)), (1, vI x2), (0, gR G 53)]) C dX12_next_14 rfl (by decide) rfl ?_
  exact WM.sub [3, 2, 1, 0] rfl (w_X12_next_15 C hQ FU x2 hx2 (-10000009) ⟨by decide, by decide⟩ 0 ⟨by decide, by decide⟩ μ3 hμ3 h)
theorem c_X12_next {μ : GM} (hμ : gRg μ) {u : Int × GM} (h : f_X12_next μ = some u) : MtI 6 yX12_next cX12_next 4 (some .int) (fun ad => [.ref (ad 53)]) μ u := MtI.of pf_X12_next (fun _ => Nat.le_of_ble_eq_true rfl) (fun G C hQ => w_X12_next_0 C hQ hμ h)
def f_X12_alike (z1 : Int) (μ : GM) : Option (Int × GM) :=
  lm (gF μ 53 0 0) fun μ1 =>
  bd (f_X12_noCell z1 μ1) fun x2 μ3 =>
  if x2 = 0 then
    bd (f_X12_leftOf μ3) fun x4 μ5 =>
    bd (f_X12_alikeOf x4 z1 μ5) fun x6 μ7 =>
    some (x6, μ7)
  else
    some ((-10000001), μ3)
set_option maxHeartbeats 4000000 in
set_option maxRecDepth 100000 in
theorem w_X12_alike_0 {G : GX} {u : Int × GM} (C : CX G 6 cX12_alike 2 RX12) (hQ : gQI G (some .int) u) {z1 : Int} (hz1 : r32 z1) {μ : GM} (hμ : gRg μ) (h : f_X12_alike z1 μ = some u) : WM G 2 μ 0 [(0, gR G 53), (1, vI z1)] [] := by
  unfold f_X12_alike at h
  refine o_aload_n C 0 dX12_alike_0 rfl rfl ?_
  refine o_iconst C dX12_alike_1 ?_
  refine o_putI (j := 0) C kt_53 rfl rfl tyX12_ok nmX12 (Nat.le_of_ble_eq_true rfl) lkf_RX12_133 rfl rfl ⟨by decide, by decide⟩ hμ dX12_alike_2 h (fun μ1 hμ1 h => ?_)
  refine o_aload_n C 0 dX12_alike_5 rfl rfl ?_
  refine o_iload_n C 1 dX12_alike_6 rfl rfl ?_
  refine o_cVI C [vI z1] mb_X12_noCell (by decide) (fun _ hu => c_X12_noCell hz1 hμ1 hu) rfl (Nat.le_of_ble_eq_true rfl) h mi_X12_noCell me_X12_noCell lkm_RX12_155 kt_53 rfl rfl rfl dX12_alike_7 (fun x2 μ3 hx2 hμ3 h => ?_)
  refine o_if_eq (tgt := 18) C hx2 dX12_alike_10 (by decide) h (fun _ h => ?_) (fun _ h => ?_)
  · refine o_aload_n C 0 dX12_alike_18 rfl rfl ?_
    refine o_aload_n C 0 dX12_alike_19 rfl rfl ?_
    refine o_cVI C [] mb_X12_leftOf (by decide) (fun _ hu => c_X12_leftOf hμ3 hu) rfl (Nat.le_of_ble_eq_true rfl) h mi_X12_leftOf me_X12_leftOf lkm_RX12_330 kt_53 rfl rfl rfl dX12_alike_20 (fun x4 μ5 hx4 hμ5 h => ?_)
    refine o_iload_n C 1 dX12_alike_23 rfl rfl ?_
    refine o_cVI C [vI x4, vI z1] mb_X12_alikeOf (by decide) (fun _ hu => c_X12_alikeOf hx4 hz1 hμ5 hu) rfl (Nat.le_of_ble_eq_true rfl) h mi_X12_alikeOf me_X12_alikeOf lkm_RX12_333 kt_53 rfl rfl rfl dX12_alike_24 (fun x6 μ7 hx6 hμ7 h => ?_)
    exact o_iret C hQ dX12_alike_27 h hx6 hμ7
  · refine o_ldc (v := (-10000001)) C lkc_RX12_159 rfl dX12_alike_13 ?_
    refine o_goto (tgt := 27) C dX12_alike_15 (by decide) ?_
    exact o_iret C hQ dX12_alike_27 h ⟨by decide, by decide⟩ hμ3
theorem c_X12_alike {z1 : Int} (hz1 : r32 z1) {μ : GM} (hμ : gRg μ) {u : Int × GM} (h : f_X12_alike z1 μ = some u) : MtI 6 yX12_alike cX12_alike 2 (some .int) (fun ad => [.ref (ad 53), vI z1]) μ u := MtI.of pf_X12_alike (fun _ => Nat.le_of_ble_eq_true rfl) (fun G C hQ => w_X12_alike_0 C hQ hz1 hμ h)
def f_X12_sign (z1 : Int) (μ : GM) : Option (Int × GM) :=
  lm (gF μ 53 0 0) fun μ1 =>
  bd (f_X12_in z1 32 126 μ1) fun x2 μ3 =>
  if x2 = 0 then
    some ((-10000002), μ3)
  else
    if (μ3.2 53 44) = 200 then
      some ((-10000004), μ3)
    else
      ck (0 ≤ (μ3.2 53 44) ∧ (μ3.2 53 44) < 200) (lm (gA μ3 88 (μ3.2 53 44) z1) fun μ4 =>
      lm (gF μ4 53 44 (w32 ((μ4.2 53 44) + 1))) fun μ5 =>
      some ((μ5.2 53 44), μ5))
set_option maxHeartbeats 4000000 in
set_option maxRecDepth 100000 in
theorem w_X12_sign_0 {G : GX} {u : Int × GM} (C : CX G 1 cX12_sign 2 RX12) (hQ : gQI G (some .int) u) {z1 : Int} (hz1 : r32 z1) {μ : GM} (hμ : gRg μ) (h : f_X12_sign z1 μ = some u) : WM G 2 μ 0 [(0, gR G 53), (1, vI z1)] [] := by
  unfold f_X12_sign at h
  refine o_aload_n C 0 dX12_sign_0 rfl rfl ?_
  refine o_iconst C dX12_sign_1 ?_
  refine o_putI (j := 0) C kt_53 rfl rfl tyX12_ok nmX12 (Nat.le_of_ble_eq_true rfl) lkf_RX12_133 rfl rfl ⟨by decide, by decide⟩ hμ dX12_sign_2 h (fun μ1 hμ1 h => ?_)
  refine o_iload_n C 1 dX12_sign_5 rfl rfl ?_
  refine o_i2l C hz1 dX12_sign_6 ?_
  refine o_ldc2 (v := 32) C lkc_RX12_336 rfl dX12_sign_7 ?_
  refine o_ldc2 (v := 126) C lkc_RX12_338 rfl dX12_sign_10 ?_
  refine o_cSI C [vJ z1, vJ 32, vJ 126] mb_X12_in (by decide) (fun _ hu => c_X12_in (r32_r64 hz1) ⟨by decide, by decide⟩ ⟨by decide, by decide⟩ hμ1 hu) rfl (Nat.le_of_ble_eq_true rfl) h ms_X12_in lkm_RX12_140 rfl rfl dX12_sign_13 (fun x2 μ3 hx2 hμ3 h => ?_)
  refine o_if_ne (tgt := 22) C hx2 dX12_sign_16 (by decide) h (fun _ h => ?_) (fun _ h => ?_)
  · refine o_aload_n C 0 dX12_sign_22 rfl rfl ?_
    refine o_getI (j := 44) C kt_53 rfl rfl (Nat.le_of_ble_eq_true rfl) lkf_RX12_340 dX12_sign_23 ?_
    refine o_sipush (v := 200) C dX12_sign_26 (by decide) ?_
    refine o_icmp_ne (tgt := 35) C (hμ3.fi kt_53 rfl (by decide)) ⟨by decide, by decide⟩ dX12_sign_29 (by decide) h (fun _ h => ?_) (fun _ h => ?_)
    · refine o_aload_n C 0 dX12_sign_35 rfl rfl ?_
      refine o_getR (j := 45) C kt_53 rfl rfl (Nat.le_of_ble_eq_true rfl) lkf_RX12_114 dX12_sign_36 ?_
      refine o_aload_n C 0 dX12_sign_39 rfl rfl ?_
      refine o_getI (j := 44) C kt_53 rfl rfl (Nat.le_of_ble_eq_true rfl) lkf_RX12_340 dX12_sign_40 ?_
      refine o_iload_n C 1 dX12_sign_43 rfl rfl ?_
      refine o_iast C kt_88 rfl (hμ3.fi kt_53 rfl (by decide)) hz1 hμ3 dX12_sign_44 h (fun μ4 hμ4 h => ?_)
      refine o_aload_n C 0 dX12_sign_45 rfl rfl ?_
      refine o_dupr C dX12_sign_46 ?_
      refine o_getI (j := 44) C kt_53 rfl rfl (Nat.le_of_ble_eq_true rfl) lkf_RX12_340 dX12_sign_47 ?_
      refine o_iconst C dX12_sign_50 ?_
      refine o_iadd C dX12_sign_51 ?_
      refine o_putI (j := 44) C kt_53 rfl rfl tyX12_ok nmX12 (Nat.le_of_ble_eq_true rfl) lkf_RX12_340 rfl rfl (r32_w _) hμ4 dX12_sign_52 h (fun μ5 hμ5 h => ?_)
      refine o_aload_n C 0 dX12_sign_55 rfl rfl ?_
      refine o_getI (j := 44) C kt_53 rfl rfl (Nat.le_of_ble_eq_true rfl) lkf_RX12_340 dX12_sign_56 ?_
      exact o_iret C hQ dX12_sign_59 h (hμ5.fi kt_53 rfl (by decide)) hμ5
    · refine o_ldc (v := (-10000004)) C lkc_RX12_154 rfl dX12_sign_32 ?_
      exact o_iret C hQ dX12_sign_34 h ⟨by decide, by decide⟩ hμ3
  · refine o_ldc (v := (-10000002)) C lkc_RX12_153 rfl dX12_sign_19 ?_
    exact o_iret C hQ dX12_sign_21 h ⟨by decide, by decide⟩ hμ3
theorem c_X12_sign {z1 : Int} (hz1 : r32 z1) {μ : GM} (hμ : gRg μ) {u : Int × GM} (h : f_X12_sign z1 μ = some u) : MtI 1 yX12_sign cX12_sign 2 (some .int) (fun ad => [.ref (ad 53), vI z1]) μ u := MtI.of pf_X12_sign (fun _ => Nat.le_of_ble_eq_true rfl) (fun G C hQ => w_X12_sign_0 C hQ hz1 hμ h)
def f_X12_wipe (μ : GM) : Option (Int × GM) :=
  lm (gF μ 53 0 0) fun μ1 =>
  lt (μ1.2 53 44) fun x2 =>
  lm (gF μ1 53 44 0) fun μ3 =>
  some (x2, μ3)
set_option maxHeartbeats 4000000 in
set_option maxRecDepth 100000 in
theorem w_X12_wipe_0 {G : GX} {u : Int × GM} (C : CX G 0 cX12_wipe 2 RX12) (hQ : gQI G (some .int) u) {μ : GM} (hμ : gRg μ) (h : f_X12_wipe μ = some u) : WM G 2 μ 0 [(0, gR G 53)] [] := by
  unfold f_X12_wipe at h
  refine o_aload_n C 0 dX12_wipe_0 rfl rfl ?_
  refine o_iconst C dX12_wipe_1 ?_
  refine o_putI (j := 0) C kt_53 rfl rfl tyX12_ok nmX12 (Nat.le_of_ble_eq_true rfl) lkf_RX12_133 rfl rfl ⟨by decide, by decide⟩ hμ dX12_wipe_2 h (fun μ1 hμ1 h => ?_)
  refine o_aload_n C 0 dX12_wipe_5 rfl rfl ?_
  refine o_getI (j := 44) C kt_53 rfl rfl (Nat.le_of_ble_eq_true rfl) lkf_RX12_340 dX12_wipe_6 ?_
  refine o_lt h (hμ1.fi kt_53 rfl (by decide)) (fun x2 hx2 h => ?_)
  refine o_istore_n (lv2 := [(1, vI x2), (0, gR G 53)]) C dX12_wipe_9 rfl (by decide) rfl ?_
  refine o_aload_n C 1 dX12_wipe_10 rfl rfl ?_
  refine o_iconst C dX12_wipe_11 ?_
  refine o_putI (j := 44) C kt_53 rfl rfl tyX12_ok nmX12 (Nat.le_of_ble_eq_true rfl) lkf_RX12_340 rfl rfl ⟨by decide, by decide⟩ hμ1 dX12_wipe_12 h (fun μ3 hμ3 h => ?_)
  refine o_iload_n C 0 dX12_wipe_15 rfl rfl ?_
  exact o_iret C hQ dX12_wipe_16 h hx2 hμ3
theorem c_X12_wipe {μ : GM} (hμ : gRg μ) {u : Int × GM} (h : f_X12_wipe μ = some u) : MtI 0 yX12_wipe cX12_wipe 2 (some .int) (fun ad => [.ref (ad 53)]) μ u := MtI.of pf_X12_wipe (fun _ => Nat.le_of_ble_eq_true rfl) (fun G C hQ => w_X12_wipe_0 C hQ hμ h)
def f_X12_isDigit (z0 : Int) (μ : GM) : Option (Int × GM) :=
  bd (f_X12_in z0 48 57 μ) fun x1 μ2 =>
  some (x1 % 2, μ2)
set_option maxHeartbeats 4000000 in
set_option maxRecDepth 100000 in
theorem w_X12_isDigit_0 {G : GX} {u : Int × GM} (C : CX G 1 cX12_isDigit 1 RX12) (hQ : gQI G (some .boolean) u) {z0 : Int} (hz0 : r32 z0) {μ : GM} (hμ : gRg μ) (h : f_X12_isDigit z0 μ = some u) : WM G 1 μ 0 [(0, vI z0)] [] := by
  unfold f_X12_isDigit at h
  refine o_iload_n C 0 dX12_isDigit_0 rfl rfl ?_
  refine o_i2l C hz0 dX12_isDigit_1 ?_
  refine o_ldc2 (v := 48) C lkc_RX12_343 rfl dX12_isDigit_2 ?_
  refine o_ldc2 (v := 57) C lkc_RX12_345 rfl dX12_isDigit_5 ?_
  refine o_cSI C [vJ z0, vJ 48, vJ 57] mb_X12_in (by decide) (fun _ hu => c_X12_in (r32_r64 hz0) ⟨by decide, by decide⟩ ⟨by decide, by decide⟩ hμ hu) rfl (Nat.le_of_ble_eq_true rfl) h ms_X12_in lkm_RX12_140 rfl rfl dX12_isDigit_8 (fun x1 μ2 hx1 hμ2 h => ?_)
  exact o_zret C hQ dX12_isDigit_11 h hμ2
theorem c_X12_isDigit {z0 : Int} (hz0 : r32 z0) {μ : GM} (hμ : gRg μ) {u : Int × GM} (h : f_X12_isDigit z0 μ = some u) : MtI 1 yX12_isDigit cX12_isDigit 1 (some .boolean) (fun ad => [vI z0]) μ u := MtI.of pf_X12_isDigit (fun _ => Nat.le_of_ble_eq_true rfl) (fun G C hQ => w_X12_isDigit_0 C hQ hz0 hμ h)
def f_X12_named (z1 : Int) (μ : GM) : Option (Int × GM) :=
  if z1 = 104 then
    some ((μ.2 53 1), μ)
  else
    if z1 = 113 then
      some ((μ.2 53 18), μ)
    else
      if z1 = 103 then
        some ((μ.2 53 9), μ)
      else
        if z1 = 100 then
          some ((μ.2 53 14), μ)
        else
          if z1 = 102 then
            if (μ.2 53 5) < 10 then
              some ((μ.2 53 5), μ)
            else
              some (10, μ)
          else
            some ((-10000009), μ)
set_option maxHeartbeats 4000000 in
set_option maxRecDepth 100000 in
theorem w_X12_named_0 {G : GX} {u : Int × GM} (C : CX G 0 cX12_named 2 RX12) (hQ : gQI G (some .int) u) {z1 : Int} (hz1 : r32 z1) {μ : GM} (hμ : gRg μ) (h : f_X12_named z1 μ = some u) : WM G 2 μ 0 [(0, gR G 53), (1, vI z1)] [] := by
  unfold f_X12_named at h
  refine o_iload_n C 1 dX12_named_0 rfl rfl ?_
  refine o_bipush (v := 104) C dX12_named_1 (by decide) ?_
  refine o_icmp_ne (tgt := 13) C hz1 ⟨by decide, by decide⟩ dX12_named_3 (by decide) h (fun _ h => ?_) (fun _ h => ?_)
  · refine o_iload_n C 1 dX12_named_13 rfl rfl ?_
    refine o_bipush (v := 113) C dX12_named_14 (by decide) ?_
    refine o_icmp_ne (tgt := 26) C hz1 ⟨by decide, by decide⟩ dX12_named_16 (by decide) h (fun _ h => ?_) (fun _ h => ?_)
    · refine o_iload_n C 1 dX12_named_26 rfl rfl ?_
      refine o_bipush (v := 103) C dX12_named_27 (by decide) ?_
      refine o_icmp_ne (tgt := 39) C hz1 ⟨by decide, by decide⟩ dX12_named_29 (by decide) h (fun _ h => ?_) (fun _ h => ?_)
      · refine o_iload_n C 1 dX12_named_39 rfl rfl ?_
        refine o_bipush (v := 100) C dX12_named_40 (by decide) ?_
        refine o_icmp_ne (tgt := 52) C hz1 ⟨by decide, by decide⟩ dX12_named_42 (by decide) h (fun _ h => ?_) (fun _ h => ?_)
        · refine o_iload_n C 1 dX12_named_52 rfl rfl ?_
          refine o_bipush (v := 102) C dX12_named_53 (by decide) ?_
          refine o_icmp_ne (tgt := 79) C hz1 ⟨by decide, by decide⟩ dX12_named_55 (by decide) h (fun _ h => ?_) (fun _ h => ?_)
          · refine o_ldc (v := (-10000009)) C lkc_RX12_132 rfl dX12_named_79 ?_
            exact o_iret C hQ dX12_named_81 h ⟨by decide, by decide⟩ hμ
          · refine o_aload_n C 0 dX12_named_58 rfl rfl ?_
            refine o_getI (j := 5) C kt_53 rfl rfl (Nat.le_of_ble_eq_true rfl) lkf_RX12_164 dX12_named_59 ?_
            refine o_bipush (v := 10) C dX12_named_62 (by decide) ?_
            refine o_icmp_ge (tgt := 74) C (hμ.fi kt_53 rfl (by decide)) ⟨by decide, by decide⟩ dX12_named_64 (by decide) h (fun _ h => ?_) (fun _ h => ?_)
            · refine o_bipush (v := 10) C dX12_named_74 (by decide) ?_
              refine o_goto (tgt := 81) C dX12_named_76 (by decide) ?_
              exact o_iret C hQ dX12_named_81 h ⟨by decide, by decide⟩ hμ
            · refine o_aload_n C 0 dX12_named_67 rfl rfl ?_
              refine o_getI (j := 5) C kt_53 rfl rfl (Nat.le_of_ble_eq_true rfl) lkf_RX12_164 dX12_named_68 ?_
              refine o_goto (tgt := 81) C dX12_named_71 (by decide) ?_
              exact o_iret C hQ dX12_named_81 h (hμ.fi kt_53 rfl (by decide)) hμ
        · refine o_aload_n C 0 dX12_named_45 rfl rfl ?_
          refine o_getI (j := 14) C kt_53 rfl rfl (Nat.le_of_ble_eq_true rfl) lkf_RX12_172 dX12_named_46 ?_
          refine o_goto (tgt := 81) C dX12_named_49 (by decide) ?_
          exact o_iret C hQ dX12_named_81 h (hμ.fi kt_53 rfl (by decide)) hμ
      · refine o_aload_n C 0 dX12_named_32 rfl rfl ?_
        refine o_getI (j := 9) C kt_53 rfl rfl (Nat.le_of_ble_eq_true rfl) lkf_RX12_169 dX12_named_33 ?_
        refine o_goto (tgt := 81) C dX12_named_36 (by decide) ?_
        exact o_iret C hQ dX12_named_81 h (hμ.fi kt_53 rfl (by decide)) hμ
    · refine o_aload_n C 0 dX12_named_19 rfl rfl ?_
      refine o_getI (j := 18) C kt_53 rfl rfl (Nat.le_of_ble_eq_true rfl) lkf_RX12_144 dX12_named_20 ?_
      refine o_goto (tgt := 81) C dX12_named_23 (by decide) ?_
      exact o_iret C hQ dX12_named_81 h (hμ.fi kt_53 rfl (by decide)) hμ
  · refine o_aload_n C 0 dX12_named_6 rfl rfl ?_
    refine o_getI (j := 1) C kt_53 rfl rfl (Nat.le_of_ble_eq_true rfl) lkf_RX12_137 dX12_named_7 ?_
    refine o_goto (tgt := 81) C dX12_named_10 (by decide) ?_
    exact o_iret C hQ dX12_named_81 h (hμ.fi kt_53 rfl (by decide)) hμ
theorem c_X12_named {z1 : Int} (hz1 : r32 z1) {μ : GM} (hμ : gRg μ) {u : Int × GM} (h : f_X12_named z1 μ = some u) : MtI 0 yX12_named cX12_named 2 (some .int) (fun ad => [.ref (ad 53), vI z1]) μ u := MtI.of pf_X12_named (fun _ => Nat.le_of_ble_eq_true rfl) (fun G C hQ => w_X12_named_0 C hQ hz1 hμ h)
def k_X12_faultOf_279 (kL9 : Int → Int → Int → Int → GM → Option (Int × GM)) (z2 : Int) (z3 : Int) (z4 : Int) (z6 : Int) (μ : GM) : Option (Int × GM) :=
  if z6 = (-10000009) then
    some (z4, μ)
  else
    lt (w32 (z4 + 1)) fun x1 =>
    kL9 z6 z2 z3 x1 μ
set_option maxHeartbeats 4000000 in
set_option maxRecDepth 100000 in
theorem w_X12_faultOf_279 {G : GX} {u : Int × GM} (C : CX G 2 cX12_faultOf 7 RX12) (hQ : gQI G (some .int) u) {kL9 : Int → Int → Int → Int → GM → Option (Int × GM)} (hL9 : ∀ (z1 : Int) (hz1 : r32 z1) (z2 : Int) (hz2 : r32 z2) (z3 : Int) (hz3 : r32 z3) (z4 : Int) (hz4 : r32 z4) (μ : GM) (hμ : gRg μ), kL9 z1 z2 z3 z4 μ = some u → WM G 7 μ 9 [(0, gR G 53), (1, vI z1), (2, vI z2), (3, vI z3), (4, vI z4)] []) {z2 : Int} (hz2 : r32 z2) {z3 : Int} (hz3 : r32 z3) {z4 : Int} (hz4 : r32 z4) {z6 : Int} (hz6 : r32 z6) {μ : GM} (hμ : gRg μ) (h : k_X12_faultOf_279 kL9 z2 z3 z4 z6 μ = some u) : WM G 7 μ 279 [(0, gR G 53), (2, vI z2), (3, vI z3), (4, vI z4), (6, vI z6)] [] := by
  unfold k_X12_faultOf_279 at h
  refine o_iload C 4 dX12_faultOf_279 rfl ?_
  refine o_ldc (v := (-10000009)) C lkc_RX12_132 rfl dX12_faultOf_281 ?_
  refine o_icmp_ne (tgt := 289) C hz6 ⟨by decide, by decide⟩ dX12_faultOf_283 (by decide) h (fun _ h => ?_) (fun _ h => ?_)
  · refine o_iload C 4 dX12_faultOf_289 rfl ?_
    refine o_istore_n (lv2 := [(1, vI z6), (0, gR G 53), (2, vI z2), (3, vI z3), (4, vI z4), (6, vI z6)]) C dX12_faultOf_291 rfl (by decide) rfl ?_
    refine o_iinc (lv2 := fun x1 => [(4, vI x1), (1, vI z6), (0, gR G 53), (2, vI z2), (3, vI z3), (6, vI z6)]) C 4 dX12_faultOf_292 rfl (by decide) (fun _ => rfl) h (fun x1 hx1 h => ?_)
    refine o_goto (tgt := 9) C dX12_faultOf_295 (by decide) ?_
    exact WM.sub [2, 1, 3, 4, 0] rfl (hL9 z6 hz6 z2 hz2 z3 hz3 x1 hx1 μ hμ h)
  · refine o_iload C 3 dX12_faultOf_286 rfl ?_
    exact o_iret C hQ dX12_faultOf_288 h hz4 hμ
def k_X12_faultOf_241 (kL9 : Int → Int → Int → Int → GM → Option (Int × GM)) (z2 : Int) (z3 : Int) (z4 : Int) (z5 : Int) (z6 : Int) (μ : GM) : Option (Int × GM) :=
  if z5 = 38 then
    k_X12_faultOf_279 kL9 z2 z3 z4 0 μ
  else
    if z5 = 124 then
      k_X12_faultOf_279 kL9 z2 z3 z4 0 μ
    else
      if z5 = 41 then
        if 0 < z2 then
          lt (w32 (z2 + (-1))) fun x1 =>
          k_X12_faultOf_279 kL9 x1 z3 z4 20 μ
        else
          k_X12_faultOf_279 kL9 z2 z3 z4 z6 μ
      else
        k_X12_faultOf_279 kL9 z2 z3 z4 z6 μ
set_option maxHeartbeats 4000000 in
set_option maxRecDepth 100000 in
theorem w_X12_faultOf_241 {G : GX} {u : Int × GM} (C : CX G 2 cX12_faultOf 7 RX12) (hQ : gQI G (some .int) u) {kL9 : Int → Int → Int → Int → GM → Option (Int × GM)} (hL9 : ∀ (z1 : Int) (hz1 : r32 z1) (z2 : Int) (hz2 : r32 z2) (z3 : Int) (hz3 : r32 z3) (z4 : Int) (hz4 : r32 z4) (μ : GM) (hμ : gRg μ), kL9 z1 z2 z3 z4 μ = some u → WM G 7 μ 9 [(0, gR G 53), (1, vI z1), (2, vI z2), (3, vI z3), (4, vI z4)] []) {z2 : Int} (hz2 : r32 z2) {z3 : Int} (hz3 : r32 z3) {z4 : Int} (hz4 : r32 z4) {z5 : Int} (hz5 : r32 z5) {z6 : Int} (hz6 : r32 z6) {μ : GM} (hμ : gRg μ) (h : k_X12_faultOf_241 kL9 z2 z3 z4 z5 z6 μ = some u) : WM G 7 μ 241 [(0, gR G 53), (2, vI z2), (3, vI z3), (4, vI z4), (5, vI z5), (6, vI z6)] [] := by
  unfold k_X12_faultOf_241 at h
  refine o_iload C 4 dX12_faultOf_241 rfl ?_
  refine o_bipush (v := 38) C dX12_faultOf_243 (by decide) ?_
  refine o_icmp_eq (tgt := 255) C hz5 ⟨by decide, by decide⟩ dX12_faultOf_245 (by decide) h (fun _ h => ?_) (fun _ h => ?_)
  · refine o_iconst C dX12_faultOf_255 ?_
    refine o_istore (lv2 := [(6, vI 0), (0, gR G 53), (2, vI z2), (3, vI z3), (4, vI z4), (5, vI z5)]) C dX12_faultOf_256 (by decide) rfl ?_
    refine o_goto (tgt := 279) C dX12_faultOf_258 (by decide) ?_
    exact WM.sub [1, 2, 3, 4, 0] rfl (w_X12_faultOf_279 C hQ hL9 hz2 hz3 hz4 ⟨by decide, by decide⟩ hμ h)
  · refine o_iload C 4 dX12_faultOf_248 rfl ?_
    refine o_bipush (v := 124) C dX12_faultOf_250 (by decide) ?_
    refine o_icmp_ne (tgt := 261) C hz5 ⟨by decide, by decide⟩ dX12_faultOf_252 (by decide) h (fun _ h => ?_) (fun _ h => ?_)
    · refine o_iload C 4 dX12_faultOf_261 rfl ?_
      refine o_bipush (v := 41) C dX12_faultOf_263 (by decide) ?_
      refine o_icmp_ne (tgt := 279) C hz5 ⟨by decide, by decide⟩ dX12_faultOf_265 (by decide) h (fun _ h => ?_) (fun _ h => ?_)
      · exact WM.sub [0, 1, 2, 3, 5] rfl (w_X12_faultOf_279 C hQ hL9 hz2 hz3 hz4 hz6 hμ h)
      · refine o_iload_n C 1 dX12_faultOf_268 rfl rfl ?_
        refine o_if_le (tgt := 279) C hz2 dX12_faultOf_269 (by decide) h (fun _ h => ?_) (fun _ h => ?_)
        · exact WM.sub [0, 1, 2, 3, 5] rfl (w_X12_faultOf_279 C hQ hL9 hz2 hz3 hz4 hz6 hμ h)
        · refine o_iinc (lv2 := fun x1 => [(2, vI x1), (0, gR G 53), (3, vI z3), (4, vI z4), (5, vI z5), (6, vI z6)]) C 1 dX12_faultOf_272 rfl (by decide) (fun _ => rfl) h (fun x1 hx1 h => ?_)
          refine o_bipush (v := 20) C dX12_faultOf_275 (by decide) ?_
          refine o_istore (lv2 := [(6, vI 20), (2, vI x1), (0, gR G 53), (3, vI z3), (4, vI z4), (5, vI z5)]) C dX12_faultOf_277 (by decide) rfl ?_
          exact WM.sub [2, 1, 3, 4, 0] rfl (w_X12_faultOf_279 C hQ hL9 hx1 hz3 hz4 ⟨by decide, by decide⟩ hμ h)
    · refine o_iconst C dX12_faultOf_255 ?_
      refine o_istore (lv2 := [(6, vI 0), (0, gR G 53), (2, vI z2), (3, vI z3), (4, vI z4), (5, vI z5)]) C dX12_faultOf_256 (by decide) rfl ?_
      refine o_goto (tgt := 279) C dX12_faultOf_258 (by decide) ?_
      exact WM.sub [1, 2, 3, 4, 0] rfl (w_X12_faultOf_279 C hQ hL9 hz2 hz3 hz4 ⟨by decide, by decide⟩ hμ h)
def k_X12_faultOf_195 (kL9 : Int → Int → Int → Int → GM → Option (Int × GM)) (z2 : Int) (z3 : Int) (z4 : Int) (z5 : Int) (μ : GM) : Option (Int × GM) :=
  bd (f_X12_isDigit z5 μ) fun x1 μ2 =>
  if x1 = 0 then
    k_X12_faultOf_279 kL9 z2 z3 z4 (-10000009) μ2
  else
    k_X12_faultOf_279 kL9 z2 z3 z4 5 μ2
set_option maxHeartbeats 4000000 in
set_option maxRecDepth 100000 in
theorem w_X12_faultOf_195 {G : GX} {u : Int × GM} (C : CX G 2 cX12_faultOf 7 RX12) (hQ : gQI G (some .int) u) {kL9 : Int → Int → Int → Int → GM → Option (Int × GM)} (hL9 : ∀ (z1 : Int) (hz1 : r32 z1) (z2 : Int) (hz2 : r32 z2) (z3 : Int) (hz3 : r32 z3) (z4 : Int) (hz4 : r32 z4) (μ : GM) (hμ : gRg μ), kL9 z1 z2 z3 z4 μ = some u → WM G 7 μ 9 [(0, gR G 53), (1, vI z1), (2, vI z2), (3, vI z3), (4, vI z4)] []) {z2 : Int} (hz2 : r32 z2) {z3 : Int} (hz3 : r32 z3) {z4 : Int} (hz4 : r32 z4) {z5 : Int} (hz5 : r32 z5) {μ : GM} (hμ : gRg μ) (h : k_X12_faultOf_195 kL9 z2 z3 z4 z5 μ = some u) : WM G 7 μ 195 [(0, gR G 53), (2, vI z2), (3, vI z3), (4, vI z4), (5, vI z5)] [] := by
  unfold k_X12_faultOf_195 at h
  refine o_iload C 4 dX12_faultOf_195 rfl ?_
  refine o_cSI C [vI z5] mb_X12_isDigit (by decide) (fun _ hu => c_X12_isDigit hz5 hμ hu) rfl (Nat.le_of_ble_eq_true rfl) h ms_X12_isDigit lkm_RX12_350 rfl rfl dX12_faultOf_197 (fun x1 μ2 hx1 hμ2 h => ?_)
  refine o_if_eq (tgt := 207) C hx1 dX12_faultOf_200 (by decide) h (fun _ h => ?_) (fun _ h => ?_)
  · refine o_ldc (v := (-10000009)) C lkc_RX12_132 rfl dX12_faultOf_207 ?_
    refine o_istore (lv2 := [(6, vI (-10000009)), (0, gR G 53), (2, vI z2), (3, vI z3), (4, vI z4), (5, vI z5)]) C dX12_faultOf_209 (by decide) rfl ?_
    refine o_goto (tgt := 279) C dX12_faultOf_211 (by decide) ?_
    exact WM.sub [1, 2, 3, 4, 0] rfl (w_X12_faultOf_279 C hQ hL9 hz2 hz3 hz4 ⟨by decide, by decide⟩ hμ2 h)
  · refine o_iconst C dX12_faultOf_203 ?_
    refine o_goto (tgt := 209) C dX12_faultOf_204 (by decide) ?_
    refine o_istore (lv2 := [(6, vI 5), (0, gR G 53), (2, vI z2), (3, vI z3), (4, vI z4), (5, vI z5)]) C dX12_faultOf_209 (by decide) rfl ?_
    refine o_goto (tgt := 279) C dX12_faultOf_211 (by decide) ?_
    exact WM.sub [1, 2, 3, 4, 0] rfl (w_X12_faultOf_279 C hQ hL9 hz2 hz3 hz4 ⟨by decide, by decide⟩ hμ2 h)
def k_X12_faultOf_185 (kL9 : Int → Int → Int → Int → GM → Option (Int × GM)) (z1 : Int) (z2 : Int) (z3 : Int) (z4 : Int) (z5 : Int) (z6 : Int) (μ : GM) : Option (Int × GM) :=
  if z1 = 3 then
    k_X12_faultOf_195 kL9 z2 z3 z4 z5 μ
  else
    if z1 = 4 then
      k_X12_faultOf_195 kL9 z2 z3 z4 z5 μ
    else
      bd (f_X12_isDigit z5 μ) fun x1 μ2 =>
      if x1 = 0 then
        k_X12_faultOf_241 kL9 z2 z3 z4 z5 z6 μ2
      else
        if z1 < 5 then
          k_X12_faultOf_241 kL9 z2 z3 z4 z5 z6 μ2
        else
          if z1 < 11 then
            lt (w32 (z1 + 1)) fun x3 =>
            k_X12_faultOf_279 kL9 z2 z3 z4 x3 μ2
          else
            k_X12_faultOf_241 kL9 z2 z3 z4 z5 z6 μ2
set_option maxHeartbeats 4000000 in
set_option maxRecDepth 100000 in
theorem w_X12_faultOf_185 {G : GX} {u : Int × GM} (C : CX G 2 cX12_faultOf 7 RX12) (hQ : gQI G (some .int) u) {kL9 : Int → Int → Int → Int → GM → Option (Int × GM)} (hL9 : ∀ (z1 : Int) (hz1 : r32 z1) (z2 : Int) (hz2 : r32 z2) (z3 : Int) (hz3 : r32 z3) (z4 : Int) (hz4 : r32 z4) (μ : GM) (hμ : gRg μ), kL9 z1 z2 z3 z4 μ = some u → WM G 7 μ 9 [(0, gR G 53), (1, vI z1), (2, vI z2), (3, vI z3), (4, vI z4)] []) {z1 : Int} (hz1 : r32 z1) {z2 : Int} (hz2 : r32 z2) {z3 : Int} (hz3 : r32 z3) {z4 : Int} (hz4 : r32 z4) {z5 : Int} (hz5 : r32 z5) {z6 : Int} (hz6 : r32 z6) {μ : GM} (hμ : gRg μ) (h : k_X12_faultOf_185 kL9 z1 z2 z3 z4 z5 z6 μ = some u) : WM G 7 μ 185 [(0, gR G 53), (1, vI z1), (2, vI z2), (3, vI z3), (4, vI z4), (5, vI z5), (6, vI z6)] [] := by
  unfold k_X12_faultOf_185 at h
  refine o_iload_n C 1 dX12_faultOf_185 rfl rfl ?_
  refine o_iconst C dX12_faultOf_186 ?_
  refine o_icmp_eq (tgt := 195) C hz1 ⟨by decide, by decide⟩ dX12_faultOf_187 (by decide) h (fun _ h => ?_) (fun _ h => ?_)
  · exact WM.sub [0, 2, 3, 4, 5] rfl (w_X12_faultOf_195 C hQ hL9 hz2 hz3 hz4 hz5 hμ h)
  · refine o_iload_n C 1 dX12_faultOf_190 rfl rfl ?_
    refine o_iconst C dX12_faultOf_191 ?_
    refine o_icmp_ne (tgt := 214) C hz1 ⟨by decide, by decide⟩ dX12_faultOf_192 (by decide) h (fun _ h => ?_) (fun _ h => ?_)
    · refine o_iload C 5 dX12_faultOf_214 rfl ?_
      refine o_cSI C [vI z5] mb_X12_isDigit (by decide) (fun _ hu => c_X12_isDigit hz5 hμ hu) rfl (Nat.le_of_ble_eq_true rfl) h ms_X12_isDigit lkm_RX12_350 rfl rfl dX12_faultOf_216 (fun x1 μ2 hx1 hμ2 h => ?_)
      refine o_if_eq (tgt := 241) C hx1 dX12_faultOf_219 (by decide) h (fun _ h => ?_) (fun _ h => ?_)
      · exact WM.sub [0, 2, 3, 4, 5, 6] rfl (w_X12_faultOf_241 C hQ hL9 hz2 hz3 hz4 hz5 hz6 hμ2 h)
      · refine o_iload_n C 1 dX12_faultOf_222 rfl rfl ?_
        refine o_iconst C dX12_faultOf_223 ?_
        refine o_icmp_lt (tgt := 241) C hz1 ⟨by decide, by decide⟩ dX12_faultOf_224 (by decide) h (fun _ h => ?_) (fun _ h => ?_)
        · exact WM.sub [0, 2, 3, 4, 5, 6] rfl (w_X12_faultOf_241 C hQ hL9 hz2 hz3 hz4 hz5 hz6 hμ2 h)
        · refine o_iload_n C 1 dX12_faultOf_227 rfl rfl ?_
          refine o_bipush (v := 11) C dX12_faultOf_228 (by decide) ?_
          refine o_icmp_ge (tgt := 241) C hz1 ⟨by decide, by decide⟩ dX12_faultOf_230 (by decide) h (fun _ h => ?_) (fun _ h => ?_)
          · exact WM.sub [0, 2, 3, 4, 5, 6] rfl (w_X12_faultOf_241 C hQ hL9 hz2 hz3 hz4 hz5 hz6 hμ2 h)
          · refine o_iload_n C 1 dX12_faultOf_233 rfl rfl ?_
            refine o_iconst C dX12_faultOf_234 ?_
            refine o_iadd C dX12_faultOf_235 ?_
            refine o_lt h (r32_w _) (fun x3 hx3 h => ?_)
            refine o_istore (lv2 := [(6, vI x3), (0, gR G 53), (1, vI z1), (2, vI z2), (3, vI z3), (4, vI z4), (5, vI z5)]) C dX12_faultOf_236 (by decide) rfl ?_
            refine o_goto (tgt := 279) C dX12_faultOf_238 (by decide) ?_
            exact WM.sub [1, 3, 4, 5, 0] rfl (w_X12_faultOf_279 C hQ hL9 hz2 hz3 hz4 hx3 hμ2 h)
    · exact WM.sub [0, 2, 3, 4, 5] rfl (w_X12_faultOf_195 C hQ hL9 hz2 hz3 hz4 hz5 hμ h)
def k_X12_faultOf_48 (kL9 : Int → Int → Int → Int → GM → Option (Int × GM)) (z4 : Int) (z5 : Int) (s0 : Int) (s1 : Int) (μ : GM) : Option (Int × GM) :=
  lt (w32 (s0 + s1)) fun x1 =>
  if z5 = 33 then
    k_X12_faultOf_279 kL9 x1 z5 z4 0 μ
  else
    if z5 = 40 then
      k_X12_faultOf_279 kL9 x1 z5 z4 0 μ
    else
      bd (f_X12_named z5 μ) fun x2 μ3 =>
      if x2 = (-10000009) then
        k_X12_faultOf_279 kL9 x1 z5 z4 (-10000009) μ3
      else
        k_X12_faultOf_279 kL9 x1 z5 z4 1 μ3
set_option maxHeartbeats 4000000 in
set_option maxRecDepth 100000 in
theorem w_X12_faultOf_48 {G : GX} {u : Int × GM} (C : CX G 2 cX12_faultOf 7 RX12) (hQ : gQI G (some .int) u) {kL9 : Int → Int → Int → Int → GM → Option (Int × GM)} (hL9 : ∀ (z1 : Int) (hz1 : r32 z1) (z2 : Int) (hz2 : r32 z2) (z3 : Int) (hz3 : r32 z3) (z4 : Int) (hz4 : r32 z4) (μ : GM) (hμ : gRg μ), kL9 z1 z2 z3 z4 μ = some u → WM G 7 μ 9 [(0, gR G 53), (1, vI z1), (2, vI z2), (3, vI z3), (4, vI z4)] []) {z4 : Int} (hz4 : r32 z4) {z5 : Int} (hz5 : r32 z5) {s0 : Int} (hs0 : r32 s0) {s1 : Int} (hs1 : r32 s1) {μ : GM} (hμ : gRg μ) (h : k_X12_faultOf_48 kL9 z4 z5 s0 s1 μ = some u) : WM G 7 μ 48 [(0, gR G 53), (4, vI z4), (5, vI z5)] [vI s1, vI s0] := by
  unfold k_X12_faultOf_48 at h
  refine o_iadd C dX12_faultOf_48 ?_
  refine o_lt h (r32_w _) (fun x1 hx1 h => ?_)
  refine o_istore_n (lv2 := [(2, vI x1), (0, gR G 53), (4, vI z4), (5, vI z5)]) C dX12_faultOf_49 rfl (by decide) rfl ?_
  refine o_iload C 3 dX12_faultOf_50 rfl ?_
  refine o_istore_n (lv2 := [(3, vI z5), (2, vI x1), (0, gR G 53), (4, vI z4), (5, vI z5)]) C dX12_faultOf_52 rfl (by decide) rfl ?_
  refine o_iload C 4 dX12_faultOf_53 rfl ?_
  refine o_bipush (v := 33) C dX12_faultOf_55 (by decide) ?_
  refine o_icmp_eq (tgt := 67) C hz5 ⟨by decide, by decide⟩ dX12_faultOf_57 (by decide) h (fun _ h => ?_) (fun _ h => ?_)
  · refine o_iconst C dX12_faultOf_67 ?_
    refine o_goto (tgt := 88) C dX12_faultOf_68 (by decide) ?_
    refine o_istore (lv2 := [(6, vI 0), (3, vI z5), (2, vI x1), (0, gR G 53), (4, vI z4), (5, vI z5)]) C dX12_faultOf_88 (by decide) rfl ?_
    refine o_goto (tgt := 279) C dX12_faultOf_90 (by decide) ?_
    exact WM.sub [3, 2, 1, 4, 0] rfl (w_X12_faultOf_279 C hQ hL9 hx1 hz5 hz4 ⟨by decide, by decide⟩ hμ h)
  · refine o_iload C 4 dX12_faultOf_60 rfl ?_
    refine o_bipush (v := 40) C dX12_faultOf_62 (by decide) ?_
    refine o_icmp_ne (tgt := 71) C hz5 ⟨by decide, by decide⟩ dX12_faultOf_64 (by decide) h (fun _ h => ?_) (fun _ h => ?_)
    · refine o_aload_n C 2 dX12_faultOf_71 rfl rfl ?_
      refine o_iload C 4 dX12_faultOf_72 rfl ?_
      refine o_cVI C [vI z5] mb_X12_named (by decide) (fun _ hu => c_X12_named hz5 hμ hu) rfl (Nat.le_of_ble_eq_true rfl) h mi_X12_named me_X12_named lkm_RX12_347 kt_53 rfl rfl rfl dX12_faultOf_74 (fun x2 μ3 hx2 hμ3 h => ?_)
      refine o_ldc (v := (-10000009)) C lkc_RX12_132 rfl dX12_faultOf_77 ?_
      refine o_icmp_eq (tgt := 86) C hx2 ⟨by decide, by decide⟩ dX12_faultOf_79 (by decide) h (fun _ h => ?_) (fun _ h => ?_)
      · refine o_ldc (v := (-10000009)) C lkc_RX12_132 rfl dX12_faultOf_86 ?_
        refine o_istore (lv2 := [(6, vI (-10000009)), (3, vI z5), (2, vI x1), (0, gR G 53), (4, vI z4), (5, vI z5)]) C dX12_faultOf_88 (by decide) rfl ?_
        refine o_goto (tgt := 279) C dX12_faultOf_90 (by decide) ?_
        exact WM.sub [3, 2, 1, 4, 0] rfl (w_X12_faultOf_279 C hQ hL9 hx1 hz5 hz4 ⟨by decide, by decide⟩ hμ3 h)
      · refine o_iconst C dX12_faultOf_82 ?_
        refine o_goto (tgt := 88) C dX12_faultOf_83 (by decide) ?_
        refine o_istore (lv2 := [(6, vI 1), (3, vI z5), (2, vI x1), (0, gR G 53), (4, vI z4), (5, vI z5)]) C dX12_faultOf_88 (by decide) rfl ?_
        refine o_goto (tgt := 279) C dX12_faultOf_90 (by decide) ?_
        exact WM.sub [3, 2, 1, 4, 0] rfl (w_X12_faultOf_279 C hQ hL9 hx1 hz5 hz4 ⟨by decide, by decide⟩ hμ3 h)
    · refine o_iconst C dX12_faultOf_67 ?_
      refine o_goto (tgt := 88) C dX12_faultOf_68 (by decide) ?_
      refine o_istore (lv2 := [(6, vI 0), (3, vI z5), (2, vI x1), (0, gR G 53), (4, vI z4), (5, vI z5)]) C dX12_faultOf_88 (by decide) rfl ?_
      refine o_goto (tgt := 279) C dX12_faultOf_90 (by decide) ?_
      exact WM.sub [3, 2, 1, 4, 0] rfl (w_X12_faultOf_279 C hQ hL9 hx1 hz5 hz4 ⟨by decide, by decide⟩ hμ h)
def k_X12_faultOf_9 : Nat → Int → Int → Int → Int → GM → Option (Int × GM)
  | 0, _, _, _, _, _ => none
  | n + 1, z1, z2, z3, z4, μ =>
    if z4 < (μ.2 53 44) then
      ck (0 ≤ z4 ∧ z4 < 200) (
      lt (μ.1 88 z4) fun x1 =>
      if z1 = 0 then
        if x1 = 40 then
          k_X12_faultOf_48 (k_X12_faultOf_9 n) z4 x1 z2 1 μ
        else
          k_X12_faultOf_48 (k_X12_faultOf_9 n) z4 x1 z2 0 μ
      else
        if z1 = 1 then
          bd (f_X12_isDigit x1 μ) fun x2 μ3 =>
          if x2 = 0 then
            k_X12_faultOf_279 (k_X12_faultOf_9 n) z2 z3 z4 (-10000009) μ3
          else
            bd (f_X12_named z3 μ3) fun x4 μ5 =>
            if (w32 (x1 - 48)) < x4 then
              k_X12_faultOf_279 (k_X12_faultOf_9 n) z2 z3 z4 2 μ5
            else
              k_X12_faultOf_279 (k_X12_faultOf_9 n) z2 z3 z4 (-10000009) μ5
        else
          if z1 = 2 then
            if x1 = 60 then
              k_X12_faultOf_279 (k_X12_faultOf_9 n) z2 z3 z4 3 μ
            else
              if x1 = 62 then
                k_X12_faultOf_279 (k_X12_faultOf_9 n) z2 z3 z4 3 μ
              else
                if x1 = 61 then
                  k_X12_faultOf_279 (k_X12_faultOf_9 n) z2 z3 z4 3 μ
                else
                  k_X12_faultOf_279 (k_X12_faultOf_9 n) z2 z3 z4 (-10000009) μ
          else
            if z1 = 3 then
              if x1 = 45 then
                k_X12_faultOf_279 (k_X12_faultOf_9 n) z2 z3 z4 4 μ
              else
                k_X12_faultOf_185 (k_X12_faultOf_9 n) z1 z2 z3 z4 x1 (-10000009) μ
            else
              k_X12_faultOf_185 (k_X12_faultOf_9 n) z1 z2 z3 z4 x1 (-10000009) μ)
    else
      if (μ.2 53 44) = 0 then
        some ((-10000009), μ)
      else
        if z1 < 5 then
          some ((μ.2 53 44), μ)
        else
          if z2 = 0 then
            some ((-10000009), μ)
          else
            some ((μ.2 53 44), μ)
set_option maxHeartbeats 4000000 in
set_option maxRecDepth 100000 in
theorem w_X12_faultOf_9 {G : GX} {u : Int × GM} (C : CX G 2 cX12_faultOf 7 RX12) (hQ : gQI G (some .int) u) : ∀ (n : Nat) (z1 : Int) (hz1 : r32 z1) (z2 : Int) (hz2 : r32 z2) (z3 : Int) (hz3 : r32 z3) (z4 : Int) (hz4 : r32 z4) (μ : GM) (hμ : gRg μ), k_X12_faultOf_9 n z1 z2 z3 z4 μ = some u → WM G 7 μ 9 [(0, gR G 53), (1, vI z1), (2, vI z2), (3, vI z3), (4, vI z4)] [] := by
  intro n
  induction n with
  | zero =>
    intro z1 hz1 z2 hz2 z3 hz3 z4 hz4 μ hμ h
    cases h
  | succ n ih =>
    intro z1 hz1 z2 hz2 z3 hz3 z4 hz4 μ hμ h
    rw [k_X12_faultOf_9] at h
    refine o_iload C 4 dX12_faultOf_9 rfl ?_
    refine o_aload_n C 0 dX12_faultOf_11 rfl rfl ?_
    refine o_getI (j := 44) C kt_53 rfl rfl (Nat.le_of_ble_eq_true rfl) lkf_RX12_340 dX12_faultOf_12 ?_
    refine o_icmp_ge (tgt := 298) C hz4 (hμ.fi kt_53 rfl (by decide)) dX12_faultOf_15 (by decide) h (fun _ h => ?_) (fun _ h => ?_)
    · refine o_aload_n C 0 dX12_faultOf_298 rfl rfl ?_
      refine o_getI (j := 44) C kt_53 rfl rfl (Nat.le_of_ble_eq_true rfl) lkf_RX12_340 dX12_faultOf_299 ?_
      refine o_if_eq (tgt := 314) C (hμ.fi kt_53 rfl (by decide)) dX12_faultOf_302 (by decide) h (fun _ h => ?_) (fun _ h => ?_)
      · refine o_ldc (v := (-10000009)) C lkc_RX12_132 rfl dX12_faultOf_314 ?_
        refine o_goto (tgt := 323) C dX12_faultOf_316 (by decide) ?_
        exact o_iret C hQ dX12_faultOf_323 h ⟨by decide, by decide⟩ hμ
      · refine o_iload_n C 1 dX12_faultOf_305 rfl rfl ?_
        refine o_iconst C dX12_faultOf_306 ?_
        refine o_icmp_lt (tgt := 319) C hz1 ⟨by decide, by decide⟩ dX12_faultOf_307 (by decide) h (fun _ h => ?_) (fun _ h => ?_)
        · refine o_aload_n C 0 dX12_faultOf_319 rfl rfl ?_
          refine o_getI (j := 44) C kt_53 rfl rfl (Nat.le_of_ble_eq_true rfl) lkf_RX12_340 dX12_faultOf_320 ?_
          exact o_iret C hQ dX12_faultOf_323 h (hμ.fi kt_53 rfl (by decide)) hμ
        · refine o_iload_n C 2 dX12_faultOf_310 rfl rfl ?_
          refine o_if_ne (tgt := 319) C hz2 dX12_faultOf_311 (by decide) h (fun _ h => ?_) (fun _ h => ?_)
          · refine o_aload_n C 0 dX12_faultOf_319 rfl rfl ?_
            refine o_getI (j := 44) C kt_53 rfl rfl (Nat.le_of_ble_eq_true rfl) lkf_RX12_340 dX12_faultOf_320 ?_
            exact o_iret C hQ dX12_faultOf_323 h (hμ.fi kt_53 rfl (by decide)) hμ
          · refine o_ldc (v := (-10000009)) C lkc_RX12_132 rfl dX12_faultOf_314 ?_
            refine o_goto (tgt := 323) C dX12_faultOf_316 (by decide) ?_
            exact o_iret C hQ dX12_faultOf_323 h ⟨by decide, by decide⟩ hμ
    · refine o_aload_n C 0 dX12_faultOf_18 rfl rfl ?_
      refine o_getR (j := 45) C kt_53 rfl rfl (Nat.le_of_ble_eq_true rfl) lkf_RX12_114 dX12_faultOf_19 ?_
      refine o_iload C 4 dX12_faultOf_22 rfl ?_
      refine o_iald C kt_88 rfl hz4 dX12_faultOf_24 h (fun h => ?_)
      refine o_lt h (hμ.i kt_88 (by decide) _) (fun x1 hx1 h => ?_)
      refine o_istore (lv2 := [(5, vI x1), (0, gR G 53), (1, vI z1), (2, vI z2), (3, vI z3), (4, vI z4)]) C dX12_faultOf_25 (by decide) rfl ?_
      refine o_ldc (v := (-10000009)) C lkc_RX12_132 rfl dX12_faultOf_27 ?_
      refine o_istore (lv2 := [(6, vI (-10000009)), (5, vI x1), (0, gR G 53), (1, vI z1), (2, vI z2), (3, vI z3), (4, vI z4)]) C dX12_faultOf_29 (by decide) rfl ?_
      refine o_iload_n C 3 dX12_faultOf_31 rfl rfl ?_
      refine o_if_ne (tgt := 93) C hz1 dX12_faultOf_32 (by decide) h (fun _ h => ?_) (fun _ h => ?_)
      · refine o_iload_n C 3 dX12_faultOf_93 rfl rfl ?_
        refine o_iconst C dX12_faultOf_94 ?_
        refine o_icmp_ne (tgt := 130) C hz1 ⟨by decide, by decide⟩ dX12_faultOf_95 (by decide) h (fun _ h => ?_) (fun _ h => ?_)
        · refine o_iload_n C 3 dX12_faultOf_130 rfl rfl ?_
          refine o_iconst C dX12_faultOf_131 ?_
          refine o_icmp_ne (tgt := 167) C hz1 ⟨by decide, by decide⟩ dX12_faultOf_132 (by decide) h (fun _ h => ?_) (fun _ h => ?_)
          · refine o_iload_n C 3 dX12_faultOf_167 rfl rfl ?_
            refine o_iconst C dX12_faultOf_168 ?_
            refine o_icmp_ne (tgt := 185) C hz1 ⟨by decide, by decide⟩ dX12_faultOf_169 (by decide) h (fun _ h => ?_) (fun _ h => ?_)
            · exact WM.sub [2, 3, 4, 5, 6, 1, 0] rfl (w_X12_faultOf_185 C hQ ih hz1 hz2 hz3 hz4 hx1 ⟨by decide, by decide⟩ hμ h)
            · refine o_iload C 1 dX12_faultOf_172 rfl ?_
              refine o_bipush (v := 45) C dX12_faultOf_174 (by decide) ?_
              refine o_icmp_ne (tgt := 185) C hx1 ⟨by decide, by decide⟩ dX12_faultOf_176 (by decide) h (fun _ h => ?_) (fun _ h => ?_)
              · exact WM.sub [2, 3, 4, 5, 6, 1, 0] rfl (w_X12_faultOf_185 C hQ ih hz1 hz2 hz3 hz4 hx1 ⟨by decide, by decide⟩ hμ h)
              · refine o_iconst C dX12_faultOf_179 ?_
                refine o_istore (lv2 := [(6, vI 4), (5, vI x1), (0, gR G 53), (1, vI z1), (2, vI z2), (3, vI z3), (4, vI z4)]) C dX12_faultOf_180 (by decide) rfl ?_
                refine o_goto (tgt := 279) C dX12_faultOf_182 (by decide) ?_
                exact WM.sub [2, 4, 5, 6, 0] rfl (w_X12_faultOf_279 C hQ ih hz2 hz3 hz4 ⟨by decide, by decide⟩ hμ h)
          · refine o_iload C 1 dX12_faultOf_135 rfl ?_
            refine o_bipush (v := 60) C dX12_faultOf_137 (by decide) ?_
            refine o_icmp_eq (tgt := 156) C hx1 ⟨by decide, by decide⟩ dX12_faultOf_139 (by decide) h (fun _ h => ?_) (fun _ h => ?_)
            · refine o_iconst C dX12_faultOf_156 ?_
              refine o_goto (tgt := 162) C dX12_faultOf_157 (by decide) ?_
              refine o_istore (lv2 := [(6, vI 3), (5, vI x1), (0, gR G 53), (1, vI z1), (2, vI z2), (3, vI z3), (4, vI z4)]) C dX12_faultOf_162 (by decide) rfl ?_
              refine o_goto (tgt := 279) C dX12_faultOf_164 (by decide) ?_
              exact WM.sub [2, 4, 5, 6, 0] rfl (w_X12_faultOf_279 C hQ ih hz2 hz3 hz4 ⟨by decide, by decide⟩ hμ h)
            · refine o_iload C 1 dX12_faultOf_142 rfl ?_
              refine o_bipush (v := 62) C dX12_faultOf_144 (by decide) ?_
              refine o_icmp_eq (tgt := 156) C hx1 ⟨by decide, by decide⟩ dX12_faultOf_146 (by decide) h (fun _ h => ?_) (fun _ h => ?_)
              · refine o_iconst C dX12_faultOf_156 ?_
                refine o_goto (tgt := 162) C dX12_faultOf_157 (by decide) ?_
                refine o_istore (lv2 := [(6, vI 3), (5, vI x1), (0, gR G 53), (1, vI z1), (2, vI z2), (3, vI z3), (4, vI z4)]) C dX12_faultOf_162 (by decide) rfl ?_
                refine o_goto (tgt := 279) C dX12_faultOf_164 (by decide) ?_
                exact WM.sub [2, 4, 5, 6, 0] rfl (w_X12_faultOf_279 C hQ ih hz2 hz3 hz4 ⟨by decide, by decide⟩ hμ h)
              · refine o_iload C 1 dX12_faultOf_149 rfl ?_
                refine o_bipush (v := 61) C dX12_faultOf_151 (by decide) ?_
                refine o_icmp_ne (tgt := 160) C hx1 ⟨by decide, by decide⟩ dX12_faultOf_153 (by decide) h (fun _ h => ?_) (fun _ h => ?_)
                · refine o_ldc (v := (-10000009)) C lkc_RX12_132 rfl dX12_faultOf_160 ?_
                  refine o_istore (lv2 := [(6, vI (-10000009)), (5, vI x1), (0, gR G 53), (1, vI z1), (2, vI z2), (3, vI z3), (4, vI z4)]) C dX12_faultOf_162 (by decide) rfl ?_
                  refine o_goto (tgt := 279) C dX12_faultOf_164 (by decide) ?_
                  exact WM.sub [2, 4, 5, 6, 0] rfl (w_X12_faultOf_279 C hQ ih hz2 hz3 hz4 ⟨by decide, by decide⟩ hμ h)
                · refine o_iconst C dX12_faultOf_156 ?_
                  refine o_goto (tgt := 162) C dX12_faultOf_157 (by decide) ?_
                  refine o_istore (lv2 := [(6, vI 3), (5, vI x1), (0, gR G 53), (1, vI z1), (2, vI z2), (3, vI z3), (4, vI z4)]) C dX12_faultOf_162 (by decide) rfl ?_
                  refine o_goto (tgt := 279) C dX12_faultOf_164 (by decide) ?_
                  exact WM.sub [2, 4, 5, 6, 0] rfl (w_X12_faultOf_279 C hQ ih hz2 hz3 hz4 ⟨by decide, by decide⟩ hμ h)
        · refine o_iload C 1 dX12_faultOf_98 rfl ?_
          refine o_cSI C [vI x1] mb_X12_isDigit (by decide) (fun _ hu => c_X12_isDigit hx1 hμ hu) rfl (Nat.le_of_ble_eq_true rfl) h ms_X12_isDigit lkm_RX12_350 rfl rfl dX12_faultOf_100 (fun x2 μ3 hx2 hμ3 h => ?_)
          refine o_if_eq (tgt := 123) C hx2 dX12_faultOf_103 (by decide) h (fun _ h => ?_) (fun _ h => ?_)
          · refine o_ldc (v := (-10000009)) C lkc_RX12_132 rfl dX12_faultOf_123 ?_
            refine o_istore (lv2 := [(6, vI (-10000009)), (5, vI x1), (0, gR G 53), (1, vI z1), (2, vI z2), (3, vI z3), (4, vI z4)]) C dX12_faultOf_125 (by decide) rfl ?_
            refine o_goto (tgt := 279) C dX12_faultOf_127 (by decide) ?_
            exact WM.sub [2, 4, 5, 6, 0] rfl (w_X12_faultOf_279 C hQ ih hz2 hz3 hz4 ⟨by decide, by decide⟩ hμ3 h)
          · refine o_iload C 1 dX12_faultOf_106 rfl ?_
            refine o_bipush (v := 48) C dX12_faultOf_108 (by decide) ?_
            refine o_isub C dX12_faultOf_110 ?_
            refine o_aload_n C 2 dX12_faultOf_111 rfl rfl ?_
            refine o_iload_n C 5 dX12_faultOf_112 rfl rfl ?_
            refine o_cVI C [vI z3] mb_X12_named (by decide) (fun _ hu => c_X12_named hz3 hμ3 hu) rfl (Nat.le_of_ble_eq_true rfl) h mi_X12_named me_X12_named lkm_RX12_347 kt_53 rfl rfl rfl dX12_faultOf_113 (fun x4 μ5 hx4 hμ5 h => ?_)
            refine o_icmp_ge (tgt := 123) C (r32_w _) hx4 dX12_faultOf_116 (by decide) h (fun _ h => ?_) (fun _ h => ?_)
            · refine o_ldc (v := (-10000009)) C lkc_RX12_132 rfl dX12_faultOf_123 ?_
              refine o_istore (lv2 := [(6, vI (-10000009)), (5, vI x1), (0, gR G 53), (1, vI z1), (2, vI z2), (3, vI z3), (4, vI z4)]) C dX12_faultOf_125 (by decide) rfl ?_
              refine o_goto (tgt := 279) C dX12_faultOf_127 (by decide) ?_
              exact WM.sub [2, 4, 5, 6, 0] rfl (w_X12_faultOf_279 C hQ ih hz2 hz3 hz4 ⟨by decide, by decide⟩ hμ5 h)
            · refine o_iconst C dX12_faultOf_119 ?_
              refine o_goto (tgt := 125) C dX12_faultOf_120 (by decide) ?_
              refine o_istore (lv2 := [(6, vI 2), (5, vI x1), (0, gR G 53), (1, vI z1), (2, vI z2), (3, vI z3), (4, vI z4)]) C dX12_faultOf_125 (by decide) rfl ?_
              refine o_goto (tgt := 279) C dX12_faultOf_127 (by decide) ?_
              exact WM.sub [2, 4, 5, 6, 0] rfl (w_X12_faultOf_279 C hQ ih hz2 hz3 hz4 ⟨by decide, by decide⟩ hμ5 h)
      · refine o_iload_n C 4 dX12_faultOf_35 rfl rfl ?_
        refine o_iload C 1 dX12_faultOf_36 rfl ?_
        refine o_bipush (v := 40) C dX12_faultOf_38 (by decide) ?_
        refine o_icmp_ne (tgt := 47) C hx1 ⟨by decide, by decide⟩ dX12_faultOf_40 (by decide) h (fun _ h => ?_) (fun _ h => ?_)
        · refine o_iconst C dX12_faultOf_47 ?_
          exact WM.sub [2, 6, 1] rfl (w_X12_faultOf_48 C hQ ih hz4 hx1 hz2 ⟨by decide, by decide⟩ hμ h)
        · refine o_iconst C dX12_faultOf_43 ?_
          refine o_goto (tgt := 48) C dX12_faultOf_44 (by decide) ?_
          exact WM.sub [2, 6, 1] rfl (w_X12_faultOf_48 C hQ ih hz4 hx1 hz2 ⟨by decide, by decide⟩ hμ h)
def f_X12_faultOf (μ : GM) : Option (Int × GM) :=
  k_X12_faultOf_9 FU 0 0 0 0 μ
set_option maxHeartbeats 4000000 in
set_option maxRecDepth 100000 in
theorem w_X12_faultOf_0 {G : GX} {u : Int × GM} (C : CX G 2 cX12_faultOf 7 RX12) (hQ : gQI G (some .int) u) {μ : GM} (hμ : gRg μ) (h : f_X12_faultOf μ = some u) : WM G 7 μ 0 [(0, gR G 53)] [] := by
  unfold f_X12_faultOf at h
  refine o_iconst C dX12_faultOf_0 ?_
  refine o_istore_n (lv2 := [(1, vI 0), (0, gR G 53)]) C dX12_faultOf_1 rfl (by decide) rfl ?_
  refine o_iconst C dX12_faultOf_2 ?_
  refine o_istore_n (lv2 := [(2, vI 0), (1, vI 0), (0, gR G 53)]) C dX12_faultOf_3 rfl (by decide) rfl ?_
  refine o_iconst C dX12_faultOf_4 ?_
  refine o_istore_n (lv2 := [(3, vI 0), (2, vI 0), (1, vI 0), (0, gR G 53)]) C dX12_faultOf_5 rfl (by decide) rfl ?_
  refine o_iconst C dX12_faultOf_6 ?_
  refine o_istore (lv2 := [(4, vI 0), (3, vI 0), (2, vI 0), (1, vI 0), (0, gR G 53)]) C dX12_faultOf_7 (by decide) rfl ?_
  exact WM.sub [4, 3, 2, 1, 0] rfl (w_X12_faultOf_9 C hQ FU 0 ⟨by decide, by decide⟩ 0 ⟨by decide, by decide⟩ 0 ⟨by decide, by decide⟩ 0 ⟨by decide, by decide⟩ μ hμ h)
theorem c_X12_faultOf {μ : GM} (hμ : gRg μ) {u : Int × GM} (h : f_X12_faultOf μ = some u) : MtI 2 yX12_faultOf cX12_faultOf 7 (some .int) (fun ad => [.ref (ad 53)]) μ u := MtI.of pf_X12_faultOf (fun _ => Nat.le_of_ble_eq_true rfl) (fun G C hQ => w_X12_faultOf_0 C hQ hμ h)
def f_X12_fault (μ : GM) : Option (Int × GM) :=
  lm (gF μ 53 0 0) fun μ1 =>
  bd (f_X12_faultOf μ1) fun x2 μ3 =>
  some (x2, μ3)
set_option maxHeartbeats 4000000 in
set_option maxRecDepth 100000 in
theorem w_X12_fault_0 {G : GX} {u : Int × GM} (C : CX G 3 cX12_fault 1 RX12) (hQ : gQI G (some .int) u) {μ : GM} (hμ : gRg μ) (h : f_X12_fault μ = some u) : WM G 1 μ 0 [(0, gR G 53)] [] := by
  unfold f_X12_fault at h
  refine o_aload_n C 0 dX12_fault_0 rfl rfl ?_
  refine o_iconst C dX12_fault_1 ?_
  refine o_putI (j := 0) C kt_53 rfl rfl tyX12_ok nmX12 (Nat.le_of_ble_eq_true rfl) lkf_RX12_133 rfl rfl ⟨by decide, by decide⟩ hμ dX12_fault_2 h (fun μ1 hμ1 h => ?_)
  refine o_aload_n C 0 dX12_fault_5 rfl rfl ?_
  refine o_cVI C [] mb_X12_faultOf (by decide) (fun _ hu => c_X12_faultOf hμ1 hu) rfl (Nat.le_of_ble_eq_true rfl) h mi_X12_faultOf me_X12_faultOf lkm_RX12_353 kt_53 rfl rfl rfl dX12_fault_6 (fun x2 μ3 hx2 hμ3 h => ?_)
  exact o_iret C hQ dX12_fault_9 h hx2 hμ3
theorem c_X12_fault {μ : GM} (hμ : gRg μ) {u : Int × GM} (h : f_X12_fault μ = some u) : MtI 3 yX12_fault cX12_fault 1 (some .int) (fun ad => [.ref (ad 53)]) μ u := MtI.of pf_X12_fault (fun _ => Nat.le_of_ble_eq_true rfl) (fun G C hQ => w_X12_fault_0 C hQ hμ h)
def f_X12_asked (z1 : Int) (z2 : Int) (μ : GM) : Option (Int × GM) :=
  if z1 = 100 then
    bd (f_X12_takesOf z2 μ) fun x1 μ2 =>
    bd (f_X12_milliOf x1 μ2) fun x3 μ4 =>
    some (x3, μ4)
  else if z1 = 103 then
    bd (f_X12_givesOf z2 μ) fun x5 μ6 =>
    bd (f_X12_milliOf x5 μ6) fun x7 μ8 =>
    some (x7, μ8)
  else if z1 = 104 then
    ck (0 ≤ z2 ∧ z2 < 6) (
    bd (f_X12_milliOf (μ.1 71 z2) μ) fun x9 μ10 =>
    some (x9, μ10))
  else if z1 = 113 then
    ck (0 ≤ z2 ∧ z2 < 3) (
    some ((μ.1 73 z2), μ))
  else bd (f_X12_flowOf z2 μ) fun x11 μ12 =>
    bd (f_X12_milliOf x11 μ12) fun x13 μ14 =>
    some (x13, μ14)
set_option maxHeartbeats 4000000 in
set_option maxRecDepth 100000 in
theorem w_X12_asked_0 {G : GX} {u : Int × GM} (C : CX G 2 cX12_asked 3 RX12) (hQ : gQI G (some .int) u) {z1 : Int} (hz1 : r32 z1) {z2 : Int} (hz2 : r32 z2) {μ : GM} (hμ : gRg μ) (h : f_X12_asked z1 z2 μ = some u) : WM G 3 μ 0 [(0, gR G 53), (1, vI z1), (2, vI z2)] [] := by
  unfold f_X12_asked at h
  refine o_iload_n C 1 dX12_asked_0 rfl rfl ?_
  rcases ite_some h with ⟨e0, h⟩ | ⟨e0, h⟩
  · refine o_look (off := 71) (tgt := 72) C hz1 dX12_asked_1 rfl (by rw [e0]; first | done | decide) (by decide) ?_
    refine o_aload_n C 0 dX12_asked_72 rfl rfl ?_
    refine o_aload_n C 0 dX12_asked_73 rfl rfl ?_
    refine o_iload_n C 2 dX12_asked_74 rfl rfl ?_
    refine o_cVL C [vI z2] mb_X12_takesOf (by decide) (fun _ hu => c_X12_takesOf hz2 hμ hu) rfl (Nat.le_of_ble_eq_true rfl) h mi_X12_takesOf me_X12_takesOf lkm_RX12_253 kt_53 rfl rfl rfl dX12_asked_75 (fun x1 μ2 hx1 hμ2 h => ?_)
    refine o_cVI C [vJ x1] mb_X12_milliOf (by decide) (fun _ hu => c_X12_milliOf hx1 hμ2 hu) rfl (Nat.le_of_ble_eq_true rfl) h mi_X12_milliOf me_X12_milliOf lkm_RX12_243 kt_53 rfl rfl rfl dX12_asked_78 (fun x3 μ4 hx3 hμ4 h => ?_)
    exact o_iret C hQ dX12_asked_81 h hx3 hμ4
  · rcases ite_some h with ⟨e1, h⟩ | ⟨e1, h⟩
    · refine o_look (off := 61) (tgt := 62) C hz1 dX12_asked_1 rfl (by rw [e1]; first | done | decide) (by decide) ?_
      refine o_aload_n C 0 dX12_asked_62 rfl rfl ?_
      refine o_aload_n C 0 dX12_asked_63 rfl rfl ?_
      refine o_iload_n C 2 dX12_asked_64 rfl rfl ?_
      refine o_cVL C [vI z2] mb_X12_givesOf (by decide) (fun _ hu => c_X12_givesOf hz2 hμ hu) rfl (Nat.le_of_ble_eq_true rfl) h mi_X12_givesOf me_X12_givesOf lkm_RX12_250 kt_53 rfl rfl rfl dX12_asked_65 (fun x5 μ6 hx5 hμ6 h => ?_)
      refine o_cVI C [vJ x5] mb_X12_milliOf (by decide) (fun _ hu => c_X12_milliOf hx5 hμ6 hu) rfl (Nat.le_of_ble_eq_true rfl) h mi_X12_milliOf me_X12_milliOf lkm_RX12_243 kt_53 rfl rfl rfl dX12_asked_68 (fun x7 μ8 hx7 hμ8 h => ?_)
      exact o_iret C hQ dX12_asked_71 h hx7 hμ8
    · rcases ite_some h with ⟨e2, h⟩ | ⟨e2, h⟩
      · refine o_look (off := 43) (tgt := 44) C hz1 dX12_asked_1 rfl (by rw [e2]; first | done | decide) (by decide) ?_
        refine o_aload_n C 0 dX12_asked_44 rfl rfl ?_
        refine o_aload_n C 0 dX12_asked_45 rfl rfl ?_
        refine o_getR (j := 23) C kt_53 rfl rfl (Nat.le_of_ble_eq_true rfl) lkf_RX12_61 dX12_asked_46 ?_
        refine o_iload_n C 2 dX12_asked_49 rfl rfl ?_
        refine o_lald C kt_71 rfl hz2 dX12_asked_50 h (fun h => ?_)
        refine o_cVI C [vJ (μ.1 71 z2)] mb_X12_milliOf (by decide) (fun _ hu => c_X12_milliOf (hμ.l kt_71 _) hμ hu) rfl (Nat.le_of_ble_eq_true rfl) h mi_X12_milliOf me_X12_milliOf lkm_RX12_243 kt_53 rfl rfl rfl dX12_asked_51 (fun x9 μ10 hx9 hμ10 h => ?_)
        exact o_iret C hQ dX12_asked_54 h hx9 hμ10
      · rcases ite_some h with ⟨e3, h⟩ | ⟨e3, h⟩
        · refine o_look (off := 54) (tgt := 55) C hz1 dX12_asked_1 rfl (by rw [e3]; first | done | decide) (by decide) ?_
          refine o_aload_n C 0 dX12_asked_55 rfl rfl ?_
          refine o_getR (j := 27) C kt_53 rfl rfl (Nat.le_of_ble_eq_true rfl) lkf_RX12_68 dX12_asked_56 ?_
          refine o_iload_n C 2 dX12_asked_59 rfl rfl ?_
          refine o_iald C kt_73 rfl hz2 dX12_asked_60 h (fun h => ?_)
          exact o_iret C hQ dX12_asked_61 h (hμ.i kt_73 (by decide) _) hμ
        · refine o_look (off := 81) (tgt := 82) C hz1 dX12_asked_1 rfl (by rw [Op.lookupswitch.offset_cons, if_neg (fun q => e0 q.symm), Op.lookupswitch.offset_cons, if_neg (fun q => e1 q.symm), Op.lookupswitch.offset_cons, if_neg (fun q => e2 q.symm), Op.lookupswitch.offset_cons, if_neg (fun q => e3 q.symm)]; first | done | rfl) (by decide) ?_
          refine o_aload_n C 0 dX12_asked_82 rfl rfl ?_
          refine o_aload_n C 0 dX12_asked_83 rfl rfl ?_
          refine o_iload_n C 2 dX12_asked_84 rfl rfl ?_
          refine o_cVL C [vI z2] mb_X12_flowOf (by decide) (fun _ hu => c_X12_flowOf hz2 hμ hu) rfl (Nat.le_of_ble_eq_true rfl) h mi_X12_flowOf me_X12_flowOf lkm_RX12_247 kt_53 rfl rfl rfl dX12_asked_85 (fun x11 μ12 hx11 hμ12 h => ?_)
          refine o_cVI C [vJ x11] mb_X12_milliOf (by decide) (fun _ hu => c_X12_milliOf hx11 hμ12 hu) rfl (Nat.le_of_ble_eq_true rfl) h mi_X12_milliOf me_X12_milliOf lkm_RX12_243 kt_53 rfl rfl rfl dX12_asked_88 (fun x13 μ14 hx13 hμ14 h => ?_)
          exact o_iret C hQ dX12_asked_91 h hx13 hμ14
theorem c_X12_asked {z1 : Int} (hz1 : r32 z1) {z2 : Int} (hz2 : r32 z2) {μ : GM} (hμ : gRg μ) {u : Int × GM} (h : f_X12_asked z1 z2 μ = some u) : MtI 2 yX12_asked cX12_asked 3 (some .int) (fun ad => [.ref (ad 53), vI z1, vI z2]) μ u := MtI.of pf_X12_asked (fun _ => Nat.le_of_ble_eq_true rfl) (fun G C hQ => w_X12_asked_0 C hQ hz1 hz2 hμ h)
def k_X12_came_40 (z1 : Int) (s1 : Int) (μ : GM) : Option (Int × GM) :=
  ck (0 ≤ s1 ∧ s1 < 201) (lm (gA μ 90 s1 (0 % 2)) fun μ1 =>
  ck (0 ≤ z1 ∧ z1 < 201) (lm (gA μ1 91 z1 0) fun μ2 =>
  some (0, μ2)))
set_option maxHeartbeats 4000000 in
set_option maxRecDepth 100000 in
theorem w_X12_came_40 {G : GX} {u : Int × GM} (C : CX G 0 cX12_came 3 RX12) (hQ : gQV G none u) {z1 : Int} (hz1 : r32 z1) {s1 : Int} (hs1 : r32 s1) {μ : GM} (hμ : gRg μ) (h : k_X12_came_40 z1 s1 μ = some u) : WM G 3 μ 40 [(0, gR G 53), (1, vI z1)] [vI s1, gR G 90] := by
  unfold k_X12_came_40 at h
  refine o_iconst C dX12_came_40 ?_
  refine o_zast C kt_90 rfl hs1 ⟨by decide, by decide⟩ hμ dX12_came_41 h (fun μ1 hμ1 h => ?_)
  refine o_aload_n C 0 dX12_came_42 rfl rfl ?_
  refine o_getR (j := 48) C kt_53 rfl rfl (Nat.le_of_ble_eq_true rfl) lkf_RX12_123 dX12_came_43 ?_
  refine o_iload_n C 1 dX12_came_46 rfl rfl ?_
  refine o_iconst C dX12_came_47 ?_
  refine o_iast C kt_91 rfl hz1 ⟨by decide, by decide⟩ hμ1 dX12_came_48 h (fun μ2 hμ2 h => ?_)
  exact o_vret C hQ dX12_came_49 h hμ2
def f_X12_came (z1 : Int) (z2 : Int) (μ : GM) : Option (Int × GM) :=
  ck (0 ≤ z1 ∧ z1 < 201) (
  if (μ.1 90 z1) = 0 then
    k_X12_came_40 z1 z1 μ
  else
    ck (0 ≤ z1 ∧ z1 < 201) (
    ck (2 ≠ 0) (
    if (Int.tmod (μ.1 91 z1) 2) = 0 then
      if z2 = 0 then
        k_X12_came_40 z1 z1 μ
      else
        ck (0 ≤ z1 ∧ z1 < 201) (lm (gA μ 90 z1 (1 % 2)) fun μ3 =>
        ck (0 ≤ z1 ∧ z1 < 201) (lm (gA μ3 91 z1 0) fun μ4 =>
        some (0, μ4)))
    else
      if z2 = 0 then
        ck (0 ≤ z1 ∧ z1 < 201) (lm (gA μ 90 z1 (1 % 2)) fun μ1 =>
        ck (0 ≤ z1 ∧ z1 < 201) (lm (gA μ1 91 z1 0) fun μ2 =>
        some (0, μ2)))
      else
        k_X12_came_40 z1 z1 μ)))
set_option maxHeartbeats 4000000 in
set_option maxRecDepth 100000 in
theorem w_X12_came_0 {G : GX} {u : Int × GM} (C : CX G 0 cX12_came 3 RX12) (hQ : gQV G none u) {z1 : Int} (hz1 : r32 z1) {z2 : Int} (hz2 : r32 z2) {μ : GM} (hμ : gRg μ) (h : f_X12_came z1 z2 μ = some u) : WM G 3 μ 0 [(0, gR G 53), (1, vI z1), (2, vI z2)] [] := by
  unfold f_X12_came at h
  refine o_aload_n C 0 dX12_came_0 rfl rfl ?_
  refine o_getR (j := 47) C kt_53 rfl rfl (Nat.le_of_ble_eq_true rfl) lkf_RX12_120 dX12_came_1 ?_
  refine o_iload_n C 1 dX12_came_4 rfl rfl ?_
  refine o_aload_n C 0 dX12_came_5 rfl rfl ?_
  refine o_getR (j := 47) C kt_53 rfl rfl (Nat.le_of_ble_eq_true rfl) lkf_RX12_120 dX12_came_6 ?_
  refine o_iload_n C 1 dX12_came_9 rfl rfl ?_
  refine o_zald C kt_90 rfl hz1 dX12_came_10 h (fun h => ?_)
  refine o_if_eq (tgt := 40) C (hμ.i kt_90 (by decide) _) dX12_came_11 (by decide) h (fun _ h => ?_) (fun _ h => ?_)
  · exact WM.sub [0, 1] rfl (w_X12_came_40 C hQ hz1 hz1 hμ h)
  · refine o_aload_n C 0 dX12_came_14 rfl rfl ?_
    refine o_getR (j := 48) C kt_53 rfl rfl (Nat.le_of_ble_eq_true rfl) lkf_RX12_123 dX12_came_15 ?_
    refine o_iload_n C 1 dX12_came_18 rfl rfl ?_
    refine o_iald C kt_91 rfl hz1 dX12_came_19 h (fun h => ?_)
    refine o_iconst C dX12_came_20 ?_
    refine o_irem C (hμ.i kt_91 (by decide) _) ⟨by decide, by decide⟩ dX12_came_21 h (fun h => ?_)
    refine o_if_ne (tgt := 32) C (r32_rem _ (hμ.i kt_91 (by decide) _)) dX12_came_22 (by decide) h (fun _ h => ?_) (fun _ h => ?_)
    · refine o_iload_n C 2 dX12_came_32 rfl rfl ?_
      refine o_if_ne (tgt := 40) C hz2 dX12_came_33 (by decide) h (fun _ h => ?_) (fun _ h => ?_)
      · exact WM.sub [0, 1] rfl (w_X12_came_40 C hQ hz1 hz1 hμ h)
      · refine o_iconst C dX12_came_36 ?_
        refine o_goto (tgt := 41) C dX12_came_37 (by decide) ?_
        refine o_zast C kt_90 rfl hz1 ⟨by decide, by decide⟩ hμ dX12_came_41 h (fun μ1 hμ1 h => ?_)
        refine o_aload_n C 0 dX12_came_42 rfl rfl ?_
        refine o_getR (j := 48) C kt_53 rfl rfl (Nat.le_of_ble_eq_true rfl) lkf_RX12_123 dX12_came_43 ?_
        refine o_iload_n C 1 dX12_came_46 rfl rfl ?_
        refine o_iconst C dX12_came_47 ?_
        refine o_iast C kt_91 rfl hz1 ⟨by decide, by decide⟩ hμ1 dX12_came_48 h (fun μ2 hμ2 h => ?_)
        exact o_vret C hQ dX12_came_49 h hμ2
    · refine o_iload_n C 2 dX12_came_25 rfl rfl ?_
      refine o_if_eq (tgt := 40) C hz2 dX12_came_26 (by decide) h (fun _ h => ?_) (fun _ h => ?_)
      · exact WM.sub [0, 1] rfl (w_X12_came_40 C hQ hz1 hz1 hμ h)
      · refine o_goto (tgt := 36) C dX12_came_29 (by decide) ?_
        refine o_iconst C dX12_came_36 ?_
        refine o_goto (tgt := 41) C dX12_came_37 (by decide) ?_
        refine o_zast C kt_90 rfl hz1 ⟨by decide, by decide⟩ hμ dX12_came_41 h (fun μ3 hμ3 h => ?_)
        refine o_aload_n C 0 dX12_came_42 rfl rfl ?_
        refine o_getR (j := 48) C kt_53 rfl rfl (Nat.le_of_ble_eq_true rfl) lkf_RX12_123 dX12_came_43 ?_
        refine o_iload_n C 1 dX12_came_46 rfl rfl ?_
        refine o_iconst C dX12_came_47 ?_
        refine o_iast C kt_91 rfl hz1 ⟨by decide, by decide⟩ hμ3 dX12_came_48 h (fun μ4 hμ4 h => ?_)
        exact o_vret C hQ dX12_came_49 h hμ4
theorem c_X12_came {z1 : Int} (hz1 : r32 z1) {z2 : Int} (hz2 : r32 z2) {μ : GM} (hμ : gRg μ) {u : Int × GM} (h : f_X12_came z1 z2 μ = some u) : MtV 0 yX12_came cX12_came 3 none (fun ad => [.ref (ad 53), vI z1, vI z2]) μ u := MtV.of pf_X12_came (fun _ => Nat.le_of_ble_eq_true rfl) (fun G C hQ => w_X12_came_0 C hQ hz1 hz2 hμ h)
def f_X12_begin (z1 : Int) (μ : GM) : Option (Int × GM) :=
  ck (0 ≤ z1 ∧ z1 < 201) (lm (gA μ 89 z1 (0 % 2)) fun μ1 =>
  ck (0 ≤ z1 ∧ z1 < 201) (lm (gA μ1 90 z1 (1 % 2)) fun μ2 =>
  ck (0 ≤ z1 ∧ z1 < 201) (lm (gA μ2 91 z1 0) fun μ3 =>
  some (0, μ3))))
set_option maxHeartbeats 4000000 in
set_option maxRecDepth 100000 in
theorem w_X12_begin_0 {G : GX} {u : Int × GM} (C : CX G 0 cX12_begin 2 RX12) (hQ : gQV G none u) {z1 : Int} (hz1 : r32 z1) {μ : GM} (hμ : gRg μ) (h : f_X12_begin z1 μ = some u) : WM G 2 μ 0 [(0, gR G 53), (1, vI z1)] [] := by
  unfold f_X12_begin at h
  refine o_aload_n C 0 dX12_begin_0 rfl rfl ?_
  refine o_getR (j := 46) C kt_53 rfl rfl (Nat.le_of_ble_eq_true rfl) lkf_RX12_117 dX12_begin_1 ?_
  refine o_iload_n C 1 dX12_begin_4 rfl rfl ?_
  refine o_iconst C dX12_begin_5 ?_
  refine o_zast C kt_89 rfl hz1 ⟨by decide, by decide⟩ hμ dX12_begin_6 h (fun μ1 hμ1 h => ?_)
  refine o_aload_n C 0 dX12_begin_7 rfl rfl ?_
  refine o_getR (j := 47) C kt_53 rfl rfl (Nat.le_of_ble_eq_true rfl) lkf_RX12_120 dX12_begin_8 ?_
  refine o_iload_n C 1 dX12_begin_11 rfl rfl ?_
  refine o_iconst C dX12_begin_12 ?_
  refine o_zast C kt_90 rfl hz1 ⟨by decide, by decide⟩ hμ1 dX12_begin_13 h (fun μ2 hμ2 h => ?_)
  refine o_aload_n C 0 dX12_begin_14 rfl rfl ?_
  refine o_getR (j := 48) C kt_53 rfl rfl (Nat.le_of_ble_eq_true rfl) lkf_RX12_123 dX12_begin_15 ?_
  refine o_iload_n C 1 dX12_begin_18 rfl rfl ?_
  refine o_iconst C dX12_begin_19 ?_
  refine o_iast C kt_91 rfl hz1 ⟨by decide, by decide⟩ hμ2 dX12_begin_20 h (fun μ3 hμ3 h => ?_)
  exact o_vret C hQ dX12_begin_21 h hμ3
theorem c_X12_begin {z1 : Int} (hz1 : r32 z1) {μ : GM} (hμ : gRg μ) {u : Int × GM} (h : f_X12_begin z1 μ = some u) : MtV 0 yX12_begin cX12_begin 2 none (fun ad => [.ref (ad 53), vI z1]) μ u := MtV.of pf_X12_begin (fun _ => Nat.le_of_ble_eq_true rfl) (fun G C hQ => w_X12_begin_0 C hQ hz1 hμ h)
