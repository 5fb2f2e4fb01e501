def k_X5_shareOf_63 : Nat → Int → Int → Int → Int → GM → Option (Int × GM)
  | 0, _, _, _, _, _ => none
  | n + 1, z2, z3, z4, z5, μ =>
    if z5 < (gshl 1 z3) then
      if (gand (gshr z5 z2) 1) = 0 then
        bd (f_X5_ordersBehind z5 μ) fun x2 μ3 =>
        ck (0 ≤ z5 ∧ z5 < 8) (
        ck (0 ≤ (gor z5 (gshl 1 z2)) ∧ (gor z5 (gshl 1 z2)) < 8) (
        lt (w32 (z4 + (w32 (x2 * (w32 ((μ3.1 52 z5) - (μ3.1 52 (gor z5 (gshl 1 z2))))))))) fun x4 =>
        lt (w32 (z5 + 1)) fun x5 =>
        k_X5_shareOf_63 n z2 z3 x4 x5 μ3))
      else
        lt (w32 (z5 + 1)) fun x1 =>
        k_X5_shareOf_63 n z2 z3 z4 x1 μ
    else
      ck (0 ≤ 3 ∧ 3 < 4) (
      ck (0 ≤ z3 ∧ z3 < 4) (
      ck ((gfac (Int.toNat z3)) ≠ 0) (
      some ((w32 (z4 * (w32 (Int.tdiv (gfac (Int.toNat 3)) (gfac (Int.toNat z3)))))), μ))))
set_option maxHeartbeats 4000000 in
set_option maxRecDepth 100000 in
theorem w_X5_shareOf_63 {G : GX} {u : Int × GM} (C : CX G 5 cX5_shareOf 6 RX5) (hQ : gQI G (some .int) u) : ∀ (n : Nat) (z2 : Int) (hz2 : r32 z2) (z3 : Int) (hz3 : r32 z3) (z4 : Int) (hz4 : r32 z4) (z5 : Int) (hz5 : r32 z5) (μ : GM) (hμ : gRg μ), k_X5_shareOf_63 n z2 z3 z4 z5 μ = some u → WM G 6 μ 63 [(0, gR G 47), (2, vI z2), (3, vI z3), (4, vI z4), (5, vI z5)] [] := by
  intro n
  induction n with
  | zero =>
    intro z2 hz2 z3 hz3 z4 hz4 z5 hz5 μ hμ h
    cases h
  | succ n ih =>
    intro z2 hz2 z3 hz3 z4 hz4 z5 hz5 μ hμ h
    rw [k_X5_shareOf_63] at h
    refine o_iload C 4 dX5_shareOf_63 rfl ?_
    refine o_iconst C dX5_shareOf_65 ?_
    refine o_iload_n C 2 dX5_shareOf_66 rfl rfl ?_
    refine o_ishl C dX5_shareOf_67 ?_
    refine o_icmp_ge (tgt := 117) C hz5 (r32_toInt _) dX5_shareOf_68 (by decide) h (fun _ h => ?_) (fun _ h => ?_)
    · refine o_iload C 3 dX5_shareOf_117 rfl ?_
      refine o_getsF C rfl lkf_RX5_122 dX5_shareOf_119 ?_
      refine o_iconst C dX5_shareOf_122 ?_
      refine o_faci C ⟨by decide, by decide⟩ dX5_shareOf_123 h (fun h => ?_)
      refine o_getsF C rfl lkf_RX5_122 dX5_shareOf_124 ?_
      refine o_iload_n C 2 dX5_shareOf_127 rfl rfl ?_
      refine o_faci C hz3 dX5_shareOf_128 h (fun h => ?_)
      refine o_idiv C (r32_fac _) (r32_fac _) dX5_shareOf_129 h (fun h => ?_)
      refine o_imul C dX5_shareOf_130 ?_
      exact o_iret C hQ dX5_shareOf_131 h (r32_w _) hμ
    · refine o_iload C 4 dX5_shareOf_71 rfl ?_
      refine o_iload_n C 1 dX5_shareOf_73 rfl rfl ?_
      refine o_ishr C dX5_shareOf_74 ?_
      refine o_iconst C dX5_shareOf_75 ?_
      refine o_iand C dX5_shareOf_76 ?_
      refine o_if_ne (tgt := 111) C (r32_toInt _) dX5_shareOf_77 (by decide) h (fun _ h => ?_) (fun _ h => ?_)
      · refine o_iinc (lv2 := fun x1 => [(5, vI x1), (0, gR G 47), (2, vI z2), (3, vI z3), (4, vI z4)]) C 4 dX5_shareOf_111 rfl (by decide) (fun _ => rfl) h (fun x1 hx1 h => ?_)
        refine o_goto (tgt := 63) C dX5_shareOf_114 (by decide) ?_
        exact WM.sub [1, 2, 3, 4, 0] rfl (ih z2 hz2 z3 hz3 z4 hz4 x1 hx1 μ hμ h)
      · refine o_iload C 3 dX5_shareOf_80 rfl ?_
        refine o_aload_n C 0 dX5_shareOf_82 rfl rfl ?_
        refine o_iload C 4 dX5_shareOf_83 rfl ?_
        refine o_cVI C [vI z5] mb_X5_ordersBehind (by decide) (fun _ hu => c_X5_ordersBehind hz5 hμ hu) rfl (Nat.le_of_ble_eq_true rfl) h mi_X5_ordersBehind me_X5_ordersBehind lkm_RX5_119 kt_47 rfl rfl rfl dX5_shareOf_85 (fun x2 μ3 hx2 hμ3 h => ?_)
        refine o_aload_n C 0 dX5_shareOf_88 rfl rfl ?_
        refine o_getR (j := 7) C kt_47 rfl rfl (Nat.le_of_ble_eq_true rfl) lkf_RX5_24 dX5_shareOf_89 ?_
        refine o_iload C 4 dX5_shareOf_92 rfl ?_
        refine o_iald C kt_52 rfl hz5 dX5_shareOf_94 h (fun h => ?_)
        refine o_aload_n C 0 dX5_shareOf_95 rfl rfl ?_
        refine o_getR (j := 7) C kt_47 rfl rfl (Nat.le_of_ble_eq_true rfl) lkf_RX5_24 dX5_shareOf_96 ?_
        refine o_iload C 4 dX5_shareOf_99 rfl ?_
        refine o_iconst C dX5_shareOf_101 ?_
        refine o_iload_n C 1 dX5_shareOf_102 rfl rfl ?_
        refine o_ishl C dX5_shareOf_103 ?_
        refine o_ior C dX5_shareOf_104 ?_
        refine o_iald C kt_52 rfl (r32_toInt _) dX5_shareOf_105 h (fun h => ?_)
        refine o_isub C dX5_shareOf_106 ?_
        refine o_imul C dX5_shareOf_107 ?_
        refine o_iadd C dX5_shareOf_108 ?_
        refine o_lt h (r32_w _) (fun x4 hx4 h => ?_)
        refine o_istore (lv2 := [(4, vI x4), (0, gR G 47), (2, vI z2), (3, vI z3), (5, vI z5)]) C dX5_shareOf_109 (by decide) rfl ?_
        refine o_iinc (lv2 := fun x5 => [(5, vI x5), (4, vI x4), (0, gR G 47), (2, vI z2), (3, vI z3)]) C 4 dX5_shareOf_111 rfl (by decide) (fun _ => rfl) h (fun x5 hx5 h => ?_)
        refine o_goto (tgt := 63) C dX5_shareOf_114 (by decide) ?_
        exact WM.sub [2, 3, 4, 1, 0] rfl (ih z2 hz2 z3 hz3 x4 hx4 x5 hx5 μ3 hμ3 h)
def k_X5_shareOf_14 : Nat → Int → Int → Int → Int → GM → Option (Int × GM)
  | 0, _, _, _, _, _ => none
  | n + 1, z1, z2, z3, z4, μ =>
    if z4 < (gshl 1 z3) then
      bd (f_X5_milliWith z4 z1 μ) fun x1 μ2 =>
      ck (0 ≤ z4 ∧ z4 < 8) (lm (gA μ2 52 z4 x1) fun μ3 =>
      ck (0 ≤ z4 ∧ z4 < 8) (
      if (μ3.1 52 z4) = (-10000003) then
        some ((-10000003), μ3)
      else
        lt (w32 (z4 + 1)) fun x4 =>
        k_X5_shareOf_14 n z1 z2 z3 x4 μ3))
    else
      k_X5_shareOf_63 FU z2 z3 0 0 μ
set_option maxHeartbeats 4000000 in
set_option maxRecDepth 100000 in
theorem w_X5_shareOf_14 {G : GX} {u : Int × GM} (C : CX G 5 cX5_shareOf 6 RX5) (hQ : gQI G (some .int) u) : ∀ (n : Nat) (z1 : Int) (hz1 : r32 z1) (z2 : Int) (hz2 : r32 z2) (z3 : Int) (hz3 : r32 z3) (z4 : Int) (hz4 : r32 z4) (μ : GM) (hμ : gRg μ), k_X5_shareOf_14 n z1 z2 z3 z4 μ = some u → WM G 6 μ 14 [(0, gR G 47), (1, vI z1), (2, vI z2), (3, vI z3), (4, vI z4)] [] := by
  intro n
  induction n with
  | zero =>
    intro z1 hz1 z2 hz2 z3 hz3 z4 hz4 μ hμ h
    cases h
  | succ n ih =>
    intro z1 hz1 z2 hz2 z3 hz3 z4 hz4 μ hμ h
    rw [k_X5_shareOf_14] at h
    refine o_iload C 4 dX5_shareOf_14 rfl ?_
    refine o_iconst C dX5_shareOf_16 ?_
    refine o_iload_n C 3 dX5_shareOf_17 rfl rfl ?_
    refine o_ishl C dX5_shareOf_18 ?_
    refine o_icmp_ge (tgt := 57) C hz4 (r32_toInt _) dX5_shareOf_19 (by decide) h (fun _ h => ?_) (fun _ h => ?_)
    · refine o_iconst C dX5_shareOf_57 ?_
      refine o_istore (lv2 := [(4, vI 0), (0, gR G 47), (1, vI z1), (2, vI z2), (3, vI z3)]) C dX5_shareOf_58 (by decide) rfl ?_
      refine o_iconst C dX5_shareOf_60 ?_
      refine o_istore (lv2 := [(5, vI 0), (4, vI 0), (0, gR G 47), (1, vI z1), (2, vI z2), (3, vI z3)]) C dX5_shareOf_61 (by decide) rfl ?_
      exact WM.sub [2, 4, 5, 1, 0] rfl (w_X5_shareOf_63 C hQ FU z2 hz2 z3 hz3 0 ⟨by decide, by decide⟩ 0 ⟨by decide, by decide⟩ μ hμ h)
    · refine o_aload_n C 0 dX5_shareOf_22 rfl rfl ?_
      refine o_getR (j := 7) C kt_47 rfl rfl (Nat.le_of_ble_eq_true rfl) lkf_RX5_24 dX5_shareOf_23 ?_
      refine o_iload C 4 dX5_shareOf_26 rfl ?_
      refine o_aload_n C 0 dX5_shareOf_28 rfl rfl ?_
      refine o_iload C 4 dX5_shareOf_29 rfl ?_
      refine o_iload_n C 1 dX5_shareOf_31 rfl rfl ?_
      refine o_cVI C [vI z4, vI z1] mb_X5_milliWith (by decide) (fun _ hu => c_X5_milliWith hz4 hz1 hμ hu) rfl (Nat.le_of_ble_eq_true rfl) h mi_X5_milliWith me_X5_milliWith lkm_RX5_116 kt_47 rfl rfl rfl dX5_shareOf_32 (fun x1 μ2 hx1 hμ2 h => ?_)
      refine o_iast C kt_52 rfl hz4 hx1 hμ2 dX5_shareOf_35 h (fun μ3 hμ3 h => ?_)
      refine o_aload_n C 0 dX5_shareOf_36 rfl rfl ?_
      refine o_getR (j := 7) C kt_47 rfl rfl (Nat.le_of_ble_eq_true rfl) lkf_RX5_24 dX5_shareOf_37 ?_
      refine o_iload C 4 dX5_shareOf_40 rfl ?_
      refine o_iald C kt_52 rfl hz4 dX5_shareOf_42 h (fun h => ?_)
      refine o_ldc (v := (-10000003)) C lkc_RX5_115 rfl dX5_shareOf_43 ?_
      refine o_icmp_ne (tgt := 51) C (hμ3.i kt_52 (by decide) _) ⟨by decide, by decide⟩ dX5_shareOf_45 (by decide) h (fun _ h => ?_) (fun _ h => ?_)
      · refine o_iinc (lv2 := fun x4 => [(4, vI x4), (0, gR G 47), (1, vI z1), (2, vI z2), (3, vI z3)]) C 4 dX5_shareOf_51 rfl (by decide) (fun _ => rfl) h (fun x4 hx4 h => ?_)
        refine o_goto (tgt := 14) C dX5_shareOf_54 (by decide) ?_
        exact WM.sub [1, 2, 3, 4, 0] rfl (ih z1 hz1 z2 hz2 z3 hz3 x4 hx4 μ3 hμ3 h)
      · refine o_ldc (v := (-10000003)) C lkc_RX5_115 rfl dX5_shareOf_48 ?_
        exact o_iret C hQ dX5_shareOf_50 h ⟨by decide, by decide⟩ hμ3
def f_X5_shareOf (z1 : Int) (z2 : Int) (μ : GM) : Option (Int × GM) :=
  lt (μ.2 18 0) fun x1 =>
  k_X5_shareOf_14 FU z1 z2 x1 0 μ
set_option maxHeartbeats 4000000 in
set_option maxRecDepth 100000 in
theorem w_X5_shareOf_0 {G : GX} {u : Int × GM} (C : CX G 5 cX5_shareOf 6 RX5) (hQ : gQI G (some .int) u) {z1 : Int} (hz1 : r32 z1) {z2 : Int} (hz2 : r32 z2) {μ : GM} (hμ : gRg μ) (h : f_X5_shareOf z1 z2 μ = some u) : WM G 6 μ 0 [(0, gR G 47), (1, vI z1), (2, vI z2)] [] := by
  unfold f_X5_shareOf at h
  refine o_aload_n C 0 dX5_shareOf_0 rfl rfl ?_
  refine o_getR (j := 0) C kt_47 rfl rfl (Nat.le_of_ble_eq_true rfl) lkf_RX5_27 dX5_shareOf_1 ?_
  refine o_getR (j := 7) C kt_1 rfl rfl (Nat.le_of_ble_eq_true rfl) lkf_RX5_52 dX5_shareOf_4 ?_
  refine o_getI (j := 0) C kt_18 rfl rfl (Nat.le_of_ble_eq_true rfl) lkf_RX5_58 dX5_shareOf_7 ?_
  refine o_lt h (hμ.fi kt_18 rfl (by decide)) (fun x1 hx1 h => ?_)
  refine o_istore_n (lv2 := [(3, vI x1), (0, gR G 47), (1, vI z1), (2, vI z2)]) C dX5_shareOf_10 rfl (by decide) rfl ?_
  refine o_iconst C dX5_shareOf_11 ?_
  refine o_istore (lv2 := [(4, vI 0), (3, vI x1), (0, gR G 47), (1, vI z1), (2, vI z2)]) C dX5_shareOf_12 (by decide) rfl ?_
  exact WM.sub [2, 3, 4, 1, 0] rfl (w_X5_shareOf_14 C hQ FU z1 hz1 z2 hz2 x1 hx1 0 ⟨by decide, by decide⟩ μ hμ h)
theorem c_X5_shareOf {z1 : Int} (hz1 : r32 z1) {z2 : Int} (hz2 : r32 z2) {μ : GM} (hμ : gRg μ) {u : Int × GM} (h : f_X5_shareOf z1 z2 μ = some u) : MtI 5 yX5_shareOf cX5_shareOf 6 (some .int) (fun ad => [.ref (ad 47), vI z1, vI z2]) μ u := MtI.of pf_X5_shareOf (fun _ => Nat.le_of_ble_eq_true rfl) (fun G C hQ => w_X5_shareOf_0 C hQ hz1 hz2 hμ h)
def f_X11_outside (z0 : Int) (z1 : Int) (z2 : Int) (μ : GM) : Option (Int × GM) :=
  if z0 < z1 then
    some (1 % 2, μ)
  else
    if z2 < z0 then
      some (1 % 2, μ)
    else
      some (0 % 2, μ)
set_option maxHeartbeats 4000000 in
set_option maxRecDepth 100000 in
theorem w_X11_outside_0 {G : GX} {u : Int × GM} (C : CX G 0 cX11_outside 3 RX11) (hQ : gQI G (some .boolean) u) {z0 : Int} (hz0 : r32 z0) {z1 : Int} (hz1 : r32 z1) {z2 : Int} (hz2 : r32 z2) {μ : GM} (hμ : gRg μ) (h : f_X11_outside z0 z1 z2 μ = some u) : WM G 3 μ 0 [(0, vI z0), (1, vI z1), (2, vI z2)] [] := by
  unfold f_X11_outside at h
  refine o_iload_n C 0 dX11_outside_0 rfl rfl ?_
  refine o_iload_n C 1 dX11_outside_1 rfl rfl ?_
  refine o_icmp_lt (tgt := 10) C hz0 hz1 dX11_outside_2 (by decide) h (fun _ h => ?_) (fun _ h => ?_)
  · refine o_iconst C dX11_outside_10 ?_
    refine o_goto (tgt := 15) C dX11_outside_11 (by decide) ?_
    exact o_zret C hQ dX11_outside_15 h hμ
  · refine o_iload_n C 0 dX11_outside_5 rfl rfl ?_
    refine o_iload_n C 2 dX11_outside_6 rfl rfl ?_
    refine o_icmp_le (tgt := 14) C hz0 hz2 dX11_outside_7 (by decide) h (fun _ h => ?_) (fun _ h => ?_)
    · refine o_iconst C dX11_outside_14 ?_
      exact o_zret C hQ dX11_outside_15 h hμ
    · refine o_iconst C dX11_outside_10 ?_
      refine o_goto (tgt := 15) C dX11_outside_11 (by decide) ?_
      exact o_zret C hQ dX11_outside_15 h hμ
theorem c_X11_outside {z0 : Int} (hz0 : r32 z0) {z1 : Int} (hz1 : r32 z1) {z2 : Int} (hz2 : r32 z2) {μ : GM} (hμ : gRg μ) {u : Int × GM} (h : f_X11_outside z0 z1 z2 μ = some u) : MtI 0 yX11_outside cX11_outside 3 (some .boolean) (fun ad => [vI z0, vI z1, vI z2]) μ u := MtI.of pf_X11_outside (fun _ => Nat.le_of_ble_eq_true rfl) (fun G C hQ => w_X11_outside_0 C hQ hz0 hz1 hz2 hμ h)
def f_X11_cell (z1 : Int) (z2 : Int) (z3 : Int) (μ : GM) : Option (Int × GM) :=
  bd (f_X11_outside z1 0 500 μ) fun x1 μ2 =>
  if x1 = 0 then
    bd (f_X11_outside z2 0 99 μ2) fun x3 μ4 =>
    if x3 = 0 then
      bd (f_X11_outside z3 1 9 μ4) fun x5 μ6 =>
      if x5 = 0 then
        if (μ6.2 1 0) < 6 then
          bd (f_X6_forget 94 μ6) fun _x7 μ8 =>
          bd (f_X2_addCell z1 z2 z3 μ8) fun x9 μ10 =>
          some (x9, μ10)
        else
          some ((-10000004), μ6)
      else
        some ((-10000002), μ6)
    else
      some ((-10000002), μ4)
  else
    some ((-10000002), μ2)
set_option maxHeartbeats 4000000 in
set_option maxRecDepth 100000 in
theorem w_X11_cell_0 {G : GX} {u : Int × GM} (C : CX G 2 cX11_cell 4 RX11) (hQ : gQI G (some .int) u) {z1 : Int} (hz1 : r32 z1) {z2 : Int} (hz2 : r32 z2) {z3 : Int} (hz3 : r32 z3) {μ : GM} (hμ : gRg μ) (h : f_X11_cell z1 z2 z3 μ = some u) : WM G 4 μ 0 [(0, gR G 0), (1, vI z1), (2, vI z2), (3, vI z3)] [] := by
  unfold f_X11_cell at h
  refine o_iload_n C 1 dX11_cell_0 rfl rfl ?_
  refine o_iconst C dX11_cell_1 ?_
  refine o_sipush (v := 500) C dX11_cell_2 (by decide) ?_
  refine o_cSI C [vI z1, vI 0, vI 500] mb_X11_outside (by decide) (fun _ hu => c_X11_outside hz1 ⟨by decide, by decide⟩ ⟨by decide, by decide⟩ hμ hu) rfl (Nat.le_of_ble_eq_true rfl) h ms_X11_outside lkm_RX11_66 rfl rfl dX11_cell_5 (fun x1 μ2 hx1 hμ2 h => ?_)
  refine o_if_ne (tgt := 31) C hx1 dX11_cell_8 (by decide) h (fun _ h => ?_) (fun _ h => ?_)
  · refine o_ldc (v := (-10000002)) C lkc_RX11_70 rfl dX11_cell_31 ?_
    exact o_iret C hQ dX11_cell_33 h ⟨by decide, by decide⟩ hμ2
  · refine o_iload_n C 2 dX11_cell_11 rfl rfl ?_
    refine o_iconst C dX11_cell_12 ?_
    refine o_bipush (v := 99) C dX11_cell_13 (by decide) ?_
    refine o_cSI C [vI z2, vI 0, vI 99] mb_X11_outside (by decide) (fun _ hu => c_X11_outside hz2 ⟨by decide, by decide⟩ ⟨by decide, by decide⟩ hμ2 hu) rfl (Nat.le_of_ble_eq_true rfl) h ms_X11_outside lkm_RX11_66 rfl rfl dX11_cell_15 (fun x3 μ4 hx3 hμ4 h => ?_)
    refine o_if_ne (tgt := 31) C hx3 dX11_cell_18 (by decide) h (fun _ h => ?_) (fun _ h => ?_)
    · refine o_ldc (v := (-10000002)) C lkc_RX11_70 rfl dX11_cell_31 ?_
      exact o_iret C hQ dX11_cell_33 h ⟨by decide, by decide⟩ hμ4
    · refine o_iload_n C 3 dX11_cell_21 rfl rfl ?_
      refine o_iconst C dX11_cell_22 ?_
      refine o_bipush (v := 9) C dX11_cell_23 (by decide) ?_
      refine o_cSI C [vI z3, vI 1, vI 9] mb_X11_outside (by decide) (fun _ hu => c_X11_outside hz3 ⟨by decide, by decide⟩ ⟨by decide, by decide⟩ hμ4 hu) rfl (Nat.le_of_ble_eq_true rfl) h ms_X11_outside lkm_RX11_66 rfl rfl dX11_cell_25 (fun x5 μ6 hx5 hμ6 h => ?_)
      refine o_if_eq (tgt := 34) C hx5 dX11_cell_28 (by decide) h (fun _ h => ?_) (fun _ h => ?_)
      · refine o_aload_n C 0 dX11_cell_34 rfl rfl ?_
        refine o_getR (j := 0) C kt_0 rfl rfl (Nat.le_of_ble_eq_true rfl) lkf_RX11_10 dX11_cell_35 ?_
        refine o_getI (j := 0) C kt_1 rfl rfl (Nat.le_of_ble_eq_true rfl) lkf_RX11_71 dX11_cell_38 ?_
        refine o_bipush (v := 6) C dX11_cell_41 (by decide) ?_
        refine o_icmp_lt (tgt := 49) C (hμ6.fi kt_1 rfl (by decide)) ⟨by decide, by decide⟩ dX11_cell_43 (by decide) h (fun _ h => ?_) (fun _ h => ?_)
        · refine o_aload_n C 0 dX11_cell_49 rfl rfl ?_
          refine o_getR (j := 1) C kt_0 rfl rfl (Nat.le_of_ble_eq_true rfl) lkf_RX11_21 dX11_cell_50 ?_
          refine o_cVV C [] mb_X6_forget (by decide) (fun _ hu => c_X6_forget gRt_A hμ6 hu) rfl (Nat.le_of_ble_eq_true rfl) h mi_X6_forget me_X6_forget lkm_RX11_76 kt_94 rfl rfl rfl dX11_cell_53 (fun _x7 μ8 hμ8 h => ?_)
          refine o_aload_n C 0 dX11_cell_56 rfl rfl ?_
          refine o_getR (j := 0) C kt_0 rfl rfl (Nat.le_of_ble_eq_true rfl) lkf_RX11_10 dX11_cell_57 ?_
          refine o_iload_n C 1 dX11_cell_60 rfl rfl ?_
          refine o_iload_n C 2 dX11_cell_61 rfl rfl ?_
          refine o_iload_n C 3 dX11_cell_62 rfl rfl ?_
          refine o_cVI C [vI z1, vI z2, vI z3] mb_X2_addCell (by decide) (fun _ hu => c_X2_addCell hz1 hz2 hz3 hμ8 hu) rfl (Nat.le_of_ble_eq_true rfl) h mi_X2_addCell me_X2_addCell lkm_RX11_79 kt_1 rfl rfl rfl dX11_cell_63 (fun x9 μ10 hx9 hμ10 h => ?_)
          exact o_iret C hQ dX11_cell_66 h hx9 hμ10
        · refine o_ldc (v := (-10000004)) C lkc_RX11_75 rfl dX11_cell_46 ?_
          exact o_iret C hQ dX11_cell_48 h ⟨by decide, by decide⟩ hμ6
      · refine o_ldc (v := (-10000002)) C lkc_RX11_70 rfl dX11_cell_31 ?_
        exact o_iret C hQ dX11_cell_33 h ⟨by decide, by decide⟩ hμ6
theorem c_X11_cell {z1 : Int} (hz1 : r32 z1) {z2 : Int} (hz2 : r32 z2) {z3 : Int} (hz3 : r32 z3) {μ : GM} (hμ : gRg μ) {u : Int × GM} (h : f_X11_cell z1 z2 z3 μ = some u) : MtI 2 yX11_cell cX11_cell 4 (some .int) (fun ad => [.ref (ad 0), vI z1, vI z2, vI z3]) μ u := MtI.of pf_X11_cell (fun _ => Nat.le_of_ble_eq_true rfl) (fun G C hQ => w_X11_cell_0 C hQ hz1 hz2 hz3 hμ h)
def f_X11_link (z1 : Int) (z2 : Int) (z3 : Int) (μ : GM) : Option (Int × GM) :=
  bd (f_X2_hasCell z1 μ) fun x1 μ2 =>
  if x1 = 0 then
    some ((-10000001), μ2)
  else
    bd (f_X2_hasCell z2 μ2) fun x3 μ4 =>
    if x3 = 0 then
      some ((-10000001), μ4)
    else
      bd (f_X11_outside z3 1 9 μ4) fun x5 μ6 =>
      if x5 = 0 then
        if z1 = z2 then
          some ((-10000003), μ6)
        else
          if (μ6.2 5 0) < 12 then
            bd (f_X6_forget 94 μ6) fun _x7 μ8 =>
            bd (f_X3_add z1 z2 z3 μ8) fun x9 μ10 =>
            some (x9, μ10)
          else
            some ((-10000004), μ6)
      else
        some ((-10000002), μ6)
set_option maxHeartbeats 4000000 in
set_option maxRecDepth 100000 in
theorem w_X11_link_0 {G : GX} {u : Int × GM} (C : CX G 2 cX11_link 4 RX11) (hQ : gQI G (some .int) u) {z1 : Int} (hz1 : r32 z1) {z2 : Int} (hz2 : r32 z2) {z3 : Int} (hz3 : r32 z3) {μ : GM} (hμ : gRg μ) (h : f_X11_link z1 z2 z3 μ = some u) : WM G 4 μ 0 [(0, gR G 0), (1, vI z1), (2, vI z2), (3, vI z3)] [] := by
  unfold f_X11_link at h
  refine o_aload_n C 0 dX11_link_0 rfl rfl ?_
  refine o_getR (j := 0) C kt_0 rfl rfl (Nat.le_of_ble_eq_true rfl) lkf_RX11_10 dX11_link_1 ?_
  refine o_iload_n C 1 dX11_link_4 rfl rfl ?_
  refine o_cVI C [vI z1] mb_X2_hasCell (by decide) (fun _ hu => c_X2_hasCell hz1 hμ hu) rfl (Nat.le_of_ble_eq_true rfl) h mi_X2_hasCell me_X2_hasCell lkm_RX11_83 kt_1 rfl rfl rfl dX11_link_5 (fun x1 μ2 hx1 hμ2 h => ?_)
  refine o_if_eq (tgt := 22) C hx1 dX11_link_8 (by decide) h (fun _ h => ?_) (fun _ h => ?_)
  · refine o_ldc (v := (-10000001)) C lkc_RX11_87 rfl dX11_link_22 ?_
    exact o_iret C hQ dX11_link_24 h ⟨by decide, by decide⟩ hμ2
  · refine o_aload_n C 0 dX11_link_11 rfl rfl ?_
    refine o_getR (j := 0) C kt_0 rfl rfl (Nat.le_of_ble_eq_true rfl) lkf_RX11_10 dX11_link_12 ?_
    refine o_iload_n C 2 dX11_link_15 rfl rfl ?_
    refine o_cVI C [vI z2] mb_X2_hasCell (by decide) (fun _ hu => c_X2_hasCell hz2 hμ2 hu) rfl (Nat.le_of_ble_eq_true rfl) h mi_X2_hasCell me_X2_hasCell lkm_RX11_83 kt_1 rfl rfl rfl dX11_link_16 (fun x3 μ4 hx3 hμ4 h => ?_)
    refine o_if_ne (tgt := 25) C hx3 dX11_link_19 (by decide) h (fun _ h => ?_) (fun _ h => ?_)
    · refine o_iload_n C 3 dX11_link_25 rfl rfl ?_
      refine o_iconst C dX11_link_26 ?_
      refine o_bipush (v := 9) C dX11_link_27 (by decide) ?_
      refine o_cSI C [vI z3, vI 1, vI 9] mb_X11_outside (by decide) (fun _ hu => c_X11_outside hz3 ⟨by decide, by decide⟩ ⟨by decide, by decide⟩ hμ4 hu) rfl (Nat.le_of_ble_eq_true rfl) h ms_X11_outside lkm_RX11_66 rfl rfl dX11_link_29 (fun x5 μ6 hx5 hμ6 h => ?_)
      refine o_if_eq (tgt := 38) C hx5 dX11_link_32 (by decide) h (fun _ h => ?_) (fun _ h => ?_)
      · refine o_iload_n C 1 dX11_link_38 rfl rfl ?_
        refine o_iload_n C 2 dX11_link_39 rfl rfl ?_
        refine o_icmp_ne (tgt := 46) C hz1 hz2 dX11_link_40 (by decide) h (fun _ h => ?_) (fun _ h => ?_)
        · refine o_aload_n C 0 dX11_link_46 rfl rfl ?_
          refine o_getR (j := 0) C kt_0 rfl rfl (Nat.le_of_ble_eq_true rfl) lkf_RX11_10 dX11_link_47 ?_
          refine o_getR (j := 4) C kt_1 rfl rfl (Nat.le_of_ble_eq_true rfl) lkf_RX11_89 dX11_link_50 ?_
          refine o_getI (j := 0) C kt_5 rfl rfl (Nat.le_of_ble_eq_true rfl) lkf_RX11_93 dX11_link_53 ?_
          refine o_bipush (v := 12) C dX11_link_56 (by decide) ?_
          refine o_icmp_lt (tgt := 64) C (hμ6.fi kt_5 rfl (by decide)) ⟨by decide, by decide⟩ dX11_link_58 (by decide) h (fun _ h => ?_) (fun _ h => ?_)
          · refine o_aload_n C 0 dX11_link_64 rfl rfl ?_
            refine o_getR (j := 1) C kt_0 rfl rfl (Nat.le_of_ble_eq_true rfl) lkf_RX11_21 dX11_link_65 ?_
            refine o_cVV C [] mb_X6_forget (by decide) (fun _ hu => c_X6_forget gRt_A hμ6 hu) rfl (Nat.le_of_ble_eq_true rfl) h mi_X6_forget me_X6_forget lkm_RX11_76 kt_94 rfl rfl rfl dX11_link_68 (fun _x7 μ8 hμ8 h => ?_)
            refine o_aload_n C 0 dX11_link_71 rfl rfl ?_
            refine o_getR (j := 0) C kt_0 rfl rfl (Nat.le_of_ble_eq_true rfl) lkf_RX11_10 dX11_link_72 ?_
            refine o_getR (j := 4) C kt_1 rfl rfl (Nat.le_of_ble_eq_true rfl) lkf_RX11_89 dX11_link_75 ?_
            refine o_iload_n C 1 dX11_link_78 rfl rfl ?_
            refine o_iload_n C 2 dX11_link_79 rfl rfl ?_
            refine o_iload_n C 3 dX11_link_80 rfl rfl ?_
            refine o_cVI C [vI z1, vI z2, vI z3] mb_X3_add (by decide) (fun _ hu => c_X3_add hz1 hz2 hz3 hμ8 hu) rfl (Nat.le_of_ble_eq_true rfl) h mi_X3_add me_X3_add lkm_RX11_98 kt_5 rfl rfl rfl dX11_link_81 (fun x9 μ10 hx9 hμ10 h => ?_)
            exact o_iret C hQ dX11_link_84 h hx9 hμ10
          · refine o_ldc (v := (-10000004)) C lkc_RX11_75 rfl dX11_link_61 ?_
            exact o_iret C hQ dX11_link_63 h ⟨by decide, by decide⟩ hμ6
        · refine o_ldc (v := (-10000003)) C lkc_RX11_88 rfl dX11_link_43 ?_
          exact o_iret C hQ dX11_link_45 h ⟨by decide, by decide⟩ hμ6
      · refine o_ldc (v := (-10000002)) C lkc_RX11_70 rfl dX11_link_35 ?_
        exact o_iret C hQ dX11_link_37 h ⟨by decide, by decide⟩ hμ6
    · refine o_ldc (v := (-10000001)) C lkc_RX11_87 rfl dX11_link_22 ?_
      exact o_iret C hQ dX11_link_24 h ⟨by decide, by decide⟩ hμ4
theorem c_X11_link {z1 : Int} (hz1 : r32 z1) {z2 : Int} (hz2 : r32 z2) {z3 : Int} (hz3 : r32 z3) {μ : GM} (hμ : gRg μ) {u : Int × GM} (h : f_X11_link z1 z2 z3 μ = some u) : MtI 2 yX11_link cX11_link 4 (some .int) (fun ad => [.ref (ad 0), vI z1, vI z2, vI z3]) μ u := MtI.of pf_X11_link (fun _ => Nat.le_of_ble_eq_true rfl) (fun G C hQ => w_X11_link_0 C hQ hz1 hz2 hz3 hμ h)
def f_X11_river (z1 : Int) (z2 : Int) (z3 : Int) (z4 : Int) (μ : GM) : Option (Int × GM) :=
  bd (f_X2_hasCell z1 μ) fun x1 μ2 =>
  if x1 = 0 then
    some ((-10000001), μ2)
  else
    bd (f_X11_outside z2 0 1000 μ2) fun x3 μ4 =>
    if x3 = 0 then
      bd (f_X11_outside z3 0 z2 μ4) fun x5 μ6 =>
      if x5 = 0 then
        bd (f_X11_outside z4 1 9 μ6) fun x7 μ8 =>
        if x7 = 0 then
          if (μ8.2 9 0) < 3 then
            bd (f_X6_forget 94 μ8) fun _x9 μ10 =>
            bd (f_X7_add z1 z2 z3 z4 μ10) fun x11 μ12 =>
            some (x11, μ12)
          else
            some ((-10000004), μ8)
        else
          some ((-10000002), μ8)
      else
        some ((-10000002), μ6)
    else
      some ((-10000002), μ4)
set_option maxHeartbeats 4000000 in
set_option maxRecDepth 100000 in
theorem w_X11_river_0 {G : GX} {u : Int × GM} (C : CX G 2 cX11_river 5 RX11) (hQ : gQI G (some .int) u) {z1 : Int} (hz1 : r32 z1) {z2 : Int} (hz2 : r32 z2) {z3 : Int} (hz3 : r32 z3) {z4 : Int} (hz4 : r32 z4) {μ : GM} (hμ : gRg μ) (h : f_X11_river z1 z2 z3 z4 μ = some u) : WM G 5 μ 0 [(0, gR G 0), (1, vI z1), (2, vI z2), (3, vI z3), (4, vI z4)] [] := by
  unfold f_X11_river at h
  refine o_aload_n C 0 dX11_river_0 rfl rfl ?_
  refine o_getR (j := 0) C kt_0 rfl rfl (Nat.le_of_ble_eq_true rfl) lkf_RX11_10 dX11_river_1 ?_
  refine o_iload_n C 1 dX11_river_4 rfl rfl ?_
  refine o_cVI C [vI z1] mb_X2_hasCell (by decide) (fun _ hu => c_X2_hasCell hz1 hμ hu) rfl (Nat.le_of_ble_eq_true rfl) h mi_X2_hasCell me_X2_hasCell lkm_RX11_83 kt_1 rfl rfl rfl dX11_river_5 (fun x1 μ2 hx1 hμ2 h => ?_)
  refine o_if_ne (tgt := 14) C hx1 dX11_river_8 (by decide) h (fun _ h => ?_) (fun _ h => ?_)
  · refine o_iload_n C 2 dX11_river_14 rfl rfl ?_
    refine o_iconst C dX11_river_15 ?_
    refine o_sipush (v := 1000) C dX11_river_16 (by decide) ?_
    refine o_cSI C [vI z2, vI 0, vI 1000] mb_X11_outside (by decide) (fun _ hu => c_X11_outside hz2 ⟨by decide, by decide⟩ ⟨by decide, by decide⟩ hμ2 hu) rfl (Nat.le_of_ble_eq_true rfl) h ms_X11_outside lkm_RX11_66 rfl rfl dX11_river_19 (fun x3 μ4 hx3 hμ4 h => ?_)
    refine o_if_ne (tgt := 45) C hx3 dX11_river_22 (by decide) h (fun _ h => ?_) (fun _ h => ?_)
    · refine o_ldc (v := (-10000002)) C lkc_RX11_70 rfl dX11_river_45 ?_
      exact o_iret C hQ dX11_river_47 h ⟨by decide, by decide⟩ hμ4
    · refine o_iload_n C 3 dX11_river_25 rfl rfl ?_
      refine o_iconst C dX11_river_26 ?_
      refine o_iload_n C 2 dX11_river_27 rfl rfl ?_
      refine o_cSI C [vI z3, vI 0, vI z2] mb_X11_outside (by decide) (fun _ hu => c_X11_outside hz3 ⟨by decide, by decide⟩ hz2 hμ4 hu) rfl (Nat.le_of_ble_eq_true rfl) h ms_X11_outside lkm_RX11_66 rfl rfl dX11_river_28 (fun x5 μ6 hx5 hμ6 h => ?_)
      refine o_if_ne (tgt := 45) C hx5 dX11_river_31 (by decide) h (fun _ h => ?_) (fun _ h => ?_)
      · refine o_ldc (v := (-10000002)) C lkc_RX11_70 rfl dX11_river_45 ?_
        exact o_iret C hQ dX11_river_47 h ⟨by decide, by decide⟩ hμ6
      · refine o_iload C 4 dX11_river_34 rfl ?_
        refine o_iconst C dX11_river_36 ?_
        refine o_bipush (v := 9) C dX11_river_37 (by decide) ?_
        refine o_cSI C [vI z4, vI 1, vI 9] mb_X11_outside (by decide) (fun _ hu => c_X11_outside hz4 ⟨by decide, by decide⟩ ⟨by decide, by decide⟩ hμ6 hu) rfl (Nat.le_of_ble_eq_true rfl) h ms_X11_outside lkm_RX11_66 rfl rfl dX11_river_39 (fun x7 μ8 hx7 hμ8 h => ?_)
        refine o_if_eq (tgt := 48) C hx7 dX11_river_42 (by decide) h (fun _ h => ?_) (fun _ h => ?_)
        · refine o_aload_n C 0 dX11_river_48 rfl rfl ?_
          refine o_getR (j := 0) C kt_0 rfl rfl (Nat.le_of_ble_eq_true rfl) lkf_RX11_10 dX11_river_49 ?_
          refine o_getR (j := 5) C kt_1 rfl rfl (Nat.le_of_ble_eq_true rfl) lkf_RX11_101 dX11_river_52 ?_
          refine o_getI (j := 0) C kt_9 rfl rfl (Nat.le_of_ble_eq_true rfl) lkf_RX11_105 dX11_river_55 ?_
          refine o_iconst C dX11_river_58 ?_
          refine o_icmp_lt (tgt := 65) C (hμ8.fi kt_9 rfl (by decide)) ⟨by decide, by decide⟩ dX11_river_59 (by decide) h (fun _ h => ?_) (fun _ h => ?_)
          · refine o_aload_n C 0 dX11_river_65 rfl rfl ?_
            refine o_getR (j := 1) C kt_0 rfl rfl (Nat.le_of_ble_eq_true rfl) lkf_RX11_21 dX11_river_66 ?_
            refine o_cVV C [] mb_X6_forget (by decide) (fun _ hu => c_X6_forget gRt_A hμ8 hu) rfl (Nat.le_of_ble_eq_true rfl) h mi_X6_forget me_X6_forget lkm_RX11_76 kt_94 rfl rfl rfl dX11_river_69 (fun _x9 μ10 hμ10 h => ?_)
            refine o_aload_n C 0 dX11_river_72 rfl rfl ?_
            refine o_getR (j := 0) C kt_0 rfl rfl (Nat.le_of_ble_eq_true rfl) lkf_RX11_10 dX11_river_73 ?_
            refine o_getR (j := 5) C kt_1 rfl rfl (Nat.le_of_ble_eq_true rfl) lkf_RX11_101 dX11_river_76 ?_
            refine o_iload_n C 1 dX11_river_79 rfl rfl ?_
            refine o_iload_n C 2 dX11_river_80 rfl rfl ?_
            refine o_iload_n C 3 dX11_river_81 rfl rfl ?_
            refine o_iload C 4 dX11_river_82 rfl ?_
            refine o_cVI C [vI z1, vI z2, vI z3, vI z4] mb_X7_add (by decide) (fun _ hu => c_X7_add hz1 hz2 hz3 hz4 hμ10 hu) rfl (Nat.le_of_ble_eq_true rfl) h mi_X7_add me_X7_add lkm_RX11_108 kt_9 rfl rfl rfl dX11_river_84 (fun x11 μ12 hx11 hμ12 h => ?_)
            exact o_iret C hQ dX11_river_87 h hx11 hμ12
          · refine o_ldc (v := (-10000004)) C lkc_RX11_75 rfl dX11_river_62 ?_
            exact o_iret C hQ dX11_river_64 h ⟨by decide, by decide⟩ hμ8
        · refine o_ldc (v := (-10000002)) C lkc_RX11_70 rfl dX11_river_45 ?_
          exact o_iret C hQ dX11_river_47 h ⟨by decide, by decide⟩ hμ8
  · refine o_ldc (v := (-10000001)) C lkc_RX11_87 rfl dX11_river_11 ?_
    exact o_iret C hQ dX11_river_13 h ⟨by decide, by decide⟩ hμ2
theorem c_X11_river {z1 : Int} (hz1 : r32 z1) {z2 : Int} (hz2 : r32 z2) {z3 : Int} (hz3 : r32 z3) {z4 : Int} (hz4 : r32 z4) {μ : GM} (hμ : gRg μ) {u : Int × GM} (h : f_X11_river z1 z2 z3 z4 μ = some u) : MtI 2 yX11_river cX11_river 5 (some .int) (fun ad => [.ref (ad 0), vI z1, vI z2, vI z3, vI z4]) μ u := MtI.of pf_X11_river (fun _ => Nat.le_of_ble_eq_true rfl) (fun G C hQ => w_X11_river_0 C hQ hz1 hz2 hz3 hz4 hμ h)
def f_X11_drain (z1 : Int) (z2 : Int) (z3 : Int) (μ : GM) : Option (Int × GM) :=
  bd (f_X2_hasCell z1 μ) fun x1 μ2 =>
  if x1 = 0 then
    some ((-10000001), μ2)
  else
    bd (f_X11_outside z2 0 1000 μ2) fun x3 μ4 =>
    if x3 = 0 then
      bd (f_X11_outside z3 1 9 μ4) fun x5 μ6 =>
      if x5 = 0 then
        if (μ6.2 14 0) < 2 then
          bd (f_X6_forget 94 μ6) fun _x7 μ8 =>
          bd (f_X1_add z1 z2 z3 μ8) fun x9 μ10 =>
          some (x9, μ10)
        else
          some ((-10000004), μ6)
      else
        some ((-10000002), μ6)
    else
      some ((-10000002), μ4)
set_option maxHeartbeats 4000000 in
set_option maxRecDepth 100000 in
theorem w_X11_drain_0 {G : GX} {u : Int × GM} (C : CX G 2 cX11_drain 4 RX11) (hQ : gQI G (some .int) u) {z1 : Int} (hz1 : r32 z1) {z2 : Int} (hz2 : r32 z2) {z3 : Int} (hz3 : r32 z3) {μ : GM} (hμ : gRg μ) (h : f_X11_drain z1 z2 z3 μ = some u) : WM G 4 μ 0 [(0, gR G 0), (1, vI z1), (2, vI z2), (3, vI z3)] [] := by
  unfold f_X11_drain at h
  refine o_aload_n C 0 dX11_drain_0 rfl rfl ?_
  refine o_getR (j := 0) C kt_0 rfl rfl (Nat.le_of_ble_eq_true rfl) lkf_RX11_10 dX11_drain_1 ?_
  refine o_iload_n C 1 dX11_drain_4 rfl rfl ?_
  refine o_cVI C [vI z1] mb_X2_hasCell (by decide) (fun _ hu => c_X2_hasCell hz1 hμ hu) rfl (Nat.le_of_ble_eq_true rfl) h mi_X2_hasCell me_X2_hasCell lkm_RX11_83 kt_1 rfl rfl rfl dX11_drain_5 (fun x1 μ2 hx1 hμ2 h => ?_)
  refine o_if_ne (tgt := 14) C hx1 dX11_drain_8 (by decide) h (fun _ h => ?_) (fun _ h => ?_)
  · refine o_iload_n C 2 dX11_drain_14 rfl rfl ?_
    refine o_iconst C dX11_drain_15 ?_
    refine o_sipush (v := 1000) C dX11_drain_16 (by decide) ?_
    refine o_cSI C [vI z2, vI 0, vI 1000] mb_X11_outside (by decide) (fun _ hu => c_X11_outside hz2 ⟨by decide, by decide⟩ ⟨by decide, by decide⟩ hμ2 hu) rfl (Nat.le_of_ble_eq_true rfl) h ms_X11_outside lkm_RX11_66 rfl rfl dX11_drain_19 (fun x3 μ4 hx3 hμ4 h => ?_)
    refine o_if_ne (tgt := 35) C hx3 dX11_drain_22 (by decide) h (fun _ h => ?_) (fun _ h => ?_)
    · refine o_ldc (v := (-10000002)) C lkc_RX11_70 rfl dX11_drain_35 ?_
      exact o_iret C hQ dX11_drain_37 h ⟨by decide, by decide⟩ hμ4
    · refine o_iload_n C 3 dX11_drain_25 rfl rfl ?_
      refine o_iconst C dX11_drain_26 ?_
      refine o_bipush (v := 9) C dX11_drain_27 (by decide) ?_
      refine o_cSI C [vI z3, vI 1, vI 9] mb_X11_outside (by decide) (fun _ hu => c_X11_outside hz3 ⟨by decide, by decide⟩ ⟨by decide, by decide⟩ hμ4 hu) rfl (Nat.le_of_ble_eq_true rfl) h ms_X11_outside lkm_RX11_66 rfl rfl dX11_drain_29 (fun x5 μ6 hx5 hμ6 h => ?_)
      refine o_if_eq (tgt := 38) C hx5 dX11_drain_32 (by decide) h (fun _ h => ?_) (fun _ h => ?_)
      · refine o_aload_n C 0 dX11_drain_38 rfl rfl ?_
        refine o_getR (j := 0) C kt_0 rfl rfl (Nat.le_of_ble_eq_true rfl) lkf_RX11_10 dX11_drain_39 ?_
        refine o_getR (j := 6) C kt_1 rfl rfl (Nat.le_of_ble_eq_true rfl) lkf_RX11_111 dX11_drain_42 ?_
        refine o_getI (j := 0) C kt_14 rfl rfl (Nat.le_of_ble_eq_true rfl) lkf_RX11_115 dX11_drain_45 ?_
        refine o_iconst C dX11_drain_48 ?_
        refine o_icmp_lt (tgt := 55) C (hμ6.fi kt_14 rfl (by decide)) ⟨by decide, by decide⟩ dX11_drain_49 (by decide) h (fun _ h => ?_) (fun _ h => ?_)
        · refine o_aload_n C 0 dX11_drain_55 rfl rfl ?_
          refine o_getR (j := 1) C kt_0 rfl rfl (Nat.le_of_ble_eq_true rfl) lkf_RX11_21 dX11_drain_56 ?_
          refine o_cVV C [] mb_X6_forget (by decide) (fun _ hu => c_X6_forget gRt_A hμ6 hu) rfl (Nat.le_of_ble_eq_true rfl) h mi_X6_forget me_X6_forget lkm_RX11_76 kt_94 rfl rfl rfl dX11_drain_59 (fun _x7 μ8 hμ8 h => ?_)
          refine o_aload_n C 0 dX11_drain_62 rfl rfl ?_
          refine o_getR (j := 0) C kt_0 rfl rfl (Nat.le_of_ble_eq_true rfl) lkf_RX11_10 dX11_drain_63 ?_
          refine o_getR (j := 6) C kt_1 rfl rfl (Nat.le_of_ble_eq_true rfl) lkf_RX11_111 dX11_drain_66 ?_
          refine o_iload_n C 1 dX11_drain_69 rfl rfl ?_
          refine o_iload_n C 2 dX11_drain_70 rfl rfl ?_
          refine o_iload_n C 3 dX11_drain_71 rfl rfl ?_
          refine o_cVI C [vI z1, vI z2, vI z3] mb_X1_add (by decide) (fun _ hu => c_X1_add hz1 hz2 hz3 hμ8 hu) rfl (Nat.le_of_ble_eq_true rfl) h mi_X1_add me_X1_add lkm_RX11_118 kt_14 rfl rfl rfl dX11_drain_72 (fun x9 μ10 hx9 hμ10 h => ?_)
          exact o_iret C hQ dX11_drain_75 h hx9 hμ10
        · refine o_ldc (v := (-10000004)) C lkc_RX11_75 rfl dX11_drain_52 ?_
          exact o_iret C hQ dX11_drain_54 h ⟨by decide, by decide⟩ hμ6
      · refine o_ldc (v := (-10000002)) C lkc_RX11_70 rfl dX11_drain_35 ?_
        exact o_iret C hQ dX11_drain_37 h ⟨by decide, by decide⟩ hμ6
  · refine o_ldc (v := (-10000001)) C lkc_RX11_87 rfl dX11_drain_11 ?_
    exact o_iret C hQ dX11_drain_13 h ⟨by decide, by decide⟩ hμ2
theorem c_X11_drain {z1 : Int} (hz1 : r32 z1) {z2 : Int} (hz2 : r32 z2) {z3 : Int} (hz3 : r32 z3) {μ : GM} (hμ : gRg μ) {u : Int × GM} (h : f_X11_drain z1 z2 z3 μ = some u) : MtI 2 yX11_drain cX11_drain 4 (some .int) (fun ad => [.ref (ad 0), vI z1, vI z2, vI z3]) μ u := MtI.of pf_X11_drain (fun _ => Nat.le_of_ble_eq_true rfl) (fun G C hQ => w_X11_drain_0 C hQ hz1 hz2 hz3 hμ h)
def f_X11_well (z1 : Int) (z2 : Int) (z3 : Int) (μ : GM) : Option (Int × GM) :=
  bd (f_X2_hasCell z1 μ) fun x1 μ2 =>
  if x1 = 0 then
    some ((-10000001), μ2)
  else
    bd (f_X11_outside z2 0 99 μ2) fun x3 μ4 =>
    if x3 = 0 then
      bd (f_X11_outside z3 0 99 μ4) fun x5 μ6 =>
      if x5 = 0 then
        if (μ6.2 18 0) < 3 then
          bd (f_X9_add z1 z2 z3 μ6) fun x7 μ8 =>
          some (x7, μ8)
        else
          some ((-10000004), μ6)
      else
        some ((-10000002), μ6)
    else
      some ((-10000002), μ4)
set_option maxHeartbeats 4000000 in
set_option maxRecDepth 100000 in
theorem w_X11_well_0 {G : GX} {u : Int × GM} (C : CX G 1 cX11_well 4 RX11) (hQ : gQI G (some .int) u) {z1 : Int} (hz1 : r32 z1) {z2 : Int} (hz2 : r32 z2) {z3 : Int} (hz3 : r32 z3) {μ : GM} (hμ : gRg μ) (h : f_X11_well z1 z2 z3 μ = some u) : WM G 4 μ 0 [(0, gR G 0), (1, vI z1), (2, vI z2), (3, vI z3)] [] := by
  unfold f_X11_well at h
  refine o_aload_n C 0 dX11_well_0 rfl rfl ?_
  refine o_getR (j := 0) C kt_0 rfl rfl (Nat.le_of_ble_eq_true rfl) lkf_RX11_10 dX11_well_1 ?_
  refine o_iload_n C 1 dX11_well_4 rfl rfl ?_
  refine o_cVI C [vI z1] mb_X2_hasCell (by decide) (fun _ hu => c_X2_hasCell hz1 hμ hu) rfl (Nat.le_of_ble_eq_true rfl) h mi_X2_hasCell me_X2_hasCell lkm_RX11_83 kt_1 rfl rfl rfl dX11_well_5 (fun x1 μ2 hx1 hμ2 h => ?_)
  refine o_if_ne (tgt := 14) C hx1 dX11_well_8 (by decide) h (fun _ h => ?_) (fun _ h => ?_)
  · refine o_iload_n C 2 dX11_well_14 rfl rfl ?_
    refine o_iconst C dX11_well_15 ?_
    refine o_bipush (v := 99) C dX11_well_16 (by decide) ?_
    refine o_cSI C [vI z2, vI 0, vI 99] mb_X11_outside (by decide) (fun _ hu => c_X11_outside hz2 ⟨by decide, by decide⟩ ⟨by decide, by decide⟩ hμ2 hu) rfl (Nat.le_of_ble_eq_true rfl) h ms_X11_outside lkm_RX11_66 rfl rfl dX11_well_18 (fun x3 μ4 hx3 hμ4 h => ?_)
    refine o_if_ne (tgt := 34) C hx3 dX11_well_21 (by decide) h (fun _ h => ?_) (fun _ h => ?_)
    · refine o_ldc (v := (-10000002)) C lkc_RX11_70 rfl dX11_well_34 ?_
      exact o_iret C hQ dX11_well_36 h ⟨by decide, by decide⟩ hμ4
    · refine o_iload_n C 3 dX11_well_24 rfl rfl ?_
      refine o_iconst C dX11_well_25 ?_
      refine o_bipush (v := 99) C dX11_well_26 (by decide) ?_
      refine o_cSI C [vI z3, vI 0, vI 99] mb_X11_outside (by decide) (fun _ hu => c_X11_outside hz3 ⟨by decide, by decide⟩ ⟨by decide, by decide⟩ hμ4 hu) rfl (Nat.le_of_ble_eq_true rfl) h ms_X11_outside lkm_RX11_66 rfl rfl dX11_well_28 (fun x5 μ6 hx5 hμ6 h => ?_)
      refine o_if_eq (tgt := 37) C hx5 dX11_well_31 (by decide) h (fun _ h => ?_) (fun _ h => ?_)
      · refine o_aload_n C 0 dX11_well_37 rfl rfl ?_
        refine o_getR (j := 0) C kt_0 rfl rfl (Nat.le_of_ble_eq_true rfl) lkf_RX11_10 dX11_well_38 ?_
        refine o_getR (j := 7) C kt_1 rfl rfl (Nat.le_of_ble_eq_true rfl) lkf_RX11_119 dX11_well_41 ?_
        refine o_getI (j := 0) C kt_18 rfl rfl (Nat.le_of_ble_eq_true rfl) lkf_RX11_123 dX11_well_44 ?_
        refine o_iconst C dX11_well_47 ?_
        refine o_icmp_lt (tgt := 54) C (hμ6.fi kt_18 rfl (by decide)) ⟨by decide, by decide⟩ dX11_well_48 (by decide) h (fun _ h => ?_) (fun _ h => ?_)
        · refine o_aload_n C 0 dX11_well_54 rfl rfl ?_
          refine o_getR (j := 0) C kt_0 rfl rfl (Nat.le_of_ble_eq_true rfl) lkf_RX11_10 dX11_well_55 ?_
          refine o_getR (j := 7) C kt_1 rfl rfl (Nat.le_of_ble_eq_true rfl) lkf_RX11_119 dX11_well_58 ?_
          refine o_iload_n C 1 dX11_well_61 rfl rfl ?_
          refine o_iload_n C 2 dX11_well_62 rfl rfl ?_
          refine o_iload_n C 3 dX11_well_63 rfl rfl ?_
          refine o_cVI C [vI z1, vI z2, vI z3] mb_X9_add (by decide) (fun _ hu => c_X9_add hz1 hz2 hz3 hμ6 hu) rfl (Nat.le_of_ble_eq_true rfl) h mi_X9_add me_X9_add lkm_RX11_126 kt_18 rfl rfl rfl dX11_well_64 (fun x7 μ8 hx7 hμ8 h => ?_)
          exact o_iret C hQ dX11_well_67 h hx7 hμ8
        · refine o_ldc (v := (-10000004)) C lkc_RX11_75 rfl dX11_well_51 ?_
          exact o_iret C hQ dX11_well_53 h ⟨by decide, by decide⟩ hμ6
      · refine o_ldc (v := (-10000002)) C lkc_RX11_70 rfl dX11_well_34 ?_
        exact o_iret C hQ dX11_well_36 h ⟨by decide, by decide⟩ hμ6
  · refine o_ldc (v := (-10000001)) C lkc_RX11_87 rfl dX11_well_11 ?_
    exact o_iret C hQ dX11_well_13 h ⟨by decide, by decide⟩ hμ2
theorem c_X11_well {z1 : Int} (hz1 : r32 z1) {z2 : Int} (hz2 : r32 z2) {z3 : Int} (hz3 : r32 z3) {μ : GM} (hμ : gRg μ) {u : Int × GM} (h : f_X11_well z1 z2 z3 μ = some u) : MtI 1 yX11_well cX11_well 4 (some .int) (fun ad => [.ref (ad 0), vI z1, vI z2, vI z3]) μ u := MtI.of pf_X11_well (fun _ => Nat.le_of_ble_eq_true rfl) (fun G C hQ => w_X11_well_0 C hQ hz1 hz2 hz3 hμ h)
def f_X11_rain (z1 : Int) (z2 : Int) (μ : GM) : Option (Int × GM) :=
  bd (f_X2_hasCell z1 μ) fun x1 μ2 =>
  if x1 = 0 then
    some ((-10000001), μ2)
  else
    bd (f_X11_outside z2 0 99 μ2) fun x3 μ4 =>
    if x3 = 0 then
      bd (f_X11_exchange 3 z1 z2 μ4) fun x5 μ6 =>
      some (x5, μ6)
    else
      some ((-10000002), μ4)
set_option maxHeartbeats 4000000 in
set_option maxRecDepth 100000 in
theorem w_X11_rain_0 {G : GX} {u : Int × GM} (C : CX G 1 cX11_rain 3 RX11) (hQ : gQI G (some .int) u) {z1 : Int} (hz1 : r32 z1) {z2 : Int} (hz2 : r32 z2) {μ : GM} (hμ : gRg μ) (h : f_X11_rain z1 z2 μ = some u) : WM G 3 μ 0 [(0, gR G 0), (1, vI z1), (2, vI z2)] [] := by
  unfold f_X11_rain at h
  refine o_aload_n C 0 dX11_rain_0 rfl rfl ?_
  refine o_getR (j := 0) C kt_0 rfl rfl (Nat.le_of_ble_eq_true rfl) lkf_RX11_10 dX11_rain_1 ?_
  refine o_iload_n C 1 dX11_rain_4 rfl rfl ?_
  refine o_cVI C [vI z1] mb_X2_hasCell (by decide) (fun _ hu => c_X2_hasCell hz1 hμ hu) rfl (Nat.le_of_ble_eq_true rfl) h mi_X2_hasCell me_X2_hasCell lkm_RX11_83 kt_1 rfl rfl rfl dX11_rain_5 (fun x1 μ2 hx1 hμ2 h => ?_)
  refine o_if_ne (tgt := 14) C hx1 dX11_rain_8 (by decide) h (fun _ h => ?_) (fun _ h => ?_)
  · refine o_iload_n C 2 dX11_rain_14 rfl rfl ?_
    refine o_iconst C dX11_rain_15 ?_
    refine o_bipush (v := 99) C dX11_rain_16 (by decide) ?_
    refine o_cSI C [vI z2, vI 0, vI 99] mb_X11_outside (by decide) (fun _ hu => c_X11_outside hz2 ⟨by decide, by decide⟩ ⟨by decide, by decide⟩ hμ2 hu) rfl (Nat.le_of_ble_eq_true rfl) h ms_X11_outside lkm_RX11_66 rfl rfl dX11_rain_18 (fun x3 μ4 hx3 hμ4 h => ?_)
    refine o_if_eq (tgt := 27) C hx3 dX11_rain_21 (by decide) h (fun _ h => ?_) (fun _ h => ?_)
    · refine o_aload_n C 0 dX11_rain_27 rfl rfl ?_
      refine o_getR (j := 0) C kt_0 rfl rfl (Nat.le_of_ble_eq_true rfl) lkf_RX11_10 dX11_rain_28 ?_
      refine o_getR (j := 2) C kt_1 rfl rfl (Nat.le_of_ble_eq_true rfl) lkf_RX11_127 dX11_rain_31 ?_
      refine o_iload_n C 1 dX11_rain_34 rfl rfl ?_
      refine o_iload_n C 2 dX11_rain_35 rfl rfl ?_
      refine o_cSI C [gR G 3, vI z1, vI z2] mb_X11_exchange (by decide) (fun _ hu => c_X11_exchange (kt_gen kt_3) hz1 hz2 hμ4 hu) rfl (Nat.le_of_ble_eq_true rfl) h ms_X11_exchange lkm_RX11_131 rfl rfl dX11_rain_36 (fun x5 μ6 hx5 hμ6 h => ?_)
      exact o_iret C hQ dX11_rain_39 h hx5 hμ6
    · refine o_ldc (v := (-10000002)) C lkc_RX11_70 rfl dX11_rain_24 ?_
      exact o_iret C hQ dX11_rain_26 h ⟨by decide, by decide⟩ hμ4
  · refine o_ldc (v := (-10000001)) C lkc_RX11_87 rfl dX11_rain_11 ?_
    exact o_iret C hQ dX11_rain_13 h ⟨by decide, by decide⟩ hμ2
theorem c_X11_rain {z1 : Int} (hz1 : r32 z1) {z2 : Int} (hz2 : r32 z2) {μ : GM} (hμ : gRg μ) {u : Int × GM} (h : f_X11_rain z1 z2 μ = some u) : MtI 1 yX11_rain cX11_rain 3 (some .int) (fun ad => [.ref (ad 0), vI z1, vI z2]) μ u := MtI.of pf_X11_rain (fun _ => Nat.le_of_ble_eq_true rfl) (fun G C hQ => w_X11_rain_0 C hQ hz1 hz2 hμ h)
def f_X11_ease (z1 : Int) (z2 : Int) (μ : GM) : Option (Int × GM) :=
  bd (f_X3_has z1 μ) fun x1 μ2 =>
  if x1 = 0 then
    some ((-10000001), μ2)
  else
    bd (f_X11_outside z2 1 9 μ2) fun x3 μ4 =>
    if x3 = 0 then
      bd (f_X6_forget 94 μ4) fun _x5 μ6 =>
      bd (f_X11_exchange 8 z1 z2 μ6) fun x7 μ8 =>
      some (x7, μ8)
    else
      some ((-10000002), μ4)
set_option maxHeartbeats 4000000 in
set_option maxRecDepth 100000 in
theorem w_X11_ease_0 {G : GX} {u : Int × GM} (C : CX G 2 cX11_ease 3 RX11) (hQ : gQI G (some .int) u) {z1 : Int} (hz1 : r32 z1) {z2 : Int} (hz2 : r32 z2) {μ : GM} (hμ : gRg μ) (h : f_X11_ease z1 z2 μ = some u) : WM G 3 μ 0 [(0, gR G 0), (1, vI z1), (2, vI z2)] [] := by
  unfold f_X11_ease at h
  refine o_aload_n C 0 dX11_ease_0 rfl rfl ?_
  refine o_getR (j := 0) C kt_0 rfl rfl (Nat.le_of_ble_eq_true rfl) lkf_RX11_10 dX11_ease_1 ?_
  refine o_getR (j := 4) C kt_1 rfl rfl (Nat.le_of_ble_eq_true rfl) lkf_RX11_89 dX11_ease_4 ?_
  refine o_iload_n C 1 dX11_ease_7 rfl rfl ?_
  refine o_cVI C [vI z1] mb_X3_has (by decide) (fun _ hu => c_X3_has hz1 hμ hu) rfl (Nat.le_of_ble_eq_true rfl) h mi_X3_has me_X3_has lkm_RX11_135 kt_5 rfl rfl rfl dX11_ease_8 (fun x1 μ2 hx1 hμ2 h => ?_)
  refine o_if_ne (tgt := 17) C hx1 dX11_ease_11 (by decide) h (fun _ h => ?_) (fun _ h => ?_)
  · refine o_iload_n C 2 dX11_ease_17 rfl rfl ?_
    refine o_iconst C dX11_ease_18 ?_
    refine o_bipush (v := 9) C dX11_ease_19 (by decide) ?_
    refine o_cSI C [vI z2, vI 1, vI 9] mb_X11_outside (by decide) (fun _ hu => c_X11_outside hz2 ⟨by decide, by decide⟩ ⟨by decide, by decide⟩ hμ2 hu) rfl (Nat.le_of_ble_eq_true rfl) h ms_X11_outside lkm_RX11_66 rfl rfl dX11_ease_21 (fun x3 μ4 hx3 hμ4 h => ?_)
    refine o_if_eq (tgt := 30) C hx3 dX11_ease_24 (by decide) h (fun _ h => ?_) (fun _ h => ?_)
    · refine o_aload_n C 0 dX11_ease_30 rfl rfl ?_
      refine o_getR (j := 1) C kt_0 rfl rfl (Nat.le_of_ble_eq_true rfl) lkf_RX11_21 dX11_ease_31 ?_
      refine o_cVV C [] mb_X6_forget (by decide) (fun _ hu => c_X6_forget gRt_A hμ4 hu) rfl (Nat.le_of_ble_eq_true rfl) h mi_X6_forget me_X6_forget lkm_RX11_76 kt_94 rfl rfl rfl dX11_ease_34 (fun _x5 μ6 hμ6 h => ?_)
      refine o_aload_n C 0 dX11_ease_37 rfl rfl ?_
      refine o_getR (j := 0) C kt_0 rfl rfl (Nat.le_of_ble_eq_true rfl) lkf_RX11_10 dX11_ease_38 ?_
      refine o_getR (j := 4) C kt_1 rfl rfl (Nat.le_of_ble_eq_true rfl) lkf_RX11_89 dX11_ease_41 ?_
      refine o_getR (j := 3) C kt_5 rfl rfl (Nat.le_of_ble_eq_true rfl) lkf_RX11_138 dX11_ease_44 ?_
      refine o_iload_n C 1 dX11_ease_47 rfl rfl ?_
      refine o_iload_n C 2 dX11_ease_48 rfl rfl ?_
      refine o_cSI C [gR G 8, vI z1, vI z2] mb_X11_exchange (by decide) (fun _ hu => c_X11_exchange (kt_gen kt_8) hz1 hz2 hμ6 hu) rfl (Nat.le_of_ble_eq_true rfl) h ms_X11_exchange lkm_RX11_131 rfl rfl dX11_ease_49 (fun x7 μ8 hx7 hμ8 h => ?_)
      exact o_iret C hQ dX11_ease_52 h hx7 hμ8
    · refine o_ldc (v := (-10000002)) C lkc_RX11_70 rfl dX11_ease_27 ?_
      exact o_iret C hQ dX11_ease_29 h ⟨by decide, by decide⟩ hμ4
  · refine o_ldc (v := (-10000001)) C lkc_RX11_87 rfl dX11_ease_14 ?_
    exact o_iret C hQ dX11_ease_16 h ⟨by decide, by decide⟩ hμ2
theorem c_X11_ease {z1 : Int} (hz1 : r32 z1) {z2 : Int} (hz2 : r32 z2) {μ : GM} (hμ : gRg μ) {u : Int × GM} (h : f_X11_ease z1 z2 μ = some u) : MtI 2 yX11_ease cX11_ease 3 (some .int) (fun ad => [.ref (ad 0), vI z1, vI z2]) μ u := MtI.of pf_X11_ease (fun _ => Nat.le_of_ble_eq_true rfl) (fun G C hQ => w_X11_ease_0 C hQ hz1 hz2 hμ h)
def f_X11_rate (z1 : Int) (z2 : Int) (μ : GM) : Option (Int × GM) :=
  bd (f_X9_has z1 μ) fun x1 μ2 =>
  if x1 = 0 then
    some ((-10000001), μ2)
  else
    ck (0 ≤ z1 ∧ z1 < 3) (
    bd (f_X11_outside z2 0 (μ2.1 20 z1) μ2) fun x3 μ4 =>
    if x3 = 0 then
      bd (f_X11_exchange 22 z1 z2 μ4) fun x5 μ6 =>
      some (x5, μ6)
    else
      some ((-10000002), μ4))
set_option maxHeartbeats 4000000 in
set_option maxRecDepth 100000 in
theorem w_X11_rate_0 {G : GX} {u : Int × GM} (C : CX G 1 cX11_rate 3 RX11) (hQ : gQI G (some .int) u) {z1 : Int} (hz1 : r32 z1) {z2 : Int} (hz2 : r32 z2) {μ : GM} (hμ : gRg μ) (h : f_X11_rate z1 z2 μ = some u) : WM G 3 μ 0 [(0, gR G 0), (1, vI z1), (2, vI z2)] [] := by
  unfold f_X11_rate at h
  refine o_aload_n C 0 dX11_rate_0 rfl rfl ?_
  refine o_getR (j := 0) C kt_0 rfl rfl (Nat.le_of_ble_eq_true rfl) lkf_RX11_10 dX11_rate_1 ?_
  refine o_getR (j := 7) C kt_1 rfl rfl (Nat.le_of_ble_eq_true rfl) lkf_RX11_119 dX11_rate_4 ?_
  refine o_iload_n C 1 dX11_rate_7 rfl rfl ?_
  refine o_cVI C [vI z1] mb_X9_has (by decide) (fun _ hu => c_X9_has hz1 hμ hu) rfl (Nat.le_of_ble_eq_true rfl) h mi_X9_has me_X9_has lkm_RX11_141 kt_18 rfl rfl rfl dX11_rate_8 (fun x1 μ2 hx1 hμ2 h => ?_)
  refine o_if_ne (tgt := 17) C hx1 dX11_rate_11 (by decide) h (fun _ h => ?_) (fun _ h => ?_)
  · refine o_iload_n C 2 dX11_rate_17 rfl rfl ?_
    refine o_iconst C dX11_rate_18 ?_
    refine o_aload_n C 0 dX11_rate_19 rfl rfl ?_
    refine o_getR (j := 0) C kt_0 rfl rfl (Nat.le_of_ble_eq_true rfl) lkf_RX11_10 dX11_rate_20 ?_
    refine o_getR (j := 7) C kt_1 rfl rfl (Nat.le_of_ble_eq_true rfl) lkf_RX11_119 dX11_rate_23 ?_
    refine o_getR (j := 2) C kt_18 rfl rfl (Nat.le_of_ble_eq_true rfl) lkf_RX11_142 dX11_rate_26 ?_
    refine o_iload_n C 1 dX11_rate_29 rfl rfl ?_
    refine o_iald C kt_20 rfl hz1 dX11_rate_30 h (fun h => ?_)
    refine o_cSI C [vI z2, vI 0, vI (μ2.1 20 z1)] mb_X11_outside (by decide) (fun _ hu => c_X11_outside hz2 ⟨by decide, by decide⟩ (hμ2.i kt_20 (by decide) _) hμ2 hu) rfl (Nat.le_of_ble_eq_true rfl) h ms_X11_outside lkm_RX11_66 rfl rfl dX11_rate_31 (fun x3 μ4 hx3 hμ4 h => ?_)
    refine o_if_eq (tgt := 40) C hx3 dX11_rate_34 (by decide) h (fun _ h => ?_) (fun _ h => ?_)
    · refine o_aload_n C 0 dX11_rate_40 rfl rfl ?_
      refine o_getR (j := 0) C kt_0 rfl rfl (Nat.le_of_ble_eq_true rfl) lkf_RX11_10 dX11_rate_41 ?_
      refine o_getR (j := 7) C kt_1 rfl rfl (Nat.le_of_ble_eq_true rfl) lkf_RX11_119 dX11_rate_44 ?_
      refine o_getR (j := 4) C kt_18 rfl rfl (Nat.le_of_ble_eq_true rfl) lkf_RX11_145 dX11_rate_47 ?_
      refine o_iload_n C 1 dX11_rate_50 rfl rfl ?_
      refine o_iload_n C 2 dX11_rate_51 rfl rfl ?_
      refine o_cSI C [gR G 22, vI z1, vI z2] mb_X11_exchange (by decide) (fun _ hu => c_X11_exchange (kt_gen kt_22) hz1 hz2 hμ4 hu) rfl (Nat.le_of_ble_eq_true rfl) h ms_X11_exchange lkm_RX11_131 rfl rfl dX11_rate_52 (fun x5 μ6 hx5 hμ6 h => ?_)
      exact o_iret C hQ dX11_rate_55 h hx5 hμ6
    · refine o_ldc (v := (-10000002)) C lkc_RX11_70 rfl dX11_rate_37 ?_
      exact o_iret C hQ dX11_rate_39 h ⟨by decide, by decide⟩ hμ4
  · refine o_ldc (v := (-10000001)) C lkc_RX11_87 rfl dX11_rate_14 ?_
    exact o_iret C hQ dX11_rate_16 h ⟨by decide, by decide⟩ hμ2
theorem c_X11_rate {z1 : Int} (hz1 : r32 z1) {z2 : Int} (hz2 : r32 z2) {μ : GM} (hμ : gRg μ) {u : Int × GM} (h : f_X11_rate z1 z2 μ = some u) : MtI 1 yX11_rate cX11_rate 3 (some .int) (fun ad => [.ref (ad 0), vI z1, vI z2]) μ u := MtI.of pf_X11_rate (fun _ => Nat.le_of_ble_eq_true rfl) (fun G C hQ => w_X11_rate_0 C hQ hz1 hz2 hμ h)
def f_X11_stage (z1 : Int) (z2 : Int) (μ : GM) : Option (Int × GM) :=
  bd (f_X7_has z1 μ) fun x1 μ2 =>
  if x1 = 0 then
    some ((-10000001), μ2)
  else
    ck (0 ≤ z1 ∧ z1 < 3) (
    bd (f_X11_outside z2 (μ2.1 12 z1) 1000 μ2) fun x3 μ4 =>
    if x3 = 0 then
      bd (f_X11_exchange 11 z1 z2 μ4) fun x5 μ6 =>
      some (x5, μ6)
    else
      some ((-10000002), μ4))
set_option maxHeartbeats 4000000 in
set_option maxRecDepth 100000 in
theorem w_X11_stage_0 {G : GX} {u : Int × GM} (C : CX G 1 cX11_stage 3 RX11) (hQ : gQI G (some .int) u) {z1 : Int} (hz1 : r32 z1) {z2 : Int} (hz2 : r32 z2) {μ : GM} (hμ : gRg μ) (h : f_X11_stage z1 z2 μ = some u) : WM G 3 μ 0 [(0, gR G 0), (1, vI z1), (2, vI z2)] [] := by
  unfold f_X11_stage at h
  refine o_aload_n C 0 dX11_stage_0 rfl rfl ?_
  refine o_getR (j := 0) C kt_0 rfl rfl (Nat.le_of_ble_eq_true rfl) lkf_RX11_10 dX11_stage_1 ?_
  refine o_getR (j := 5) C kt_1 rfl rfl (Nat.le_of_ble_eq_true rfl) lkf_RX11_101 dX11_stage_4 ?_
  refine o_iload_n C 1 dX11_stage_7 rfl rfl ?_
  refine o_cVI C [vI z1] mb_X7_has (by decide) (fun _ hu => c_X7_has hz1 hμ hu) rfl (Nat.le_of_ble_eq_true rfl) h mi_X7_has me_X7_has lkm_RX11_148 kt_9 rfl rfl rfl dX11_stage_8 (fun x1 μ2 hx1 hμ2 h => ?_)
  refine o_if_ne (tgt := 17) C hx1 dX11_stage_11 (by decide) h (fun _ h => ?_) (fun _ h => ?_)
  · refine o_iload_n C 2 dX11_stage_17 rfl rfl ?_
    refine o_aload_n C 0 dX11_stage_18 rfl rfl ?_
    refine o_getR (j := 0) C kt_0 rfl rfl (Nat.le_of_ble_eq_true rfl) lkf_RX11_10 dX11_stage_19 ?_
    refine o_getR (j := 5) C kt_1 rfl rfl (Nat.le_of_ble_eq_true rfl) lkf_RX11_101 dX11_stage_22 ?_
    refine o_getR (j := 3) C kt_9 rfl rfl (Nat.le_of_ble_eq_true rfl) lkf_RX11_149 dX11_stage_25 ?_
    refine o_iload_n C 1 dX11_stage_28 rfl rfl ?_
    refine o_iald C kt_12 rfl hz1 dX11_stage_29 h (fun h => ?_)
    refine o_sipush (v := 1000) C dX11_stage_30 (by decide) ?_
    refine o_cSI C [vI z2, vI (μ2.1 12 z1), vI 1000] mb_X11_outside (by decide) (fun _ hu => c_X11_outside hz2 (hμ2.i kt_12 (by decide) _) ⟨by decide, by decide⟩ hμ2 hu) rfl (Nat.le_of_ble_eq_true rfl) h ms_X11_outside lkm_RX11_66 rfl rfl dX11_stage_33 (fun x3 μ4 hx3 hμ4 h => ?_)
    refine o_if_eq (tgt := 42) C hx3 dX11_stage_36 (by decide) h (fun _ h => ?_) (fun _ h => ?_)
    · refine o_aload_n C 0 dX11_stage_42 rfl rfl ?_
      refine o_getR (j := 0) C kt_0 rfl rfl (Nat.le_of_ble_eq_true rfl) lkf_RX11_10 dX11_stage_43 ?_
      refine o_getR (j := 5) C kt_1 rfl rfl (Nat.le_of_ble_eq_true rfl) lkf_RX11_101 dX11_stage_46 ?_
      refine o_getR (j := 2) C kt_9 rfl rfl (Nat.le_of_ble_eq_true rfl) lkf_RX11_152 dX11_stage_49 ?_
      refine o_iload_n C 1 dX11_stage_52 rfl rfl ?_
      refine o_iload_n C 2 dX11_stage_53 rfl rfl ?_
      refine o_cSI C [gR G 11, vI z1, vI z2] mb_X11_exchange (by decide) (fun _ hu => c_X11_exchange (kt_gen kt_11) hz1 hz2 hμ4 hu) rfl (Nat.le_of_ble_eq_true rfl) h ms_X11_exchange lkm_RX11_131 rfl rfl dX11_stage_54 (fun x5 μ6 hx5 hμ6 h => ?_)
      exact o_iret C hQ dX11_stage_57 h hx5 hμ6
    · refine o_ldc (v := (-10000002)) C lkc_RX11_70 rfl dX11_stage_39 ?_
      exact o_iret C hQ dX11_stage_41 h ⟨by decide, by decide⟩ hμ4
  · refine o_ldc (v := (-10000001)) C lkc_RX11_87 rfl dX11_stage_14 ?_
    exact o_iret C hQ dX11_stage_16 h ⟨by decide, by decide⟩ hμ2
theorem c_X11_stage {z1 : Int} (hz1 : r32 z1) {z2 : Int} (hz2 : r32 z2) {μ : GM} (hμ : gRg μ) {u : Int × GM} (h : f_X11_stage z1 z2 μ = some u) : MtI 1 yX11_stage cX11_stage 3 (some .int) (fun ad => [.ref (ad 0), vI z1, vI z2]) μ u := MtI.of pf_X11_stage (fun _ => Nat.le_of_ble_eq_true rfl) (fun G C hQ => w_X11_stage_0 C hQ hz1 hz2 hμ h)
def f_X11_atRest (μ : GM) : Option (Int × GM) :=
  bd (f_X6_settle 94 22 μ) fun x1 μ2 =>
  some (x1 % 2, μ2)
set_option maxHeartbeats 4000000 in
set_option maxRecDepth 100000 in
theorem w_X11_atRest_0 {G : GX} {u : Int × GM} (C : CX G 4 cX11_atRest 1 RX11) (hQ : gQI G (some .boolean) u) {μ : GM} (hμ : gRg μ) (h : f_X11_atRest μ = some u) : WM G 1 μ 0 [(0, gR G 0)] [] := by
  unfold f_X11_atRest at h
  refine o_aload_n C 0 dX11_atRest_0 rfl rfl ?_
  refine o_getR (j := 1) C kt_0 rfl rfl (Nat.le_of_ble_eq_true rfl) lkf_RX11_21 dX11_atRest_1 ?_
  refine o_aload_n C 0 dX11_atRest_4 rfl rfl ?_
  refine o_getR (j := 0) C kt_0 rfl rfl (Nat.le_of_ble_eq_true rfl) lkf_RX11_10 dX11_atRest_5 ?_
  refine o_getR (j := 7) C kt_1 rfl rfl (Nat.le_of_ble_eq_true rfl) lkf_RX11_119 dX11_atRest_8 ?_
  refine o_getR (j := 4) C kt_18 rfl rfl (Nat.le_of_ble_eq_true rfl) lkf_RX11_145 dX11_atRest_11 ?_
  refine o_cVI C [gR G 22] mb_X6_settle (by decide) (fun _ hu => c_X6_settle gRt_A kt_22 hμ hu) rfl (Nat.le_of_ble_eq_true rfl) h mi_X6_settle me_X6_settle lkm_RX11_325 kt_94 rfl rfl rfl dX11_atRest_14 (fun x1 μ2 hx1 hμ2 h => ?_)
  exact o_zret C hQ dX11_atRest_17 h hμ2
theorem c_X11_atRest {μ : GM} (hμ : gRg μ) {u : Int × GM} (h : f_X11_atRest μ = some u) : MtI 4 yX11_atRest cX11_atRest 1 (some .boolean) (fun ad => [.ref (ad 0)]) μ u := MtI.of pf_X11_atRest (fun _ => Nat.le_of_ble_eq_true rfl) (fun G C hQ => w_X11_atRest_0 C hQ hμ h)
def f_X11_pattern (μ : GM) : Option (Int × GM) :=
  bd (f_X11_atRest μ) fun x1 μ2 =>
  if x1 = 0 then
    some ((-10000009), μ2)
  else
    some ((μ2.2 94 8), μ2)
set_option maxHeartbeats 4000000 in
set_option maxRecDepth 100000 in
theorem w_X11_pattern_0 {G : GX} {u : Int × GM} (C : CX G 5 cX11_pattern 1 RX11) (hQ : gQI G (some .int) u) {μ : GM} (hμ : gRg μ) (h : f_X11_pattern μ = some u) : WM G 1 μ 0 [(0, gR G 0)] [] := by
  unfold f_X11_pattern at h
  refine o_aload_n C 0 dX11_pattern_0 rfl rfl ?_
  refine o_cVI C [] mb_X11_atRest (by decide) (fun _ hu => c_X11_atRest hμ hu) rfl (Nat.le_of_ble_eq_true rfl) h mi_X11_atRest me_X11_atRest lkm_RX11_155 kt_0 rfl rfl rfl dX11_pattern_1 (fun x1 μ2 hx1 hμ2 h => ?_)
  refine o_if_eq (tgt := 17) C hx1 dX11_pattern_4 (by decide) h (fun _ h => ?_) (fun _ h => ?_)
  · refine o_ldc (v := (-10000009)) C lkc_RX11_162 rfl dX11_pattern_17 ?_
    exact o_iret C hQ dX11_pattern_19 h ⟨by decide, by decide⟩ hμ2
  · refine o_aload_n C 0 dX11_pattern_7 rfl rfl ?_
    refine o_getR (j := 1) C kt_0 rfl rfl (Nat.le_of_ble_eq_true rfl) lkf_RX11_21 dX11_pattern_8 ?_
    refine o_getI (j := 8) C kt_94 rfl rfl (Nat.le_of_ble_eq_true rfl) lkf_RX11_159 dX11_pattern_11 ?_
    refine o_goto (tgt := 19) C dX11_pattern_14 (by decide) ?_
    exact o_iret C hQ dX11_pattern_19 h (hμ2.fi kt_94 rfl (by decide)) hμ2
theorem c_X11_pattern {μ : GM} (hμ : gRg μ) {u : Int × GM} (h : f_X11_pattern μ = some u) : MtI 5 yX11_pattern cX11_pattern 1 (some .int) (fun ad => [.ref (ad 0)]) μ u := MtI.of pf_X11_pattern (fun _ => Nat.le_of_ble_eq_true rfl) (fun G C hQ => w_X11_pattern_0 C hQ hμ h)
def k_X11_commonDivisor_3 : Nat → Int → Int → Int → GM → Option (Int × GM)
  | 0, _, _, _, _ => none
  | n + 1, z0, z2, z4, μ =>
    if z4 < 100 then
      if z2 = 0 then
        some (z0, μ)
      else
        ck (z2 ≠ 0) (
        lt (Int.tmod z0 z2) fun x1 =>
        lt (w32 (z4 + 1)) fun x2 =>
        k_X11_commonDivisor_3 n z2 x1 x2 μ)
    else
      some (z0, μ)
set_option maxHeartbeats 4000000 in
set_option maxRecDepth 100000 in
theorem w_X11_commonDivisor_3 {G : GX} {u : Int × GM} (C : CX G 0 cX11_commonDivisor 7 RX11) (hQ : gQL G (some .long) u) : ∀ (n : Nat) (z0 : Int) (hz0 : r64 z0) (z2 : Int) (hz2 : r64 z2) (z4 : Int) (hz4 : r32 z4) (μ : GM) (hμ : gRg μ), k_X11_commonDivisor_3 n z0 z2 z4 μ = some u → WM G 7 μ 3 [(0, vJ z0), (2, vJ z2), (4, vI z4)] [] := by
  intro n
  induction n with
  | zero =>
    intro z0 hz0 z2 hz2 z4 hz4 μ hμ h
    cases h
  | succ n ih =>
    intro z0 hz0 z2 hz2 z4 hz4 μ hμ h
    rw [k_X11_commonDivisor_3] at h
    refine o_iload C 2 dX11_commonDivisor_3 rfl ?_
    refine o_bipush (v := 100) C dX11_commonDivisor_5 (by decide) ?_
    refine o_icmp_ge (tgt := 32) C hz4 ⟨by decide, by decide⟩ dX11_commonDivisor_7 (by decide) h (fun _ h => ?_) (fun _ h => ?_)
    · refine o_lload_n C 0 dX11_commonDivisor_32 rfl rfl ?_
      exact o_lret C hQ dX11_commonDivisor_33 h hz0 hμ
    · refine o_lload_n C 1 dX11_commonDivisor_10 rfl rfl ?_
      refine o_lconst (v := 0) C dX11_commonDivisor_11 rfl ?_
      refine o_lcmp_eq (tgt := 32) C hz2 ⟨by decide, by decide⟩ dX11_commonDivisor_12 dX11_commonDivisor_13 (by decide) h (fun _ h => ?_) (fun _ h => ?_)
      · refine o_lload_n C 0 dX11_commonDivisor_32 rfl rfl ?_
        exact o_lret C hQ dX11_commonDivisor_33 h hz0 hμ
      · refine o_lload_n C 0 dX11_commonDivisor_16 rfl rfl ?_
        refine o_lload_n C 1 dX11_commonDivisor_17 rfl rfl ?_
        refine o_lrem C hz0 hz2 dX11_commonDivisor_18 h (fun h => ?_)
        refine o_ltl h (r64_rem _ hz0) (fun x1 hx1 h => ?_)
        refine o_lstore (lv2 := [(5, vJ x1), (0, vJ z0), (2, vJ z2), (4, vI z4)]) C dX11_commonDivisor_19 (by decide) rfl ?_
        refine o_lload_n C 2 dX11_commonDivisor_21 rfl rfl ?_
        refine o_lstore_n (lv2 := [(0, vJ z2), (5, vJ x1), (2, vJ z2), (4, vI z4)]) C dX11_commonDivisor_22 rfl (by decide) rfl ?_
        refine o_lload C 1 dX11_commonDivisor_23 rfl ?_
        refine o_lstore_n (lv2 := [(2, vJ x1), (0, vJ z2), (5, vJ x1), (4, vI z4)]) C dX11_commonDivisor_25 rfl (by decide) rfl ?_
        refine o_iinc (lv2 := fun x2 => [(4, vI x2), (2, vJ x1), (0, vJ z2), (5, vJ x1)]) C 3 dX11_commonDivisor_26 rfl (by decide) (fun _ => rfl) h (fun x2 hx2 h => ?_)
        refine o_goto (tgt := 3) C dX11_commonDivisor_29 (by decide) ?_
        exact WM.sub [2, 1, 0] rfl (ih z2 hz2 x1 hx1 x2 hx2 μ hμ h)
def f_X11_commonDivisor (z0 : Int) (z2 : Int) (μ : GM) : Option (Int × GM) :=
  k_X11_commonDivisor_3 FU z0 z2 0 μ
set_option maxHeartbeats 4000000 in
set_option maxRecDepth 100000 in
theorem w_X11_commonDivisor_0 {G : GX} {u : Int × GM} (C : CX G 0 cX11_commonDivisor 7 RX11) (hQ : gQL G (some .long) u) {z0 : Int} (hz0 : r64 z0) {z2 : Int} (hz2 : r64 z2) {μ : GM} (hμ : gRg μ) (h : f_X11_commonDivisor z0 z2 μ = some u) : WM G 7 μ 0 [(0, vJ z0), (2, vJ z2)] [] := by
  unfold f_X11_commonDivisor at h
  refine o_iconst C dX11_commonDivisor_0 ?_
  refine o_istore (lv2 := [(4, vI 0), (0, vJ z0), (2, vJ z2)]) C dX11_commonDivisor_1 (by decide) rfl ?_
  exact WM.sub [1, 2, 0] rfl (w_X11_commonDivisor_3 C hQ FU z0 hz0 z2 hz2 0 ⟨by decide, by decide⟩ μ hμ h)
theorem c_X11_commonDivisor {z0 : Int} (hz0 : r64 z0) {z2 : Int} (hz2 : r64 z2) {μ : GM} (hμ : gRg μ) {u : Int × GM} (h : f_X11_commonDivisor z0 z2 μ = some u) : MtL 0 yX11_commonDivisor cX11_commonDivisor 7 (some .long) (fun ad => [vJ z0, vJ z2]) μ u := MtL.of pf_X11_commonDivisor (fun _ => Nat.le_of_ble_eq_true rfl) (fun G C hQ => w_X11_commonDivisor_0 C hQ hz0 hz2 hμ h)
def f_X11_leastTerm (z0 : Int) (z2 : Int) (z4 : Int) (μ : GM) : Option (Int × GM) :=
  bd (f_J9_abs_067f4 z0 μ) fun x1 μ2 =>
  bd (f_X11_commonDivisor x1 z2 μ2) fun x3 μ4 =>
  if x3 < 1 then
    if z4 = 0 then
      some (z2, μ4)
    else
      some (z0, μ4)
  else
    if z4 = 0 then
      ck (x3 ≠ 0) (
      some ((w64 (Int.tdiv z2 x3)), μ4))
    else
      ck (x3 ≠ 0) (
      some ((w64 (Int.tdiv z0 x3)), μ4))
set_option maxHeartbeats 4000000 in
set_option maxRecDepth 100000 in
theorem w_X11_leastTerm_0 {G : GX} {u : Int × GM} (C : CX G 1 cX11_leastTerm 7 RX11) (hQ : gQL G (some .long) u) {z0 : Int} (hz0 : r64 z0) {z2 : Int} (hz2 : r64 z2) {z4 : Int} (hz4 : r32 z4) {μ : GM} (hμ : gRg μ) (h : f_X11_leastTerm z0 z2 z4 μ = some u) : WM G 7 μ 0 [(0, vJ z0), (2, vJ z2), (4, vI z4)] [] := by
  unfold f_X11_leastTerm at h
  refine o_lload_n C 0 dX11_leastTerm_0 rfl rfl ?_
  refine o_cSL C [vJ z0] mb_J9_abs_067f4 (by decide) (fun _ hu => c_J9_abs_067f4 hz0 hμ hu) rfl (Nat.le_of_ble_eq_true rfl) h ms_J9_abs_067f4 lkm_RX11_336 rfl rfl dX11_leastTerm_1 (fun x1 μ2 hx1 hμ2 h => ?_)
  refine o_lload_n C 1 dX11_leastTerm_4 rfl rfl ?_
  refine o_cSL C [vJ x1, vJ z2] mb_X11_commonDivisor (by decide) (fun _ hu => c_X11_commonDivisor hx1 hz2 hμ2 hu) rfl (Nat.le_of_ble_eq_true rfl) h ms_X11_commonDivisor lkm_RX11_340 rfl rfl dX11_leastTerm_5 (fun x3 μ4 hx3 hμ4 h => ?_)
  refine o_lstore (lv2 := [(5, vJ x3), (0, vJ z0), (2, vJ z2), (4, vI z4)]) C dX11_leastTerm_8 (by decide) rfl ?_
  refine o_lload C 0 dX11_leastTerm_10 rfl ?_
  refine o_lconst (v := 1) C dX11_leastTerm_12 rfl ?_
  refine o_lcmp_ge (tgt := 28) C hx3 ⟨by decide, by decide⟩ dX11_leastTerm_13 dX11_leastTerm_14 (by decide) h (fun _ h => ?_) (fun _ h => ?_)
  · refine o_iload C 3 dX11_leastTerm_28 rfl ?_
    refine o_if_eq (tgt := 37) C hz4 dX11_leastTerm_30 (by decide) h (fun _ h => ?_) (fun _ h => ?_)
    · refine o_lload_n C 2 dX11_leastTerm_37 rfl rfl ?_
      refine o_lload C 0 dX11_leastTerm_38 rfl ?_
      refine o_ldiv C hz2 hx3 dX11_leastTerm_40 h (fun h => ?_)
      exact o_lret C hQ dX11_leastTerm_41 h (r64_w _) hμ4
    · refine o_lload_n C 1 dX11_leastTerm_33 rfl rfl ?_
      refine o_goto (tgt := 38) C dX11_leastTerm_34 (by decide) ?_
      refine o_lload C 0 dX11_leastTerm_38 rfl ?_
      refine o_ldiv C hz0 hx3 dX11_leastTerm_40 h (fun h => ?_)
      exact o_lret C hQ dX11_leastTerm_41 h (r64_w _) hμ4
  · refine o_iload C 3 dX11_leastTerm_17 rfl ?_
    refine o_if_eq (tgt := 26) C hz4 dX11_leastTerm_19 (by decide) h (fun _ h => ?_) (fun _ h => ?_)
    · refine o_lload_n C 2 dX11_leastTerm_26 rfl rfl ?_
      exact o_lret C hQ dX11_leastTerm_27 h hz2 hμ4
    · refine o_lload_n C 1 dX11_leastTerm_22 rfl rfl ?_
      refine o_goto (tgt := 27) C dX11_leastTerm_23 (by decide) ?_
      exact o_lret C hQ dX11_leastTerm_27 h hz0 hμ4
theorem c_X11_leastTerm {z0 : Int} (hz0 : r64 z0) {z2 : Int} (hz2 : r64 z2) {z4 : Int} (hz4 : r32 z4) {μ : GM} (hμ : gRg μ) {u : Int × GM} (h : f_X11_leastTerm z0 z2 z4 μ = some u) : MtL 1 yX11_leastTerm cX11_leastTerm 7 (some .long) (fun ad => [vJ z0, vJ z2, vI z4]) μ u := MtL.of pf_X11_leastTerm (fun _ => Nat.le_of_ble_eq_true rfl) (fun G C hQ => w_X11_leastTerm_0 C hQ hz0 hz2 hz4 hμ h)
def f_X11_head (z1 : Int) (z2 : Int) (μ : GM) : Option (Int × GM) :=
  bd (f_X2_hasCell z1 μ) fun x1 μ2 =>
  if x1 = 0 then
    some ((-10000001), μ2)
  else
    bd (f_X11_atRest μ2) fun x3 μ4 =>
    if x3 = 0 then
      some ((-10000003), μ4)
    else
      ck (0 ≤ z1 ∧ z1 < 6) (
      bd (f_X11_leastTerm (μ4.1 99 z1) (μ4.2 94 7) z2 μ4) fun x5 μ6 =>
      some (x5, μ6))
set_option maxHeartbeats 4000000 in
set_option maxRecDepth 100000 in
theorem w_X11_head_0 {G : GX} {u : Int × GM} (C : CX G 5 cX11_head 3 RX11) (hQ : gQL G (some .long) u) {z1 : Int} (hz1 : r32 z1) {z2 : Int} (hz2 : r32 z2) {μ : GM} (hμ : gRg μ) (h : f_X11_head z1 z2 μ = some u) : WM G 3 μ 0 [(0, gR G 0), (1, vI z1), (2, vI z2)] [] := by
  unfold f_X11_head at h
  refine o_aload_n C 0 dX11_head_0 rfl rfl ?_
  refine o_getR (j := 0) C kt_0 rfl rfl (Nat.le_of_ble_eq_true rfl) lkf_RX11_10 dX11_head_1 ?_
  refine o_iload_n C 1 dX11_head_4 rfl rfl ?_
  refine o_cVI C [vI z1] mb_X2_hasCell (by decide) (fun _ hu => c_X2_hasCell hz1 hμ hu) rfl (Nat.le_of_ble_eq_true rfl) h mi_X2_hasCell me_X2_hasCell lkm_RX11_83 kt_1 rfl rfl rfl dX11_head_5 (fun x1 μ2 hx1 hμ2 h => ?_)
  refine o_if_ne (tgt := 15) C hx1 dX11_head_8 (by decide) h (fun _ h => ?_) (fun _ h => ?_)
  · refine o_aload_n C 0 dX11_head_15 rfl rfl ?_
    refine o_cVI C [] mb_X11_atRest (by decide) (fun _ hu => c_X11_atRest hμ2 hu) rfl (Nat.le_of_ble_eq_true rfl) h mi_X11_atRest me_X11_atRest lkm_RX11_155 kt_0 rfl rfl rfl dX11_head_16 (fun x3 μ4 hx3 hμ4 h => ?_)
    refine o_if_ne (tgt := 26) C hx3 dX11_head_19 (by decide) h (fun _ h => ?_) (fun _ h => ?_)
    · refine o_aload_n C 0 dX11_head_26 rfl rfl ?_
      refine o_getR (j := 1) C kt_0 rfl rfl (Nat.le_of_ble_eq_true rfl) lkf_RX11_21 dX11_head_27 ?_
      refine o_getR (j := 6) C kt_94 rfl rfl (Nat.le_of_ble_eq_true rfl) lkf_RX11_167 dX11_head_30 ?_
      refine o_iload_n C 1 dX11_head_33 rfl rfl ?_
      refine o_lald C kt_99 rfl hz1 dX11_head_34 h (fun h => ?_)
      refine o_aload_n C 0 dX11_head_35 rfl rfl ?_
      refine o_getR (j := 1) C kt_0 rfl rfl (Nat.le_of_ble_eq_true rfl) lkf_RX11_21 dX11_head_36 ?_
      refine o_getJ (j := 7) C kt_94 rfl rfl (Nat.le_of_ble_eq_true rfl) lkf_RX11_171 dX11_head_39 ?_
      refine o_iload_n C 2 dX11_head_42 rfl rfl ?_
      refine o_cSL C [vJ (μ4.1 99 z1), vJ (μ4.2 94 7), vI z2] mb_X11_leastTerm (by decide) (fun _ hu => c_X11_leastTerm (hμ4.l kt_99 _) (hμ4.fl kt_94 rfl) hz2 hμ4 hu) rfl (Nat.le_of_ble_eq_true rfl) h ms_X11_leastTerm lkm_RX11_175 rfl rfl dX11_head_43 (fun x5 μ6 hx5 hμ6 h => ?_)
      exact o_lret C hQ dX11_head_46 h hx5 hμ6
    · refine o_ldc2 (v := (-10000003)) C lkc_RX11_165 rfl dX11_head_22 ?_
      exact o_lret C hQ dX11_head_25 h ⟨by decide, by decide⟩ hμ4
  · refine o_ldc2 (v := (-10000001)) C lkc_RX11_163 rfl dX11_head_11 ?_
    exact o_lret C hQ dX11_head_14 h ⟨by decide, by decide⟩ hμ2
theorem c_X11_head {z1 : Int} (hz1 : r32 z1) {z2 : Int} (hz2 : r32 z2) {μ : GM} (hμ : gRg μ) {u : Int × GM} (h : f_X11_head z1 z2 μ = some u) : MtL 5 yX11_head cX11_head 3 (some .long) (fun ad => [.ref (ad 0), vI z1, vI z2]) μ u := MtL.of pf_X11_head (fun _ => Nat.le_of_ble_eq_true rfl) (fun G C hQ => w_X11_head_0 C hQ hz1 hz2 hμ h)
def f_X11_milli (z1 : Int) (μ : GM) : Option (Int × GM) :=
  bd (f_X2_hasCell z1 μ) fun x1 μ2 =>
  if x1 = 0 then
    some ((-10000001), μ2)
  else
    bd (f_X11_atRest μ2) fun x3 μ4 =>
    if x3 = 0 then
      some ((-10000003), μ4)
    else
      bd (f_X6_headMilli 94 z1 μ4) fun x5 μ6 =>
      some (x5, μ6)
set_option maxHeartbeats 4000000 in
set_option maxRecDepth 100000 in
theorem w_X11_milli_0 {G : GX} {u : Int × GM} (C : CX G 5 cX11_milli 2 RX11) (hQ : gQI G (some .int) u) {z1 : Int} (hz1 : r32 z1) {μ : GM} (hμ : gRg μ) (h : f_X11_milli z1 μ = some u) : WM G 2 μ 0 [(0, gR G 0), (1, vI z1)] [] := by
  unfold f_X11_milli at h
  refine o_aload_n C 0 dX11_milli_0 rfl rfl ?_
  refine o_getR (j := 0) C kt_0 rfl rfl (Nat.le_of_ble_eq_true rfl) lkf_RX11_10 dX11_milli_1 ?_
  refine o_iload_n C 1 dX11_milli_4 rfl rfl ?_
  refine o_cVI C [vI z1] mb_X2_hasCell (by decide) (fun _ hu => c_X2_hasCell hz1 hμ hu) rfl (Nat.le_of_ble_eq_true rfl) h mi_X2_hasCell me_X2_hasCell lkm_RX11_83 kt_1 rfl rfl rfl dX11_milli_5 (fun x1 μ2 hx1 hμ2 h => ?_)
  refine o_if_ne (tgt := 14) C hx1 dX11_milli_8 (by decide) h (fun _ h => ?_) (fun _ h => ?_)
  · refine o_aload_n C 0 dX11_milli_14 rfl rfl ?_
    refine o_cVI C [] mb_X11_atRest (by decide) (fun _ hu => c_X11_atRest hμ2 hu) rfl (Nat.le_of_ble_eq_true rfl) h mi_X11_atRest me_X11_atRest lkm_RX11_155 kt_0 rfl rfl rfl dX11_milli_15 (fun x3 μ4 hx3 hμ4 h => ?_)
    refine o_if_ne (tgt := 24) C hx3 dX11_milli_18 (by decide) h (fun _ h => ?_) (fun _ h => ?_)
    · refine o_aload_n C 0 dX11_milli_24 rfl rfl ?_
      refine o_getR (j := 1) C kt_0 rfl rfl (Nat.le_of_ble_eq_true rfl) lkf_RX11_21 dX11_milli_25 ?_
      refine o_iload_n C 1 dX11_milli_28 rfl rfl ?_
      refine o_cVI C [vI z1] mb_X6_headMilli (by decide) (fun _ hu => c_X6_headMilli gRt_A hz1 hμ4 hu) rfl (Nat.le_of_ble_eq_true rfl) h mi_X6_headMilli me_X6_headMilli lkm_RX11_179 kt_94 rfl rfl rfl dX11_milli_29 (fun x5 μ6 hx5 hμ6 h => ?_)
      exact o_iret C hQ dX11_milli_32 h hx5 hμ6
    · refine o_ldc (v := (-10000003)) C lkc_RX11_88 rfl dX11_milli_21 ?_
      exact o_iret C hQ dX11_milli_23 h ⟨by decide, by decide⟩ hμ4
  · refine o_ldc (v := (-10000001)) C lkc_RX11_87 rfl dX11_milli_11 ?_
    exact o_iret C hQ dX11_milli_13 h ⟨by decide, by decide⟩ hμ2
theorem c_X11_milli {z1 : Int} (hz1 : r32 z1) {μ : GM} (hμ : gRg μ) {u : Int × GM} (h : f_X11_milli z1 μ = some u) : MtI 5 yX11_milli cX11_milli 2 (some .int) (fun ad => [.ref (ad 0), vI z1]) μ u := MtI.of pf_X11_milli (fun _ => Nat.le_of_ble_eq_true rfl) (fun G C hQ => w_X11_milli_0 C hQ hz1 hμ h)
