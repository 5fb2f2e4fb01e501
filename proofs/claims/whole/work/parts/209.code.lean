def f_X11_flow (z1 : Int) (μ : GM) : Option (Int × GM) :=
  bd (f_X3_has z1 μ) fun x1 μ2 =>
  if x1 = 0 then
    some ((-10000001), μ2)
  else
    bd (f_X11_atRest μ2) fun x3 μ4 =>
    if x3 = 0 then
      some ((-10000003), μ4)
    else
      bd (f_X6_linkTop 94 z1 μ4) fun x5 μ6 =>
      bd (f_X11_milliOf x5 (μ6.2 94 7) μ6) fun x7 μ8 =>
      some (x7, μ8)
set_option maxHeartbeats 4000000 in
set_option maxRecDepth 100000 in
theorem w_X11_flow_0 {G : GX} {u : Int × GM} (C : CX G 5 cX11_flow 2 RX11) (hQ : gQI G (some .int) u) {z1 : Int} (hz1 : r32 z1) {μ : GM} (hμ : gRg μ) (h : f_X11_flow z1 μ = some u) : WM G 2 μ 0 [(0, gR G 0), (1, vI z1)] [] := by
  unfold f_X11_flow at h
  refine o_aload_n C 0 dX11_flow_0 rfl rfl ?_
  refine o_getR (j := 0) C kt_0 rfl rfl (Nat.le_of_ble_eq_true rfl) lkf_RX11_10 dX11_flow_1 ?_
  refine o_getR (j := 4) C kt_1 rfl rfl (Nat.le_of_ble_eq_true rfl) lkf_RX11_89 dX11_flow_4 ?_
  refine o_iload_n C 1 dX11_flow_7 rfl rfl ?_
  refine o_cVI C [vI z1] mb_X3_has (by decide) (fun _ hu => c_X3_has hz1 hμ hu) rfl (Nat.le_of_ble_eq_true rfl) h mi_X3_has me_X3_has lkm_RX11_135 kt_5 rfl rfl rfl dX11_flow_8 (fun x1 μ2 hx1 hμ2 h => ?_)
  refine o_if_ne (tgt := 17) C hx1 dX11_flow_11 (by decide) h (fun _ h => ?_) (fun _ h => ?_)
  · refine o_aload_n C 0 dX11_flow_17 rfl rfl ?_
    refine o_cVI C [] mb_X11_atRest (by decide) (fun _ hu => c_X11_atRest hμ2 hu) rfl (Nat.le_of_ble_eq_true rfl) h mi_X11_atRest me_X11_atRest lkm_RX11_155 kt_0 rfl rfl rfl dX11_flow_18 (fun x3 μ4 hx3 hμ4 h => ?_)
    refine o_if_ne (tgt := 27) C hx3 dX11_flow_21 (by decide) h (fun _ h => ?_) (fun _ h => ?_)
    · refine o_aload_n C 0 dX11_flow_27 rfl rfl ?_
      refine o_getR (j := 1) C kt_0 rfl rfl (Nat.le_of_ble_eq_true rfl) lkf_RX11_21 dX11_flow_28 ?_
      refine o_iload_n C 1 dX11_flow_31 rfl rfl ?_
      refine o_cVL C [vI z1] mb_X6_linkTop (by decide) (fun _ hu => c_X6_linkTop gRt_A hz1 hμ4 hu) rfl (Nat.le_of_ble_eq_true rfl) h mi_X6_linkTop me_X6_linkTop lkm_RX11_183 kt_94 rfl rfl rfl dX11_flow_32 (fun x5 μ6 hx5 hμ6 h => ?_)
      refine o_aload_n C 0 dX11_flow_35 rfl rfl ?_
      refine o_getR (j := 1) C kt_0 rfl rfl (Nat.le_of_ble_eq_true rfl) lkf_RX11_21 dX11_flow_36 ?_
      refine o_getJ (j := 7) C kt_94 rfl rfl (Nat.le_of_ble_eq_true rfl) lkf_RX11_171 dX11_flow_39 ?_
      refine o_cSI C [vJ x5, vJ (μ6.2 94 7)] mb_X11_milliOf (by decide) (fun _ hu => c_X11_milliOf hx5 (hμ6.fl kt_94 rfl) hμ6 hu) rfl (Nat.le_of_ble_eq_true rfl) h ms_X11_milliOf lkm_RX11_187 rfl rfl dX11_flow_42 (fun x7 μ8 hx7 hμ8 h => ?_)
      exact o_iret C hQ dX11_flow_45 h hx7 hμ8
    · refine o_ldc (v := (-10000003)) C lkc_RX11_88 rfl dX11_flow_24 ?_
      exact o_iret C hQ dX11_flow_26 h ⟨by decide, by decide⟩ hμ4
  · refine o_ldc (v := (-10000001)) C lkc_RX11_87 rfl dX11_flow_14 ?_
    exact o_iret C hQ dX11_flow_16 h ⟨by decide, by decide⟩ hμ2
theorem c_X11_flow {z1 : Int} (hz1 : r32 z1) {μ : GM} (hμ : gRg μ) {u : Int × GM} (h : f_X11_flow z1 μ = some u) : MtI 5 yX11_flow cX11_flow 2 (some .int) (fun ad => [.ref (ad 0), vI z1]) μ u := MtI.of pf_X11_flow (fun _ => Nat.le_of_ble_eq_true rfl) (fun G C hQ => w_X11_flow_0 C hQ hz1 hμ h)
def f_X11_gives (z1 : Int) (μ : GM) : Option (Int × GM) :=
  bd (f_X7_has z1 μ) fun x1 μ2 =>
  if x1 = 0 then
    some ((-10000001), μ2)
  else
    bd (f_X11_atRest μ2) fun x3 μ4 =>
    if x3 = 0 then
      some ((-10000003), μ4)
    else
      bd (f_X6_riverTop 94 z1 μ4) fun x5 μ6 =>
      bd (f_X11_milliOf x5 (μ6.2 94 7) μ6) fun x7 μ8 =>
      some (x7, μ8)
set_option maxHeartbeats 4000000 in
set_option maxRecDepth 100000 in
theorem w_X11_gives_0 {G : GX} {u : Int × GM} (C : CX G 5 cX11_gives 2 RX11) (hQ : gQI G (some .int) u) {z1 : Int} (hz1 : r32 z1) {μ : GM} (hμ : gRg μ) (h : f_X11_gives z1 μ = some u) : WM G 2 μ 0 [(0, gR G 0), (1, vI z1)] [] := by
  unfold f_X11_gives at h
  refine o_aload_n C 0 dX11_gives_0 rfl rfl ?_
  refine o_getR (j := 0) C kt_0 rfl rfl (Nat.le_of_ble_eq_true rfl) lkf_RX11_10 dX11_gives_1 ?_
  refine o_getR (j := 5) C kt_1 rfl rfl (Nat.le_of_ble_eq_true rfl) lkf_RX11_101 dX11_gives_4 ?_
  refine o_iload_n C 1 dX11_gives_7 rfl rfl ?_
  refine o_cVI C [vI z1] mb_X7_has (by decide) (fun _ hu => c_X7_has hz1 hμ hu) rfl (Nat.le_of_ble_eq_true rfl) h mi_X7_has me_X7_has lkm_RX11_148 kt_9 rfl rfl rfl dX11_gives_8 (fun x1 μ2 hx1 hμ2 h => ?_)
  refine o_if_ne (tgt := 17) C hx1 dX11_gives_11 (by decide) h (fun _ h => ?_) (fun _ h => ?_)
  · refine o_aload_n C 0 dX11_gives_17 rfl rfl ?_
    refine o_cVI C [] mb_X11_atRest (by decide) (fun _ hu => c_X11_atRest hμ2 hu) rfl (Nat.le_of_ble_eq_true rfl) h mi_X11_atRest me_X11_atRest lkm_RX11_155 kt_0 rfl rfl rfl dX11_gives_18 (fun x3 μ4 hx3 hμ4 h => ?_)
    refine o_if_ne (tgt := 27) C hx3 dX11_gives_21 (by decide) h (fun _ h => ?_) (fun _ h => ?_)
    · refine o_aload_n C 0 dX11_gives_27 rfl rfl ?_
      refine o_getR (j := 1) C kt_0 rfl rfl (Nat.le_of_ble_eq_true rfl) lkf_RX11_21 dX11_gives_28 ?_
      refine o_iload_n C 1 dX11_gives_31 rfl rfl ?_
      refine o_cVL C [vI z1] mb_X6_riverTop (by decide) (fun _ hu => c_X6_riverTop gRt_A hz1 hμ4 hu) rfl (Nat.le_of_ble_eq_true rfl) h mi_X6_riverTop me_X6_riverTop lkm_RX11_191 kt_94 rfl rfl rfl dX11_gives_32 (fun x5 μ6 hx5 hμ6 h => ?_)
      refine o_aload_n C 0 dX11_gives_35 rfl rfl ?_
      refine o_getR (j := 1) C kt_0 rfl rfl (Nat.le_of_ble_eq_true rfl) lkf_RX11_21 dX11_gives_36 ?_
      refine o_getJ (j := 7) C kt_94 rfl rfl (Nat.le_of_ble_eq_true rfl) lkf_RX11_171 dX11_gives_39 ?_
      refine o_cSI C [vJ x5, vJ (μ6.2 94 7)] mb_X11_milliOf (by decide) (fun _ hu => c_X11_milliOf hx5 (hμ6.fl kt_94 rfl) hμ6 hu) rfl (Nat.le_of_ble_eq_true rfl) h ms_X11_milliOf lkm_RX11_187 rfl rfl dX11_gives_42 (fun x7 μ8 hx7 hμ8 h => ?_)
      exact o_iret C hQ dX11_gives_45 h hx7 hμ8
    · refine o_ldc (v := (-10000003)) C lkc_RX11_88 rfl dX11_gives_24 ?_
      exact o_iret C hQ dX11_gives_26 h ⟨by decide, by decide⟩ hμ4
  · refine o_ldc (v := (-10000001)) C lkc_RX11_87 rfl dX11_gives_14 ?_
    exact o_iret C hQ dX11_gives_16 h ⟨by decide, by decide⟩ hμ2
theorem c_X11_gives {z1 : Int} (hz1 : r32 z1) {μ : GM} (hμ : gRg μ) {u : Int × GM} (h : f_X11_gives z1 μ = some u) : MtI 5 yX11_gives cX11_gives 2 (some .int) (fun ad => [.ref (ad 0), vI z1]) μ u := MtI.of pf_X11_gives (fun _ => Nat.le_of_ble_eq_true rfl) (fun G C hQ => w_X11_gives_0 C hQ hz1 hμ h)
def f_X11_takes (z1 : Int) (μ : GM) : Option (Int × GM) :=
  bd (f_X1_has z1 μ) fun x1 μ2 =>
  if x1 = 0 then
    some ((-10000001), μ2)
  else
    bd (f_X11_atRest μ2) fun x3 μ4 =>
    if x3 = 0 then
      some ((-10000003), μ4)
    else
      bd (f_X6_drainTop 94 z1 μ4) fun x5 μ6 =>
      bd (f_X11_milliOf x5 (μ6.2 94 7) μ6) fun x7 μ8 =>
      some (x7, μ8)
set_option maxHeartbeats 4000000 in
set_option maxRecDepth 100000 in
theorem w_X11_takes_0 {G : GX} {u : Int × GM} (C : CX G 5 cX11_takes 2 RX11) (hQ : gQI G (some .int) u) {z1 : Int} (hz1 : r32 z1) {μ : GM} (hμ : gRg μ) (h : f_X11_takes z1 μ = some u) : WM G 2 μ 0 [(0, gR G 0), (1, vI z1)] [] := by
  unfold f_X11_takes at h
  refine o_aload_n C 0 dX11_takes_0 rfl rfl ?_
  refine o_getR (j := 0) C kt_0 rfl rfl (Nat.le_of_ble_eq_true rfl) lkf_RX11_10 dX11_takes_1 ?_
  refine o_getR (j := 6) C kt_1 rfl rfl (Nat.le_of_ble_eq_true rfl) lkf_RX11_111 dX11_takes_4 ?_
  refine o_iload_n C 1 dX11_takes_7 rfl rfl ?_
  refine o_cVI C [vI z1] mb_X1_has (by decide) (fun _ hu => c_X1_has hz1 hμ hu) rfl (Nat.le_of_ble_eq_true rfl) h mi_X1_has me_X1_has lkm_RX11_194 kt_14 rfl rfl rfl dX11_takes_8 (fun x1 μ2 hx1 hμ2 h => ?_)
  refine o_if_ne (tgt := 17) C hx1 dX11_takes_11 (by decide) h (fun _ h => ?_) (fun _ h => ?_)
  · refine o_aload_n C 0 dX11_takes_17 rfl rfl ?_
    refine o_cVI C [] mb_X11_atRest (by decide) (fun _ hu => c_X11_atRest hμ2 hu) rfl (Nat.le_of_ble_eq_true rfl) h mi_X11_atRest me_X11_atRest lkm_RX11_155 kt_0 rfl rfl rfl dX11_takes_18 (fun x3 μ4 hx3 hμ4 h => ?_)
    refine o_if_ne (tgt := 27) C hx3 dX11_takes_21 (by decide) h (fun _ h => ?_) (fun _ h => ?_)
    · refine o_aload_n C 0 dX11_takes_27 rfl rfl ?_
      refine o_getR (j := 1) C kt_0 rfl rfl (Nat.le_of_ble_eq_true rfl) lkf_RX11_21 dX11_takes_28 ?_
      refine o_iload_n C 1 dX11_takes_31 rfl rfl ?_
      refine o_cVL C [vI z1] mb_X6_drainTop (by decide) (fun _ hu => c_X6_drainTop gRt_A hz1 hμ4 hu) rfl (Nat.le_of_ble_eq_true rfl) h mi_X6_drainTop me_X6_drainTop lkm_RX11_195 kt_94 rfl rfl rfl dX11_takes_32 (fun x5 μ6 hx5 hμ6 h => ?_)
      refine o_aload_n C 0 dX11_takes_35 rfl rfl ?_
      refine o_getR (j := 1) C kt_0 rfl rfl (Nat.le_of_ble_eq_true rfl) lkf_RX11_21 dX11_takes_36 ?_
      refine o_getJ (j := 7) C kt_94 rfl rfl (Nat.le_of_ble_eq_true rfl) lkf_RX11_171 dX11_takes_39 ?_
      refine o_cSI C [vJ x5, vJ (μ6.2 94 7)] mb_X11_milliOf (by decide) (fun _ hu => c_X11_milliOf hx5 (hμ6.fl kt_94 rfl) hμ6 hu) rfl (Nat.le_of_ble_eq_true rfl) h ms_X11_milliOf lkm_RX11_187 rfl rfl dX11_takes_42 (fun x7 μ8 hx7 hμ8 h => ?_)
      exact o_iret C hQ dX11_takes_45 h hx7 hμ8
    · refine o_ldc (v := (-10000003)) C lkc_RX11_88 rfl dX11_takes_24 ?_
      exact o_iret C hQ dX11_takes_26 h ⟨by decide, by decide⟩ hμ4
  · refine o_ldc (v := (-10000001)) C lkc_RX11_87 rfl dX11_takes_14 ?_
    exact o_iret C hQ dX11_takes_16 h ⟨by decide, by decide⟩ hμ2
theorem c_X11_takes {z1 : Int} (hz1 : r32 z1) {μ : GM} (hμ : gRg μ) {u : Int × GM} (h : f_X11_takes z1 μ = some u) : MtI 5 yX11_takes cX11_takes 2 (some .int) (fun ad => [.ref (ad 0), vI z1]) μ u := MtI.of pf_X11_takes (fun _ => Nat.le_of_ble_eq_true rfl) (fun G C hQ => w_X11_takes_0 C hQ hz1 hμ h)
def f_X11_dry (z1 : Int) (μ : GM) : Option (Int × GM) :=
  bd (f_X2_hasCell z1 μ) fun x1 μ2 =>
  if x1 = 0 then
    some ((-10000001), μ2)
  else
    bd (f_X11_atRest μ2) fun x3 μ4 =>
    if x3 = 0 then
      some ((-10000003), μ4)
    else
      bd (f_X6_isDry 94 z1 μ4) fun x5 μ6 =>
      if x5 = 0 then
        some (0, μ6)
      else
        some (1, μ6)
set_option maxHeartbeats 4000000 in
set_option maxRecDepth 100000 in
theorem w_X11_dry_0 {G : GX} {u : Int × GM} (C : CX G 5 cX11_dry 2 RX11) (hQ : gQI G (some .int) u) {z1 : Int} (hz1 : r32 z1) {μ : GM} (hμ : gRg μ) (h : f_X11_dry z1 μ = some u) : WM G 2 μ 0 [(0, gR G 0), (1, vI z1)] [] := by
  unfold f_X11_dry at h
  refine o_aload_n C 0 dX11_dry_0 rfl rfl ?_
  refine o_getR (j := 0) C kt_0 rfl rfl (Nat.le_of_ble_eq_true rfl) lkf_RX11_10 dX11_dry_1 ?_
  refine o_iload_n C 1 dX11_dry_4 rfl rfl ?_
  refine o_cVI C [vI z1] mb_X2_hasCell (by decide) (fun _ hu => c_X2_hasCell hz1 hμ hu) rfl (Nat.le_of_ble_eq_true rfl) h mi_X2_hasCell me_X2_hasCell lkm_RX11_83 kt_1 rfl rfl rfl dX11_dry_5 (fun x1 μ2 hx1 hμ2 h => ?_)
  refine o_if_ne (tgt := 14) C hx1 dX11_dry_8 (by decide) h (fun _ h => ?_) (fun _ h => ?_)
  · refine o_aload_n C 0 dX11_dry_14 rfl rfl ?_
    refine o_cVI C [] mb_X11_atRest (by decide) (fun _ hu => c_X11_atRest hμ2 hu) rfl (Nat.le_of_ble_eq_true rfl) h mi_X11_atRest me_X11_atRest lkm_RX11_155 kt_0 rfl rfl rfl dX11_dry_15 (fun x3 μ4 hx3 hμ4 h => ?_)
    refine o_if_ne (tgt := 24) C hx3 dX11_dry_18 (by decide) h (fun _ h => ?_) (fun _ h => ?_)
    · refine o_aload_n C 0 dX11_dry_24 rfl rfl ?_
      refine o_getR (j := 1) C kt_0 rfl rfl (Nat.le_of_ble_eq_true rfl) lkf_RX11_21 dX11_dry_25 ?_
      refine o_iload_n C 1 dX11_dry_28 rfl rfl ?_
      refine o_cVI C [vI z1] mb_X6_isDry (by decide) (fun _ hu => c_X6_isDry gRt_A hz1 hμ4 hu) rfl (Nat.le_of_ble_eq_true rfl) h mi_X6_isDry me_X6_isDry lkm_RX11_198 kt_94 rfl rfl rfl dX11_dry_29 (fun x5 μ6 hx5 hμ6 h => ?_)
      refine o_if_eq (tgt := 39) C hx5 dX11_dry_32 (by decide) h (fun _ h => ?_) (fun _ h => ?_)
      · refine o_iconst C dX11_dry_39 ?_
        exact o_iret C hQ dX11_dry_40 h ⟨by decide, by decide⟩ hμ6
      · refine o_iconst C dX11_dry_35 ?_
        refine o_goto (tgt := 40) C dX11_dry_36 (by decide) ?_
        exact o_iret C hQ dX11_dry_40 h ⟨by decide, by decide⟩ hμ6
    · refine o_ldc (v := (-10000003)) C lkc_RX11_88 rfl dX11_dry_21 ?_
      exact o_iret C hQ dX11_dry_23 h ⟨by decide, by decide⟩ hμ4
  · refine o_ldc (v := (-10000001)) C lkc_RX11_87 rfl dX11_dry_11 ?_
    exact o_iret C hQ dX11_dry_13 h ⟨by decide, by decide⟩ hμ2
theorem c_X11_dry {z1 : Int} (hz1 : r32 z1) {μ : GM} (hμ : gRg μ) {u : Int × GM} (h : f_X11_dry z1 μ = some u) : MtI 5 yX11_dry cX11_dry 2 (some .int) (fun ad => [.ref (ad 0), vI z1]) μ u := MtI.of pf_X11_dry (fun _ => Nat.le_of_ble_eq_true rfl) (fun G C hQ => w_X11_dry_0 C hQ hz1 hμ h)
def f_X11_salt (z1 : Int) (μ : GM) : Option (Int × GM) :=
  bd (f_X2_hasCell z1 μ) fun x1 μ2 =>
  if x1 = 0 then
    some ((-10000001), μ2)
  else
    bd (f_X11_atRest μ2) fun x3 μ4 =>
    if x3 = 0 then
      some ((-10000003), μ4)
    else
      ck (0 ≤ z1 ∧ z1 < 6) (
      bd (f_X11_milliOf (w64 ((-40) * (μ4.1 99 z1))) (μ4.2 94 7) μ4) fun x5 μ6 =>
      some (x5, μ6))
set_option maxHeartbeats 4000000 in
set_option maxRecDepth 100000 in
theorem w_X11_salt_0 {G : GX} {u : Int × GM} (C : CX G 5 cX11_salt 2 RX11) (hQ : gQI G (some .int) u) {z1 : Int} (hz1 : r32 z1) {μ : GM} (hμ : gRg μ) (h : f_X11_salt z1 μ = some u) : WM G 2 μ 0 [(0, gR G 0), (1, vI z1)] [] := by
  unfold f_X11_salt at h
  refine o_aload_n C 0 dX11_salt_0 rfl rfl ?_
  refine o_getR (j := 0) C kt_0 rfl rfl (Nat.le_of_ble_eq_true rfl) lkf_RX11_10 dX11_salt_1 ?_
  refine o_iload_n C 1 dX11_salt_4 rfl rfl ?_
  refine o_cVI C [vI z1] mb_X2_hasCell (by decide) (fun _ hu => c_X2_hasCell hz1 hμ hu) rfl (Nat.le_of_ble_eq_true rfl) h mi_X2_hasCell me_X2_hasCell lkm_RX11_83 kt_1 rfl rfl rfl dX11_salt_5 (fun x1 μ2 hx1 hμ2 h => ?_)
  refine o_if_ne (tgt := 14) C hx1 dX11_salt_8 (by decide) h (fun _ h => ?_) (fun _ h => ?_)
  · refine o_aload_n C 0 dX11_salt_14 rfl rfl ?_
    refine o_cVI C [] mb_X11_atRest (by decide) (fun _ hu => c_X11_atRest hμ2 hu) rfl (Nat.le_of_ble_eq_true rfl) h mi_X11_atRest me_X11_atRest lkm_RX11_155 kt_0 rfl rfl rfl dX11_salt_15 (fun x3 μ4 hx3 hμ4 h => ?_)
    refine o_if_ne (tgt := 24) C hx3 dX11_salt_18 (by decide) h (fun _ h => ?_) (fun _ h => ?_)
    · refine o_ldc2 (v := (-40)) C lkc_RX11_201 rfl dX11_salt_24 ?_
      refine o_aload_n C 0 dX11_salt_27 rfl rfl ?_
      refine o_getR (j := 1) C kt_0 rfl rfl (Nat.le_of_ble_eq_true rfl) lkf_RX11_21 dX11_salt_28 ?_
      refine o_getR (j := 6) C kt_94 rfl rfl (Nat.le_of_ble_eq_true rfl) lkf_RX11_167 dX11_salt_31 ?_
      refine o_iload_n C 1 dX11_salt_34 rfl rfl ?_
      refine o_lald C kt_99 rfl hz1 dX11_salt_35 h (fun h => ?_)
      refine o_lmul C dX11_salt_36 ?_
      refine o_aload_n C 0 dX11_salt_37 rfl rfl ?_
      refine o_getR (j := 1) C kt_0 rfl rfl (Nat.le_of_ble_eq_true rfl) lkf_RX11_21 dX11_salt_38 ?_
      refine o_getJ (j := 7) C kt_94 rfl rfl (Nat.le_of_ble_eq_true rfl) lkf_RX11_171 dX11_salt_41 ?_
      refine o_cSI C [vJ (w64 ((-40) * (μ4.1 99 z1))), vJ (μ4.2 94 7)] mb_X11_milliOf (by decide) (fun _ hu => c_X11_milliOf (r64_w _) (hμ4.fl kt_94 rfl) hμ4 hu) rfl (Nat.le_of_ble_eq_true rfl) h ms_X11_milliOf lkm_RX11_187 rfl rfl dX11_salt_44 (fun x5 μ6 hx5 hμ6 h => ?_)
      exact o_iret C hQ dX11_salt_47 h hx5 hμ6
    · refine o_ldc (v := (-10000003)) C lkc_RX11_88 rfl dX11_salt_21 ?_
      exact o_iret C hQ dX11_salt_23 h ⟨by decide, by decide⟩ hμ4
  · refine o_ldc (v := (-10000001)) C lkc_RX11_87 rfl dX11_salt_11 ?_
    exact o_iret C hQ dX11_salt_13 h ⟨by decide, by decide⟩ hμ2
theorem c_X11_salt {z1 : Int} (hz1 : r32 z1) {μ : GM} (hμ : gRg μ) {u : Int × GM} (h : f_X11_salt z1 μ = some u) : MtI 5 yX11_salt cX11_salt 2 (some .int) (fun ad => [.ref (ad 0), vI z1]) μ u := MtI.of pf_X11_salt (fun _ => Nat.le_of_ble_eq_true rfl) (fun G C hQ => w_X11_salt_0 C hQ hz1 hμ h)
def f_X11_through (z1 : Int) (μ : GM) : Option (Int × GM) :=
  bd (f_X11_atRest μ) fun x1 μ2 =>
  if x1 = 0 then
    some ((-10000003), μ2)
  else
    bd (f_X6_throughTop 94 μ2) fun x3 μ4 =>
    bd (f_X11_leastTerm x3 (μ4.2 94 7) z1 μ4) fun x5 μ6 =>
    some (x5, μ6)
set_option maxHeartbeats 4000000 in
set_option maxRecDepth 100000 in
theorem w_X11_through_0 {G : GX} {u : Int × GM} (C : CX G 5 cX11_through 2 RX11) (hQ : gQL G (some .long) u) {z1 : Int} (hz1 : r32 z1) {μ : GM} (hμ : gRg μ) (h : f_X11_through z1 μ = some u) : WM G 2 μ 0 [(0, gR G 0), (1, vI z1)] [] := by
  unfold f_X11_through at h
  refine o_aload_n C 0 dX11_through_0 rfl rfl ?_
  refine o_cVI C [] mb_X11_atRest (by decide) (fun _ hu => c_X11_atRest hμ hu) rfl (Nat.le_of_ble_eq_true rfl) h mi_X11_atRest me_X11_atRest lkm_RX11_155 kt_0 rfl rfl rfl dX11_through_1 (fun x1 μ2 hx1 hμ2 h => ?_)
  refine o_if_ne (tgt := 11) C hx1 dX11_through_4 (by decide) h (fun _ h => ?_) (fun _ h => ?_)
  · refine o_aload_n C 0 dX11_through_11 rfl rfl ?_
    refine o_getR (j := 1) C kt_0 rfl rfl (Nat.le_of_ble_eq_true rfl) lkf_RX11_21 dX11_through_12 ?_
    refine o_cVL C [] mb_X6_throughTop (by decide) (fun _ hu => c_X6_throughTop gRt_A hμ2 hu) rfl (Nat.le_of_ble_eq_true rfl) h mi_X6_throughTop me_X6_throughTop lkm_RX11_203 kt_94 rfl rfl rfl dX11_through_15 (fun x3 μ4 hx3 hμ4 h => ?_)
    refine o_aload_n C 0 dX11_through_18 rfl rfl ?_
    refine o_getR (j := 1) C kt_0 rfl rfl (Nat.le_of_ble_eq_true rfl) lkf_RX11_21 dX11_through_19 ?_
    refine o_getJ (j := 7) C kt_94 rfl rfl (Nat.le_of_ble_eq_true rfl) lkf_RX11_171 dX11_through_22 ?_
    refine o_iload_n C 1 dX11_through_25 rfl rfl ?_
    refine o_cSL C [vJ x3, vJ (μ4.2 94 7), vI z1] mb_X11_leastTerm (by decide) (fun _ hu => c_X11_leastTerm hx3 (hμ4.fl kt_94 rfl) hz1 hμ4 hu) rfl (Nat.le_of_ble_eq_true rfl) h ms_X11_leastTerm lkm_RX11_175 rfl rfl dX11_through_26 (fun x5 μ6 hx5 hμ6 h => ?_)
    exact o_lret C hQ dX11_through_29 h hx5 hμ6
  · refine o_ldc2 (v := (-10000003)) C lkc_RX11_165 rfl dX11_through_7 ?_
    exact o_lret C hQ dX11_through_10 h ⟨by decide, by decide⟩ hμ2
theorem c_X11_through {z1 : Int} (hz1 : r32 z1) {μ : GM} (hμ : gRg μ) {u : Int × GM} (h : f_X11_through z1 μ = some u) : MtL 5 yX11_through cX11_through 2 (some .long) (fun ad => [.ref (ad 0), vI z1]) μ u := MtL.of pf_X11_through (fun _ => Nat.le_of_ble_eq_true rfl) (fun G C hQ => w_X11_through_0 C hQ hz1 hμ h)
def f_X11_way (z1 : Int) (z2 : Int) (μ : GM) : Option (Int × GM) :=
  bd (f_X2_hasCell z1 μ) fun x1 μ2 =>
  if x1 = 0 then
    some ((-10000001), μ2)
  else
    bd (f_X11_atRest μ2) fun x3 μ4 =>
    if x3 = 0 then
      some ((-10000003), μ4)
    else
      bd (f_X8_cellOfWay z1 z2 μ4) fun x5 μ6 =>
      some (x5, μ6)
set_option maxHeartbeats 4000000 in
set_option maxRecDepth 100000 in
theorem w_X11_way_0 {G : GX} {u : Int × GM} (C : CX G 5 cX11_way 3 RX11) (hQ : gQI G (some .int) u) {z1 : Int} (hz1 : r32 z1) {z2 : Int} (hz2 : r32 z2) {μ : GM} (hμ : gRg μ) (h : f_X11_way z1 z2 μ = some u) : WM G 3 μ 0 [(0, gR G 0), (1, vI z1), (2, vI z2)] [] := by
  unfold f_X11_way at h
  refine o_aload_n C 0 dX11_way_0 rfl rfl ?_
  refine o_getR (j := 0) C kt_0 rfl rfl (Nat.le_of_ble_eq_true rfl) lkf_RX11_10 dX11_way_1 ?_
  refine o_iload_n C 1 dX11_way_4 rfl rfl ?_
  refine o_cVI C [vI z1] mb_X2_hasCell (by decide) (fun _ hu => c_X2_hasCell hz1 hμ hu) rfl (Nat.le_of_ble_eq_true rfl) h mi_X2_hasCell me_X2_hasCell lkm_RX11_83 kt_1 rfl rfl rfl dX11_way_5 (fun x1 μ2 hx1 hμ2 h => ?_)
  refine o_if_ne (tgt := 14) C hx1 dX11_way_8 (by decide) h (fun _ h => ?_) (fun _ h => ?_)
  · refine o_aload_n C 0 dX11_way_14 rfl rfl ?_
    refine o_cVI C [] mb_X11_atRest (by decide) (fun _ hu => c_X11_atRest hμ2 hu) rfl (Nat.le_of_ble_eq_true rfl) h mi_X11_atRest me_X11_atRest lkm_RX11_155 kt_0 rfl rfl rfl dX11_way_15 (fun x3 μ4 hx3 hμ4 h => ?_)
    refine o_if_ne (tgt := 24) C hx3 dX11_way_18 (by decide) h (fun _ h => ?_) (fun _ h => ?_)
    · refine o_aload_n C 0 dX11_way_24 rfl rfl ?_
      refine o_getR (j := 2) C kt_0 rfl rfl (Nat.le_of_ble_eq_true rfl) lkf_RX11_30 dX11_way_25 ?_
      refine o_iload_n C 1 dX11_way_28 rfl rfl ?_
      refine o_iload_n C 2 dX11_way_29 rfl rfl ?_
      refine o_cVI C [vI z1, vI z2] mb_X8_cellOfWay (by decide) (fun _ hu => c_X8_cellOfWay hz1 hz2 hμ4 hu) rfl (Nat.le_of_ble_eq_true rfl) h mi_X8_cellOfWay me_X8_cellOfWay lkm_RX11_207 kt_23 rfl rfl rfl dX11_way_30 (fun x5 μ6 hx5 hμ6 h => ?_)
      exact o_iret C hQ dX11_way_33 h hx5 hμ6
    · refine o_ldc (v := (-10000003)) C lkc_RX11_88 rfl dX11_way_21 ?_
      exact o_iret C hQ dX11_way_23 h ⟨by decide, by decide⟩ hμ4
  · refine o_ldc (v := (-10000001)) C lkc_RX11_87 rfl dX11_way_11 ?_
    exact o_iret C hQ dX11_way_13 h ⟨by decide, by decide⟩ hμ2
theorem c_X11_way {z1 : Int} (hz1 : r32 z1) {z2 : Int} (hz2 : r32 z2) {μ : GM} (hμ : gRg μ) {u : Int × GM} (h : f_X11_way z1 z2 μ = some u) : MtI 5 yX11_way cX11_way 3 (some .int) (fun ad => [.ref (ad 0), vI z1, vI z2]) μ u := MtI.of pf_X11_way (fun _ => Nat.le_of_ble_eq_true rfl) (fun G C hQ => w_X11_way_0 C hQ hz1 hz2 hμ h)
def f_X11_end (z1 : Int) (μ : GM) : Option (Int × GM) :=
  bd (f_X2_hasCell z1 μ) fun x1 μ2 =>
  if x1 = 0 then
    some ((-10000001), μ2)
  else
    bd (f_X11_atRest μ2) fun x3 μ4 =>
    if x3 = 0 then
      some ((-10000003), μ4)
    else
      bd (f_X8_endOfWay z1 μ4) fun x5 μ6 =>
      some (x5, μ6)
set_option maxHeartbeats 4000000 in
set_option maxRecDepth 100000 in
theorem w_X11_end_0 {G : GX} {u : Int × GM} (C : CX G 5 cX11_end 2 RX11) (hQ : gQI G (some .int) u) {z1 : Int} (hz1 : r32 z1) {μ : GM} (hμ : gRg μ) (h : f_X11_end z1 μ = some u) : WM G 2 μ 0 [(0, gR G 0), (1, vI z1)] [] := by
  unfold f_X11_end at h
  refine o_aload_n C 0 dX11_end_0 rfl rfl ?_
  refine o_getR (j := 0) C kt_0 rfl rfl (Nat.le_of_ble_eq_true rfl) lkf_RX11_10 dX11_end_1 ?_
  refine o_iload_n C 1 dX11_end_4 rfl rfl ?_
  refine o_cVI C [vI z1] mb_X2_hasCell (by decide) (fun _ hu => c_X2_hasCell hz1 hμ hu) rfl (Nat.le_of_ble_eq_true rfl) h mi_X2_hasCell me_X2_hasCell lkm_RX11_83 kt_1 rfl rfl rfl dX11_end_5 (fun x1 μ2 hx1 hμ2 h => ?_)
  refine o_if_ne (tgt := 14) C hx1 dX11_end_8 (by decide) h (fun _ h => ?_) (fun _ h => ?_)
  · refine o_aload_n C 0 dX11_end_14 rfl rfl ?_
    refine o_cVI C [] mb_X11_atRest (by decide) (fun _ hu => c_X11_atRest hμ2 hu) rfl (Nat.le_of_ble_eq_true rfl) h mi_X11_atRest me_X11_atRest lkm_RX11_155 kt_0 rfl rfl rfl dX11_end_15 (fun x3 μ4 hx3 hμ4 h => ?_)
    refine o_if_ne (tgt := 24) C hx3 dX11_end_18 (by decide) h (fun _ h => ?_) (fun _ h => ?_)
    · refine o_aload_n C 0 dX11_end_24 rfl rfl ?_
      refine o_getR (j := 2) C kt_0 rfl rfl (Nat.le_of_ble_eq_true rfl) lkf_RX11_30 dX11_end_25 ?_
      refine o_iload_n C 1 dX11_end_28 rfl rfl ?_
      refine o_cVI C [vI z1] mb_X8_endOfWay (by decide) (fun _ hu => c_X8_endOfWay hz1 hμ4 hu) rfl (Nat.le_of_ble_eq_true rfl) h mi_X8_endOfWay me_X8_endOfWay lkm_RX11_211 kt_23 rfl rfl rfl dX11_end_29 (fun x5 μ6 hx5 hμ6 h => ?_)
      exact o_iret C hQ dX11_end_32 h hx5 hμ6
    · refine o_ldc (v := (-10000003)) C lkc_RX11_88 rfl dX11_end_21 ?_
      exact o_iret C hQ dX11_end_23 h ⟨by decide, by decide⟩ hμ4
  · refine o_ldc (v := (-10000001)) C lkc_RX11_87 rfl dX11_end_11 ?_
    exact o_iret C hQ dX11_end_13 h ⟨by decide, by decide⟩ hμ2
theorem c_X11_end {z1 : Int} (hz1 : r32 z1) {μ : GM} (hμ : gRg μ) {u : Int × GM} (h : f_X11_end z1 μ = some u) : MtI 5 yX11_end cX11_end 2 (some .int) (fun ad => [.ref (ad 0), vI z1]) μ u := MtI.of pf_X11_end (fun _ => Nat.le_of_ble_eq_true rfl) (fun G C hQ => w_X11_end_0 C hQ hz1 hμ h)
def f_X11_time (z1 : Int) (z2 : Int) (μ : GM) : Option (Int × GM) :=
  bd (f_X2_hasCell z1 μ) fun x1 μ2 =>
  if x1 = 0 then
    some ((-10000001), μ2)
  else
    bd (f_X11_atRest μ2) fun x3 μ4 =>
    if x3 = 0 then
      some ((-10000003), μ4)
    else
      bd (f_X8_gather z1 μ4) fun _x5 μ6 =>
      if (μ6.2 23 2) = 0 then
        some ((-10000009), μ6)
      else
        bd (f_X8_waterTop z1 μ6) fun x7 μ8 =>
        bd (f_X8_flowTogether μ8) fun x9 μ10 =>
        bd (f_X11_leastTerm x7 x9 z2 μ10) fun x11 μ12 =>
        some (x11, μ12)
set_option maxHeartbeats 4000000 in
set_option maxRecDepth 100000 in
theorem w_X11_time_0 {G : GX} {u : Int × GM} (C : CX G 5 cX11_time 3 RX11) (hQ : gQL G (some .long) u) {z1 : Int} (hz1 : r32 z1) {z2 : Int} (hz2 : r32 z2) {μ : GM} (hμ : gRg μ) (h : f_X11_time z1 z2 μ = some u) : WM G 3 μ 0 [(0, gR G 0), (1, vI z1), (2, vI z2)] [] := by
  unfold f_X11_time at h
  refine o_aload_n C 0 dX11_time_0 rfl rfl ?_
  refine o_getR (j := 0) C kt_0 rfl rfl (Nat.le_of_ble_eq_true rfl) lkf_RX11_10 dX11_time_1 ?_
  refine o_iload_n C 1 dX11_time_4 rfl rfl ?_
  refine o_cVI C [vI z1] mb_X2_hasCell (by decide) (fun _ hu => c_X2_hasCell hz1 hμ hu) rfl (Nat.le_of_ble_eq_true rfl) h mi_X2_hasCell me_X2_hasCell lkm_RX11_83 kt_1 rfl rfl rfl dX11_time_5 (fun x1 μ2 hx1 hμ2 h => ?_)
  refine o_if_ne (tgt := 15) C hx1 dX11_time_8 (by decide) h (fun _ h => ?_) (fun _ h => ?_)
  · refine o_aload_n C 0 dX11_time_15 rfl rfl ?_
    refine o_cVI C [] mb_X11_atRest (by decide) (fun _ hu => c_X11_atRest hμ2 hu) rfl (Nat.le_of_ble_eq_true rfl) h mi_X11_atRest me_X11_atRest lkm_RX11_155 kt_0 rfl rfl rfl dX11_time_16 (fun x3 μ4 hx3 hμ4 h => ?_)
    refine o_if_ne (tgt := 26) C hx3 dX11_time_19 (by decide) h (fun _ h => ?_) (fun _ h => ?_)
    · refine o_aload_n C 0 dX11_time_26 rfl rfl ?_
      refine o_getR (j := 2) C kt_0 rfl rfl (Nat.le_of_ble_eq_true rfl) lkf_RX11_30 dX11_time_27 ?_
      refine o_iload_n C 1 dX11_time_30 rfl rfl ?_
      refine o_cVV C [vI z1] mb_X8_gather (by decide) (fun _ hu => c_X8_gather hz1 hμ4 hu) rfl (Nat.le_of_ble_eq_true rfl) h mi_X8_gather me_X8_gather lkm_RX11_214 kt_23 rfl rfl rfl dX11_time_31 (fun _x5 μ6 hμ6 h => ?_)
      refine o_aload_n C 0 dX11_time_34 rfl rfl ?_
      refine o_getR (j := 2) C kt_0 rfl rfl (Nat.le_of_ble_eq_true rfl) lkf_RX11_30 dX11_time_35 ?_
      refine o_getI (j := 2) C kt_23 rfl rfl (Nat.le_of_ble_eq_true rfl) lkf_RX11_218 dX11_time_38 ?_
      refine o_if_ne (tgt := 48) C (hμ6.fi kt_23 rfl (by decide)) dX11_time_41 (by decide) h (fun _ h => ?_) (fun _ h => ?_)
      · refine o_aload_n C 0 dX11_time_48 rfl rfl ?_
        refine o_getR (j := 2) C kt_0 rfl rfl (Nat.le_of_ble_eq_true rfl) lkf_RX11_30 dX11_time_49 ?_
        refine o_iload_n C 1 dX11_time_52 rfl rfl ?_
        refine o_cVL C [vI z1] mb_X8_waterTop (by decide) (fun _ hu => c_X8_waterTop hz1 hμ6 hu) rfl (Nat.le_of_ble_eq_true rfl) h mi_X8_waterTop me_X8_waterTop lkm_RX11_223 kt_23 rfl rfl rfl dX11_time_53 (fun x7 μ8 hx7 hμ8 h => ?_)
        refine o_aload_n C 0 dX11_time_56 rfl rfl ?_
        refine o_getR (j := 2) C kt_0 rfl rfl (Nat.le_of_ble_eq_true rfl) lkf_RX11_30 dX11_time_57 ?_
        refine o_cVL C [] mb_X8_flowTogether (by decide) (fun _ hu => c_X8_flowTogether hμ8 hu) rfl (Nat.le_of_ble_eq_true rfl) h mi_X8_flowTogether me_X8_flowTogether lkm_RX11_226 kt_23 rfl rfl rfl dX11_time_60 (fun x9 μ10 hx9 hμ10 h => ?_)
        refine o_iload_n C 2 dX11_time_63 rfl rfl ?_
        refine o_cSL C [vJ x7, vJ x9, vI z2] mb_X11_leastTerm (by decide) (fun _ hu => c_X11_leastTerm hx7 hx9 hz2 hμ10 hu) rfl (Nat.le_of_ble_eq_true rfl) h ms_X11_leastTerm lkm_RX11_175 rfl rfl dX11_time_64 (fun x11 μ12 hx11 hμ12 h => ?_)
        exact o_lret C hQ dX11_time_67 h hx11 hμ12
      · refine o_ldc2 (v := (-10000009)) C lkc_RX11_221 rfl dX11_time_44 ?_
        exact o_lret C hQ dX11_time_47 h ⟨by decide, by decide⟩ hμ6
    · refine o_ldc2 (v := (-10000003)) C lkc_RX11_165 rfl dX11_time_22 ?_
      exact o_lret C hQ dX11_time_25 h ⟨by decide, by decide⟩ hμ4
  · refine o_ldc2 (v := (-10000001)) C lkc_RX11_163 rfl dX11_time_11 ?_
    exact o_lret C hQ dX11_time_14 h ⟨by decide, by decide⟩ hμ2
theorem c_X11_time {z1 : Int} (hz1 : r32 z1) {z2 : Int} (hz2 : r32 z2) {μ : GM} (hμ : gRg μ) {u : Int × GM} (h : f_X11_time z1 z2 μ = some u) : MtL 5 yX11_time cX11_time 3 (some .long) (fun ad => [.ref (ad 0), vI z1, vI z2]) μ u := MtL.of pf_X11_time (fun _ => Nat.le_of_ble_eq_true rfl) (fun G C hQ => w_X11_time_0 C hQ hz1 hz2 hμ h)
def f_X11_wayTime (z1 : Int) (μ : GM) : Option (Int × GM) :=
  bd (f_X2_hasCell z1 μ) fun x1 μ2 =>
  if x1 = 0 then
    some ((-10000001), μ2)
  else
    bd (f_X11_atRest μ2) fun x3 μ4 =>
    if x3 = 0 then
      some ((-10000003), μ4)
    else
      bd (f_X8_milliOfWay z1 μ4) fun x5 μ6 =>
      some (x5, μ6)
set_option maxHeartbeats 4000000 in
set_option maxRecDepth 100000 in
theorem w_X11_wayTime_0 {G : GX} {u : Int × GM} (C : CX G 5 cX11_wayTime 2 RX11) (hQ : gQL G (some .long) u) {z1 : Int} (hz1 : r32 z1) {μ : GM} (hμ : gRg μ) (h : f_X11_wayTime z1 μ = some u) : WM G 2 μ 0 [(0, gR G 0), (1, vI z1)] [] := by
  unfold f_X11_wayTime at h
  refine o_aload_n C 0 dX11_wayTime_0 rfl rfl ?_
  refine o_getR (j := 0) C kt_0 rfl rfl (Nat.le_of_ble_eq_true rfl) lkf_RX11_10 dX11_wayTime_1 ?_
  refine o_iload_n C 1 dX11_wayTime_4 rfl rfl ?_
  refine o_cVI C [vI z1] mb_X2_hasCell (by decide) (fun _ hu => c_X2_hasCell hz1 hμ hu) rfl (Nat.le_of_ble_eq_true rfl) h mi_X2_hasCell me_X2_hasCell lkm_RX11_83 kt_1 rfl rfl rfl dX11_wayTime_5 (fun x1 μ2 hx1 hμ2 h => ?_)
  refine o_if_ne (tgt := 15) C hx1 dX11_wayTime_8 (by decide) h (fun _ h => ?_) (fun _ h => ?_)
  · refine o_aload_n C 0 dX11_wayTime_15 rfl rfl ?_
    refine o_cVI C [] mb_X11_atRest (by decide) (fun _ hu => c_X11_atRest hμ2 hu) rfl (Nat.le_of_ble_eq_true rfl) h mi_X11_atRest me_X11_atRest lkm_RX11_155 kt_0 rfl rfl rfl dX11_wayTime_16 (fun x3 μ4 hx3 hμ4 h => ?_)
    refine o_if_ne (tgt := 26) C hx3 dX11_wayTime_19 (by decide) h (fun _ h => ?_) (fun _ h => ?_)
    · refine o_aload_n C 0 dX11_wayTime_26 rfl rfl ?_
      refine o_getR (j := 2) C kt_0 rfl rfl (Nat.le_of_ble_eq_true rfl) lkf_RX11_30 dX11_wayTime_27 ?_
      refine o_iload_n C 1 dX11_wayTime_30 rfl rfl ?_
      refine o_cVL C [vI z1] mb_X8_milliOfWay (by decide) (fun _ hu => c_X8_milliOfWay hz1 hμ4 hu) rfl (Nat.le_of_ble_eq_true rfl) h mi_X8_milliOfWay me_X8_milliOfWay lkm_RX11_229 kt_23 rfl rfl rfl dX11_wayTime_31 (fun x5 μ6 hx5 hμ6 h => ?_)
      exact o_lret C hQ dX11_wayTime_34 h hx5 hμ6
    · refine o_ldc2 (v := (-10000003)) C lkc_RX11_165 rfl dX11_wayTime_22 ?_
      exact o_lret C hQ dX11_wayTime_25 h ⟨by decide, by decide⟩ hμ4
  · refine o_ldc2 (v := (-10000001)) C lkc_RX11_163 rfl dX11_wayTime_11 ?_
    exact o_lret C hQ dX11_wayTime_14 h ⟨by decide, by decide⟩ hμ2
theorem c_X11_wayTime {z1 : Int} (hz1 : r32 z1) {μ : GM} (hμ : gRg μ) {u : Int × GM} (h : f_X11_wayTime z1 μ = some u) : MtL 5 yX11_wayTime cX11_wayTime 2 (some .long) (fun ad => [.ref (ad 0), vI z1]) μ u := MtL.of pf_X11_wayTime (fun _ => Nat.le_of_ble_eq_true rfl) (fun G C hQ => w_X11_wayTime_0 C hQ hz1 hμ h)
def f_X11_zone (z1 : Int) (μ : GM) : Option (Int × GM) :=
  bd (f_X9_has z1 μ) fun x1 μ2 =>
  if x1 = 0 then
    some ((-10000001), μ2)
  else
    bd (f_X11_atRest μ2) fun x3 μ4 =>
    if x3 = 0 then
      some ((-10000003), μ4)
    else
      bd (f_X8_zoneOf z1 μ4) fun x5 μ6 =>
      some (x5, μ6)
set_option maxHeartbeats 4000000 in
set_option maxRecDepth 100000 in
theorem w_X11_zone_0 {G : GX} {u : Int × GM} (C : CX G 5 cX11_zone 2 RX11) (hQ : gQI G (some .int) u) {z1 : Int} (hz1 : r32 z1) {μ : GM} (hμ : gRg μ) (h : f_X11_zone z1 μ = some u) : WM G 2 μ 0 [(0, gR G 0), (1, vI z1)] [] := by
  unfold f_X11_zone at h
  refine o_aload_n C 0 dX11_zone_0 rfl rfl ?_
  refine o_getR (j := 0) C kt_0 rfl rfl (Nat.le_of_ble_eq_true rfl) lkf_RX11_10 dX11_zone_1 ?_
  refine o_getR (j := 7) C kt_1 rfl rfl (Nat.le_of_ble_eq_true rfl) lkf_RX11_119 dX11_zone_4 ?_
  refine o_iload_n C 1 dX11_zone_7 rfl rfl ?_
  refine o_cVI C [vI z1] mb_X9_has (by decide) (fun _ hu => c_X9_has hz1 hμ hu) rfl (Nat.le_of_ble_eq_true rfl) h mi_X9_has me_X9_has lkm_RX11_141 kt_18 rfl rfl rfl dX11_zone_8 (fun x1 μ2 hx1 hμ2 h => ?_)
  refine o_if_ne (tgt := 17) C hx1 dX11_zone_11 (by decide) h (fun _ h => ?_) (fun _ h => ?_)
  · refine o_aload_n C 0 dX11_zone_17 rfl rfl ?_
    refine o_cVI C [] mb_X11_atRest (by decide) (fun _ hu => c_X11_atRest hμ2 hu) rfl (Nat.le_of_ble_eq_true rfl) h mi_X11_atRest me_X11_atRest lkm_RX11_155 kt_0 rfl rfl rfl dX11_zone_18 (fun x3 μ4 hx3 hμ4 h => ?_)
    refine o_if_ne (tgt := 27) C hx3 dX11_zone_21 (by decide) h (fun _ h => ?_) (fun _ h => ?_)
    · refine o_aload_n C 0 dX11_zone_27 rfl rfl ?_
      refine o_getR (j := 2) C kt_0 rfl rfl (Nat.le_of_ble_eq_true rfl) lkf_RX11_30 dX11_zone_28 ?_
      refine o_iload_n C 1 dX11_zone_31 rfl rfl ?_
      refine o_cVI C [vI z1] mb_X8_zoneOf (by decide) (fun _ hu => c_X8_zoneOf hz1 hμ4 hu) rfl (Nat.le_of_ble_eq_true rfl) h mi_X8_zoneOf me_X8_zoneOf lkm_RX11_232 kt_23 rfl rfl rfl dX11_zone_32 (fun x5 μ6 hx5 hμ6 h => ?_)
      exact o_iret C hQ dX11_zone_35 h hx5 hμ6
    · refine o_ldc (v := (-10000003)) C lkc_RX11_88 rfl dX11_zone_24 ?_
      exact o_iret C hQ dX11_zone_26 h ⟨by decide, by decide⟩ hμ4
  · refine o_ldc (v := (-10000001)) C lkc_RX11_87 rfl dX11_zone_14 ?_
    exact o_iret C hQ dX11_zone_16 h ⟨by decide, by decide⟩ hμ2
theorem c_X11_zone {z1 : Int} (hz1 : r32 z1) {μ : GM} (hμ : gRg μ) {u : Int × GM} (h : f_X11_zone z1 μ = some u) : MtI 5 yX11_zone cX11_zone 2 (some .int) (fun ad => [.ref (ad 0), vI z1]) μ u := MtI.of pf_X11_zone (fun _ => Nat.le_of_ble_eq_true rfl) (fun G C hQ => w_X11_zone_0 C hQ hz1 hμ h)
def f_X11_spill (z1 : Int) (z2 : Int) (μ : GM) : Option (Int × GM) :=
  bd (f_X2_hasCell z1 μ) fun x1 μ2 =>
  if x1 = 0 then
    some ((-10000001), μ2)
  else
    bd (f_X2_hasEnd z2 μ2) fun x3 μ4 =>
    if x3 = 0 then
      some ((-10000001), μ4)
    else
      bd (f_X11_atRest μ4) fun x5 μ6 =>
      if x5 = 0 then
        some ((-10000003), μ6)
      else
        bd (f_X8_partsThatReach z1 z2 μ6) fun x7 μ8 =>
        some (x7, μ8)
set_option maxHeartbeats 4000000 in
set_option maxRecDepth 100000 in
theorem w_X11_spill_0 {G : GX} {u : Int × GM} (C : CX G 5 cX11_spill 3 RX11) (hQ : gQI G (some .int) u) {z1 : Int} (hz1 : r32 z1) {z2 : Int} (hz2 : r32 z2) {μ : GM} (hμ : gRg μ) (h : f_X11_spill z1 z2 μ = some u) : WM G 3 μ 0 [(0, gR G 0), (1, vI z1), (2, vI z2)] [] := by
  unfold f_X11_spill at h
  refine o_aload_n C 0 dX11_spill_0 rfl rfl ?_
  refine o_getR (j := 0) C kt_0 rfl rfl (Nat.le_of_ble_eq_true rfl) lkf_RX11_10 dX11_spill_1 ?_
  refine o_iload_n C 1 dX11_spill_4 rfl rfl ?_
  refine o_cVI C [vI z1] mb_X2_hasCell (by decide) (fun _ hu => c_X2_hasCell hz1 hμ hu) rfl (Nat.le_of_ble_eq_true rfl) h mi_X2_hasCell me_X2_hasCell lkm_RX11_83 kt_1 rfl rfl rfl dX11_spill_5 (fun x1 μ2 hx1 hμ2 h => ?_)
  refine o_if_eq (tgt := 22) C hx1 dX11_spill_8 (by decide) h (fun _ h => ?_) (fun _ h => ?_)
  · refine o_ldc (v := (-10000001)) C lkc_RX11_87 rfl dX11_spill_22 ?_
    exact o_iret C hQ dX11_spill_24 h ⟨by decide, by decide⟩ hμ2
  · refine o_aload_n C 0 dX11_spill_11 rfl rfl ?_
    refine o_getR (j := 0) C kt_0 rfl rfl (Nat.le_of_ble_eq_true rfl) lkf_RX11_10 dX11_spill_12 ?_
    refine o_iload_n C 2 dX11_spill_15 rfl rfl ?_
    refine o_cVI C [vI z2] mb_X2_hasEnd (by decide) (fun _ hu => c_X2_hasEnd hz2 hμ2 hu) rfl (Nat.le_of_ble_eq_true rfl) h mi_X2_hasEnd me_X2_hasEnd lkm_RX11_235 kt_1 rfl rfl rfl dX11_spill_16 (fun x3 μ4 hx3 hμ4 h => ?_)
    refine o_if_ne (tgt := 25) C hx3 dX11_spill_19 (by decide) h (fun _ h => ?_) (fun _ h => ?_)
    · refine o_aload_n C 0 dX11_spill_25 rfl rfl ?_
      refine o_cVI C [] mb_X11_atRest (by decide) (fun _ hu => c_X11_atRest hμ4 hu) rfl (Nat.le_of_ble_eq_true rfl) h mi_X11_atRest me_X11_atRest lkm_RX11_155 kt_0 rfl rfl rfl dX11_spill_26 (fun x5 μ6 hx5 hμ6 h => ?_)
      refine o_if_ne (tgt := 35) C hx5 dX11_spill_29 (by decide) h (fun _ h => ?_) (fun _ h => ?_)
      · refine o_aload_n C 0 dX11_spill_35 rfl rfl ?_
        refine o_getR (j := 2) C kt_0 rfl rfl (Nat.le_of_ble_eq_true rfl) lkf_RX11_30 dX11_spill_36 ?_
        refine o_iload_n C 1 dX11_spill_39 rfl rfl ?_
        refine o_iload_n C 2 dX11_spill_40 rfl rfl ?_
        refine o_cVI C [vI z1, vI z2] mb_X8_partsThatReach (by decide) (fun _ hu => c_X8_partsThatReach hz1 hz2 hμ6 hu) rfl (Nat.le_of_ble_eq_true rfl) h mi_X8_partsThatReach me_X8_partsThatReach lkm_RX11_238 kt_23 rfl rfl rfl dX11_spill_41 (fun x7 μ8 hx7 hμ8 h => ?_)
        exact o_iret C hQ dX11_spill_44 h hx7 hμ8
      · refine o_ldc (v := (-10000003)) C lkc_RX11_88 rfl dX11_spill_32 ?_
        exact o_iret C hQ dX11_spill_34 h ⟨by decide, by decide⟩ hμ6
    · refine o_ldc (v := (-10000001)) C lkc_RX11_87 rfl dX11_spill_22 ?_
      exact o_iret C hQ dX11_spill_24 h ⟨by decide, by decide⟩ hμ4
theorem c_X11_spill {z1 : Int} (hz1 : r32 z1) {z2 : Int} (hz2 : r32 z2) {μ : GM} (hμ : gRg μ) {u : Int × GM} (h : f_X11_spill z1 z2 μ = some u) : MtI 5 yX11_spill cX11_spill 3 (some .int) (fun ad => [.ref (ad 0), vI z1, vI z2]) μ u := MtI.of pf_X11_spill (fun _ => Nat.le_of_ble_eq_true rfl) (fun G C hQ => w_X11_spill_0 C hQ hz1 hz2 hμ h)
def f_X11_pour (z1 : Int) (z2 : Int) (μ : GM) : Option (Int × GM) :=
  bd (f_X2_hasCell z1 μ) fun x1 μ2 =>
  if x1 = 0 then
    some ((-10000001), μ2)
  else
    bd (f_X11_outside z2 0 1000000 μ2) fun x3 μ4 =>
    if x3 = 0 then
      bd (f_X0_beginBooks μ4) fun _x5 μ6 =>
      bd (f_X11_exchange 28 z1 z2 μ6) fun x7 μ8 =>
      some (x7, μ8)
    else
      some ((-10000002), μ4)
set_option maxHeartbeats 4000000 in
set_option maxRecDepth 100000 in
theorem w_X11_pour_0 {G : GX} {u : Int × GM} (C : CX G 2 cX11_pour 3 RX11) (hQ : gQI G (some .int) u) {z1 : Int} (hz1 : r32 z1) {z2 : Int} (hz2 : r32 z2) {μ : GM} (hμ : gRg μ) (h : f_X11_pour z1 z2 μ = some u) : WM G 3 μ 0 [(0, gR G 0), (1, vI z1), (2, vI z2)] [] := by
  unfold f_X11_pour at h
  refine o_aload_n C 0 dX11_pour_0 rfl rfl ?_
  refine o_getR (j := 0) C kt_0 rfl rfl (Nat.le_of_ble_eq_true rfl) lkf_RX11_10 dX11_pour_1 ?_
  refine o_iload_n C 1 dX11_pour_4 rfl rfl ?_
  refine o_cVI C [vI z1] mb_X2_hasCell (by decide) (fun _ hu => c_X2_hasCell hz1 hμ hu) rfl (Nat.le_of_ble_eq_true rfl) h mi_X2_hasCell me_X2_hasCell lkm_RX11_83 kt_1 rfl rfl rfl dX11_pour_5 (fun x1 μ2 hx1 hμ2 h => ?_)
  refine o_if_ne (tgt := 14) C hx1 dX11_pour_8 (by decide) h (fun _ h => ?_) (fun _ h => ?_)
  · refine o_iload_n C 2 dX11_pour_14 rfl rfl ?_
    refine o_iconst C dX11_pour_15 ?_
    refine o_ldc (v := 1000000) C lkc_RX11_241 rfl dX11_pour_16 ?_
    refine o_cSI C [vI z2, vI 0, vI 1000000] mb_X11_outside (by decide) (fun _ hu => c_X11_outside hz2 ⟨by decide, by decide⟩ ⟨by decide, by decide⟩ hμ2 hu) rfl (Nat.le_of_ble_eq_true rfl) h ms_X11_outside lkm_RX11_66 rfl rfl dX11_pour_18 (fun x3 μ4 hx3 hμ4 h => ?_)
    refine o_if_eq (tgt := 27) C hx3 dX11_pour_21 (by decide) h (fun _ h => ?_) (fun _ h => ?_)
    · refine o_aload_n C 0 dX11_pour_27 rfl rfl ?_
      refine o_getR (j := 3) C kt_0 rfl rfl (Nat.le_of_ble_eq_true rfl) lkf_RX11_39 dX11_pour_28 ?_
      refine o_cVV C [] mb_X0_beginBooks (by decide) (fun _ hu => c_X0_beginBooks hμ4 hu) rfl (Nat.le_of_ble_eq_true rfl) h mi_X0_beginBooks me_X0_beginBooks lkm_RX11_242 kt_27 rfl rfl rfl dX11_pour_31 (fun _x5 μ6 hμ6 h => ?_)
      refine o_aload_n C 0 dX11_pour_34 rfl rfl ?_
      refine o_getR (j := 3) C kt_0 rfl rfl (Nat.le_of_ble_eq_true rfl) lkf_RX11_39 dX11_pour_35 ?_
      refine o_getR (j := 1) C kt_27 rfl rfl (Nat.le_of_ble_eq_true rfl) lkf_RX11_245 dX11_pour_38 ?_
      refine o_iload_n C 1 dX11_pour_41 rfl rfl ?_
      refine o_iload_n C 2 dX11_pour_42 rfl rfl ?_
      refine o_cSI C [gR G 28, vI z1, vI z2] mb_X11_exchange (by decide) (fun _ hu => c_X11_exchange (kt_gen kt_28) hz1 hz2 hμ6 hu) rfl (Nat.le_of_ble_eq_true rfl) h ms_X11_exchange lkm_RX11_131 rfl rfl dX11_pour_43 (fun x7 μ8 hx7 hμ8 h => ?_)
      exact o_iret C hQ dX11_pour_46 h hx7 hμ8
    · refine o_ldc (v := (-10000002)) C lkc_RX11_70 rfl dX11_pour_24 ?_
      exact o_iret C hQ dX11_pour_26 h ⟨by decide, by decide⟩ hμ4
  · refine o_ldc (v := (-10000001)) C lkc_RX11_87 rfl dX11_pour_11 ?_
    exact o_iret C hQ dX11_pour_13 h ⟨by decide, by decide⟩ hμ2
theorem c_X11_pour {z1 : Int} (hz1 : r32 z1) {z2 : Int} (hz2 : r32 z2) {μ : GM} (hμ : gRg μ) {u : Int × GM} (h : f_X11_pour z1 z2 μ = some u) : MtI 2 yX11_pour cX11_pour 3 (some .int) (fun ad => [.ref (ad 0), vI z1, vI z2]) μ u := MtI.of pf_X11_pour (fun _ => Nat.le_of_ble_eq_true rfl) (fun G C hQ => w_X11_pour_0 C hQ hz1 hz2 hμ h)
def f_X11_cups (z1 : Int) (μ : GM) : Option (Int × GM) :=
  bd (f_X2_hasCell z1 μ) fun x1 μ2 =>
  if x1 = 0 then
    some ((-10000001), μ2)
  else
    ck (0 ≤ z1 ∧ z1 < 6) (
    some ((μ2.1 28 z1), μ2))
set_option maxHeartbeats 4000000 in
set_option maxRecDepth 100000 in
theorem w_X11_cups_0 {G : GX} {u : Int × GM} (C : CX G 1 cX11_cups 2 RX11) (hQ : gQI G (some .int) u) {z1 : Int} (hz1 : r32 z1) {μ : GM} (hμ : gRg μ) (h : f_X11_cups z1 μ = some u) : WM G 2 μ 0 [(0, gR G 0), (1, vI z1)] [] := by
  unfold f_X11_cups at h
  refine o_aload_n C 0 dX11_cups_0 rfl rfl ?_
  refine o_getR (j := 0) C kt_0 rfl rfl (Nat.le_of_ble_eq_true rfl) lkf_RX11_10 dX11_cups_1 ?_
  refine o_iload_n C 1 dX11_cups_4 rfl rfl ?_
  refine o_cVI C [vI z1] mb_X2_hasCell (by decide) (fun _ hu => c_X2_hasCell hz1 hμ hu) rfl (Nat.le_of_ble_eq_true rfl) h mi_X2_hasCell me_X2_hasCell lkm_RX11_83 kt_1 rfl rfl rfl dX11_cups_5 (fun x1 μ2 hx1 hμ2 h => ?_)
  refine o_if_ne (tgt := 14) C hx1 dX11_cups_8 (by decide) h (fun _ h => ?_) (fun _ h => ?_)
  · refine o_aload_n C 0 dX11_cups_14 rfl rfl ?_
    refine o_getR (j := 3) C kt_0 rfl rfl (Nat.le_of_ble_eq_true rfl) lkf_RX11_39 dX11_cups_15 ?_
    refine o_getR (j := 1) C kt_27 rfl rfl (Nat.le_of_ble_eq_true rfl) lkf_RX11_245 dX11_cups_18 ?_
    refine o_iload_n C 1 dX11_cups_21 rfl rfl ?_
    refine o_iald C kt_28 rfl hz1 dX11_cups_22 h (fun h => ?_)
    exact o_iret C hQ dX11_cups_23 h (hμ2.i kt_28 (by decide) _) hμ2
  · refine o_ldc (v := (-10000001)) C lkc_RX11_87 rfl dX11_cups_11 ?_
    exact o_iret C hQ dX11_cups_13 h ⟨by decide, by decide⟩ hμ2
theorem c_X11_cups {z1 : Int} (hz1 : r32 z1) {μ : GM} (hμ : gRg μ) {u : Int × GM} (h : f_X11_cups z1 μ = some u) : MtI 1 yX11_cups cX11_cups 2 (some .int) (fun ad => [.ref (ad 0), vI z1]) μ u := MtI.of pf_X11_cups (fun _ => Nat.le_of_ble_eq_true rfl) (fun G C hQ => w_X11_cups_0 C hQ hz1 hμ h)
def f_X11_mark (z1 : Int) (μ : GM) : Option (Int × GM) :=
  bd (f_X2_hasCell z1 μ) fun x1 μ2 =>
  if x1 = 0 then
    some ((-10000001), μ2)
  else
    bd (f_X0_markOf z1 μ2) fun x3 μ4 =>
    some (x3, μ4)
set_option maxHeartbeats 4000000 in
set_option maxRecDepth 100000 in
theorem w_X11_mark_0 {G : GX} {u : Int × GM} (C : CX G 1 cX11_mark 2 RX11) (hQ : gQI G (some .int) u) {z1 : Int} (hz1 : r32 z1) {μ : GM} (hμ : gRg μ) (h : f_X11_mark z1 μ = some u) : WM G 2 μ 0 [(0, gR G 0), (1, vI z1)] [] := by
  unfold f_X11_mark at h
  refine o_aload_n C 0 dX11_mark_0 rfl rfl ?_
  refine o_getR (j := 0) C kt_0 rfl rfl (Nat.le_of_ble_eq_true rfl) lkf_RX11_10 dX11_mark_1 ?_
  refine o_iload_n C 1 dX11_mark_4 rfl rfl ?_
  refine o_cVI C [vI z1] mb_X2_hasCell (by decide) (fun _ hu => c_X2_hasCell hz1 hμ hu) rfl (Nat.le_of_ble_eq_true rfl) h mi_X2_hasCell me_X2_hasCell lkm_RX11_83 kt_1 rfl rfl rfl dX11_mark_5 (fun x1 μ2 hx1 hμ2 h => ?_)
  refine o_if_ne (tgt := 14) C hx1 dX11_mark_8 (by decide) h (fun _ h => ?_) (fun _ h => ?_)
  · refine o_aload_n C 0 dX11_mark_14 rfl rfl ?_
    refine o_getR (j := 3) C kt_0 rfl rfl (Nat.le_of_ble_eq_true rfl) lkf_RX11_39 dX11_mark_15 ?_
    refine o_iload_n C 1 dX11_mark_18 rfl rfl ?_
    refine o_cVI C [vI z1] mb_X0_markOf (by decide) (fun _ hu => c_X0_markOf hz1 hμ2 hu) rfl (Nat.le_of_ble_eq_true rfl) h mi_X0_markOf me_X0_markOf lkm_RX11_248 kt_27 rfl rfl rfl dX11_mark_19 (fun x3 μ4 hx3 hμ4 h => ?_)
    exact o_iret C hQ dX11_mark_22 h hx3 hμ4
  · refine o_ldc (v := (-10000001)) C lkc_RX11_87 rfl dX11_mark_11 ?_
    exact o_iret C hQ dX11_mark_13 h ⟨by decide, by decide⟩ hμ2
theorem c_X11_mark {z1 : Int} (hz1 : r32 z1) {μ : GM} (hμ : gRg μ) {u : Int × GM} (h : f_X11_mark z1 μ = some u) : MtI 1 yX11_mark cX11_mark 2 (some .int) (fun ad => [.ref (ad 0), vI z1]) μ u := MtI.of pf_X11_mark (fun _ => Nat.le_of_ble_eq_true rfl) (fun G C hQ => w_X11_mark_0 C hQ hz1 hμ h)
def k_X11_tick_15 : Nat → Int → Int → GM → Option (Int × GM)
  | 0, _, _, _ => none
  | n + 1, z1, z2, μ =>
    if z2 < z1 then
      bd (f_X0_passTick μ) fun _x3 μ4 =>
      lt (w32 (z2 + 1)) fun x5 =>
      k_X11_tick_15 n z1 x5 μ4
    else
      bd (f_X0_allHeld μ) fun x1 μ2 =>
      some (x1, μ2)
set_option maxHeartbeats 4000000 in
set_option maxRecDepth 100000 in
theorem w_X11_tick_15 {G : GX} {u : Int × GM} (C : CX G 4 cX11_tick 3 RX11) (hQ : gQI G (some .int) u) : ∀ (n : Nat) (z1 : Int) (hz1 : r32 z1) (z2 : Int) (hz2 : r32 z2) (μ : GM) (hμ : gRg μ), k_X11_tick_15 n z1 z2 μ = some u → WM G 3 μ 15 [(0, gR G 0), (1, vI z1), (2, vI z2)] [] := by
  intro n
  induction n with
  | zero =>
    intro z1 hz1 z2 hz2 μ hμ h
    cases h
  | succ n ih =>
    intro z1 hz1 z2 hz2 μ hμ h
    rw [k_X11_tick_15] at h
    refine o_iload_n C 2 dX11_tick_15 rfl rfl ?_
    refine o_iload_n C 1 dX11_tick_16 rfl rfl ?_
    refine o_icmp_ge (tgt := 33) C hz2 hz1 dX11_tick_17 (by decide) h (fun _ h => ?_) (fun _ h => ?_)
    · refine o_aload_n C 0 dX11_tick_33 rfl rfl ?_
      refine o_getR (j := 3) C kt_0 rfl rfl (Nat.le_of_ble_eq_true rfl) lkf_RX11_39 dX11_tick_34 ?_
      refine o_cVI C [] mb_X0_allHeld (by decide) (fun _ hu => c_X0_allHeld hμ hu) rfl (Nat.le_of_ble_eq_true rfl) h mi_X0_allHeld me_X0_allHeld lkm_RX11_254 kt_27 rfl rfl rfl dX11_tick_37 (fun x1 μ2 hx1 hμ2 h => ?_)
      exact o_iret C hQ dX11_tick_40 h hx1 hμ2
    · refine o_aload_n C 0 dX11_tick_20 rfl rfl ?_
      refine o_getR (j := 3) C kt_0 rfl rfl (Nat.le_of_ble_eq_true rfl) lkf_RX11_39 dX11_tick_21 ?_
      refine o_cVV C [] mb_X0_passTick (by decide) (fun _ hu => c_X0_passTick hμ hu) rfl (Nat.le_of_ble_eq_true rfl) h mi_X0_passTick me_X0_passTick lkm_RX11_251 kt_27 rfl rfl rfl dX11_tick_24 (fun _x3 μ4 hμ4 h => ?_)
      refine o_iinc (lv2 := fun x5 => [(2, vI x5), (0, gR G 0), (1, vI z1)]) C 2 dX11_tick_27 rfl (by decide) (fun _ => rfl) h (fun x5 hx5 h => ?_)
      refine o_goto (tgt := 15) C dX11_tick_30 (by decide) ?_
      exact WM.sub [1, 2, 0] rfl (ih z1 hz1 x5 hx5 μ4 hμ4 h)
def f_X11_tick (z1 : Int) (μ : GM) : Option (Int × GM) :=
  bd (f_X11_outside z1 1 100 μ) fun x1 μ2 =>
  if x1 = 0 then
    k_X11_tick_15 FU z1 0 μ2
  else
    some ((-10000002), μ2)
set_option maxHeartbeats 4000000 in
set_option maxRecDepth 100000 in
theorem w_X11_tick_0 {G : GX} {u : Int × GM} (C : CX G 4 cX11_tick 3 RX11) (hQ : gQI G (some .int) u) {z1 : Int} (hz1 : r32 z1) {μ : GM} (hμ : gRg μ) (h : f_X11_tick z1 μ = some u) : WM G 3 μ 0 [(0, gR G 0), (1, vI z1)] [] := by
  unfold f_X11_tick at h
  refine o_iload_n C 1 dX11_tick_0 rfl rfl ?_
  refine o_iconst C dX11_tick_1 ?_
  refine o_bipush (v := 100) C dX11_tick_2 (by decide) ?_
  refine o_cSI C [vI z1, vI 1, vI 100] mb_X11_outside (by decide) (fun _ hu => c_X11_outside hz1 ⟨by decide, by decide⟩ ⟨by decide, by decide⟩ hμ hu) rfl (Nat.le_of_ble_eq_true rfl) h ms_X11_outside lkm_RX11_66 rfl rfl dX11_tick_4 (fun x1 μ2 hx1 hμ2 h => ?_)
  refine o_if_eq (tgt := 13) C hx1 dX11_tick_7 (by decide) h (fun _ h => ?_) (fun _ h => ?_)
  · refine o_iconst C dX11_tick_13 ?_
    refine o_istore_n (lv2 := [(2, vI 0), (0, gR G 0), (1, vI z1)]) C dX11_tick_14 rfl (by decide) rfl ?_
    exact WM.sub [1, 2, 0] rfl (w_X11_tick_15 C hQ FU z1 hz1 0 ⟨by decide, by decide⟩ μ2 hμ2 h)
  · refine o_ldc (v := (-10000002)) C lkc_RX11_70 rfl dX11_tick_10 ?_
    exact o_iret C hQ dX11_tick_12 h ⟨by decide, by decide⟩ hμ2
theorem c_X11_tick {z1 : Int} (hz1 : r32 z1) {μ : GM} (hμ : gRg μ) {u : Int × GM} (h : f_X11_tick z1 μ = some u) : MtI 4 yX11_tick cX11_tick 3 (some .int) (fun ad => [.ref (ad 0), vI z1]) μ u := MtI.of pf_X11_tick (fun _ => Nat.le_of_ble_eq_true rfl) (fun G C hQ => w_X11_tick_0 C hQ hz1 hμ h)
def f_X11_book (z1 : Int) (μ : GM) : Option (Int × GM) :=
  bd (f_X11_outside z1 0 5 μ) fun x1 μ2 =>
  if x1 = 0 then
    ck (0 ≤ z1 ∧ z1 < 6) (
    some ((μ2.1 29 z1), μ2))
  else
    some ((-10000002), μ2)
set_option maxHeartbeats 4000000 in
set_option maxRecDepth 100000 in
theorem w_X11_book_0 {G : GX} {u : Int × GM} (C : CX G 1 cX11_book 2 RX11) (hQ : gQL G (some .long) u) {z1 : Int} (hz1 : r32 z1) {μ : GM} (hμ : gRg μ) (h : f_X11_book z1 μ = some u) : WM G 2 μ 0 [(0, gR G 0), (1, vI z1)] [] := by
  unfold f_X11_book at h
  refine o_iload_n C 1 dX11_book_0 rfl rfl ?_
  refine o_iconst C dX11_book_1 ?_
  refine o_iconst C dX11_book_2 ?_
  refine o_cSI C [vI z1, vI 0, vI 5] mb_X11_outside (by decide) (fun _ hu => c_X11_outside hz1 ⟨by decide, by decide⟩ ⟨by decide, by decide⟩ hμ hu) rfl (Nat.le_of_ble_eq_true rfl) h ms_X11_outside lkm_RX11_66 rfl rfl dX11_book_3 (fun x1 μ2 hx1 hμ2 h => ?_)
  refine o_if_eq (tgt := 13) C hx1 dX11_book_6 (by decide) h (fun _ h => ?_) (fun _ h => ?_)
  · refine o_aload_n C 0 dX11_book_13 rfl rfl ?_
    refine o_getR (j := 3) C kt_0 rfl rfl (Nat.le_of_ble_eq_true rfl) lkf_RX11_39 dX11_book_14 ?_
    refine o_getR (j := 2) C kt_27 rfl rfl (Nat.le_of_ble_eq_true rfl) lkf_RX11_260 dX11_book_17 ?_
    refine o_iload_n C 1 dX11_book_20 rfl rfl ?_
    refine o_lald C kt_29 rfl hz1 dX11_book_21 h (fun h => ?_)
    exact o_lret C hQ dX11_book_22 h (hμ2.l kt_29 _) hμ2
  · refine o_ldc2 (v := (-10000002)) C lkc_RX11_258 rfl dX11_book_9 ?_
    exact o_lret C hQ dX11_book_12 h ⟨by decide, by decide⟩ hμ2
theorem c_X11_book {z1 : Int} (hz1 : r32 z1) {μ : GM} (hμ : gRg μ) {u : Int × GM} (h : f_X11_book z1 μ = some u) : MtL 1 yX11_book cX11_book 2 (some .long) (fun ad => [.ref (ad 0), vI z1]) μ u := MtL.of pf_X11_book (fun _ => Nat.le_of_ble_eq_true rfl) (fun G C hQ => w_X11_book_0 C hQ hz1 hμ h)
def f_X11_world (z1 : Int) (z2 : Int) (μ : GM) : Option (Int × GM) :=
  bd (f_X3_has z1 μ) fun x1 μ2 =>
  if x1 = 0 then
    some ((-10000001), μ2)
  else
    bd (f_X11_outside z2 1 9 μ2) fun x3 μ4 =>
    if x3 = 0 then
      if (μ4.2 31 2) < 5 then
        bd (f_X10_add z1 z2 μ4) fun x5 μ6 =>
        some (x5, μ6)
      else
        some ((-10000004), μ4)
    else
      some ((-10000002), μ4)
set_option maxHeartbeats 4000000 in
set_option maxRecDepth 100000 in
theorem w_X11_world_0 {G : GX} {u : Int × GM} (C : CX G 1 cX11_world 3 RX11) (hQ : gQI G (some .int) u) {z1 : Int} (hz1 : r32 z1) {z2 : Int} (hz2 : r32 z2) {μ : GM} (hμ : gRg μ) (h : f_X11_world z1 z2 μ = some u) : WM G 3 μ 0 [(0, gR G 0), (1, vI z1), (2, vI z2)] [] := by
  unfold f_X11_world at h
  refine o_aload_n C 0 dX11_world_0 rfl rfl ?_
  refine o_getR (j := 0) C kt_0 rfl rfl (Nat.le_of_ble_eq_true rfl) lkf_RX11_10 dX11_world_1 ?_
  refine o_getR (j := 4) C kt_1 rfl rfl (Nat.le_of_ble_eq_true rfl) lkf_RX11_89 dX11_world_4 ?_
  refine o_iload_n C 1 dX11_world_7 rfl rfl ?_
  refine o_cVI C [vI z1] mb_X3_has (by decide) (fun _ hu => c_X3_has hz1 hμ hu) rfl (Nat.le_of_ble_eq_true rfl) h mi_X3_has me_X3_has lkm_RX11_135 kt_5 rfl rfl rfl dX11_world_8 (fun x1 μ2 hx1 hμ2 h => ?_)
  refine o_if_ne (tgt := 17) C hx1 dX11_world_11 (by decide) h (fun _ h => ?_) (fun _ h => ?_)
  · refine o_iload_n C 2 dX11_world_17 rfl rfl ?_
    refine o_iconst C dX11_world_18 ?_
    refine o_bipush (v := 9) C dX11_world_19 (by decide) ?_
    refine o_cSI C [vI z2, vI 1, vI 9] mb_X11_outside (by decide) (fun _ hu => c_X11_outside hz2 ⟨by decide, by decide⟩ ⟨by decide, by decide⟩ hμ2 hu) rfl (Nat.le_of_ble_eq_true rfl) h ms_X11_outside lkm_RX11_66 rfl rfl dX11_world_21 (fun x3 μ4 hx3 hμ4 h => ?_)
    refine o_if_eq (tgt := 30) C hx3 dX11_world_24 (by decide) h (fun _ h => ?_) (fun _ h => ?_)
    · refine o_aload_n C 0 dX11_world_30 rfl rfl ?_
      refine o_getR (j := 4) C kt_0 rfl rfl (Nat.le_of_ble_eq_true rfl) lkf_RX11_46 dX11_world_31 ?_
      refine o_getI (j := 2) C kt_31 rfl rfl (Nat.le_of_ble_eq_true rfl) lkf_RX11_263 dX11_world_34 ?_
      refine o_iconst C dX11_world_37 ?_
      refine o_icmp_lt (tgt := 44) C (hμ4.fi kt_31 rfl (by decide)) ⟨by decide, by decide⟩ dX11_world_38 (by decide) h (fun _ h => ?_) (fun _ h => ?_)
      · refine o_aload_n C 0 dX11_world_44 rfl rfl ?_
        refine o_getR (j := 4) C kt_0 rfl rfl (Nat.le_of_ble_eq_true rfl) lkf_RX11_46 dX11_world_45 ?_
        refine o_iload_n C 1 dX11_world_48 rfl rfl ?_
        refine o_iload_n C 2 dX11_world_49 rfl rfl ?_
        refine o_cVI C [vI z1, vI z2] mb_X10_add (by decide) (fun _ hu => c_X10_add hz1 hz2 hμ4 hu) rfl (Nat.le_of_ble_eq_true rfl) h mi_X10_add me_X10_add lkm_RX11_264 kt_31 rfl rfl rfl dX11_world_50 (fun x5 μ6 hx5 hμ6 h => ?_)
        exact o_iret C hQ dX11_world_53 h hx5 hμ6
      · refine o_ldc (v := (-10000004)) C lkc_RX11_75 rfl dX11_world_41 ?_
        exact o_iret C hQ dX11_world_43 h ⟨by decide, by decide⟩ hμ4
    · refine o_ldc (v := (-10000002)) C lkc_RX11_70 rfl dX11_world_27 ?_
      exact o_iret C hQ dX11_world_29 h ⟨by decide, by decide⟩ hμ4
  · refine o_ldc (v := (-10000001)) C lkc_RX11_87 rfl dX11_world_14 ?_
    exact o_iret C hQ dX11_world_16 h ⟨by decide, by decide⟩ hμ2
theorem c_X11_world {z1 : Int} (hz1 : r32 z1) {z2 : Int} (hz2 : r32 z2) {μ : GM} (hμ : gRg μ) {u : Int × GM} (h : f_X11_world z1 z2 μ = some u) : MtI 1 yX11_world cX11_world 3 (some .int) (fun ad => [.ref (ad 0), vI z1, vI z2]) μ u := MtI.of pf_X11_world (fun _ => Nat.le_of_ble_eq_true rfl) (fun G C hQ => w_X11_world_0 C hQ hz1 hz2 hμ h)
def f_X11_see (z1 : Int) (z2 : Int) (z3 : Int) (μ : GM) : Option (Int × GM) :=
  bd (f_X2_hasCell z1 μ) fun x1 μ2 =>
  if x1 = 0 then
    some ((-10000001), μ2)
  else
    bd (f_X11_outside z2 (-9000000) 9000000 μ2) fun x3 μ4 =>
    if x3 = 0 then
      if 100000 < z3 then
        some ((-10000002), μ4)
      else
        bd (f_X10_note z1 z2 z3 μ4) fun x5 μ6 =>
        if x5 = 0 then
          some (0, μ6)
        else
          some (1, μ6)
    else
      some ((-10000002), μ4)
set_option maxHeartbeats 4000000 in
set_option maxRecDepth 100000 in
theorem w_X11_see_0 {G : GX} {u : Int × GM} (C : CX G 2 cX11_see 4 RX11) (hQ : gQI G (some .int) u) {z1 : Int} (hz1 : r32 z1) {z2 : Int} (hz2 : r32 z2) {z3 : Int} (hz3 : r32 z3) {μ : GM} (hμ : gRg μ) (h : f_X11_see z1 z2 z3 μ = some u) : WM G 4 μ 0 [(0, gR G 0), (1, vI z1), (2, vI z2), (3, vI z3)] [] := by
  unfold f_X11_see at h
  refine o_aload_n C 0 dX11_see_0 rfl rfl ?_
  refine o_getR (j := 0) C kt_0 rfl rfl (Nat.le_of_ble_eq_true rfl) lkf_RX11_10 dX11_see_1 ?_
  refine o_iload_n C 1 dX11_see_4 rfl rfl ?_
  refine o_cVI C [vI z1] mb_X2_hasCell (by decide) (fun _ hu => c_X2_hasCell hz1 hμ hu) rfl (Nat.le_of_ble_eq_true rfl) h mi_X2_hasCell me_X2_hasCell lkm_RX11_83 kt_1 rfl rfl rfl dX11_see_5 (fun x1 μ2 hx1 hμ2 h => ?_)
  refine o_if_ne (tgt := 14) C hx1 dX11_see_8 (by decide) h (fun _ h => ?_) (fun _ h => ?_)
  · refine o_iload_n C 2 dX11_see_14 rfl rfl ?_
    refine o_ldcw (v := (-9000000)) C lkc_RX11_266 rfl dX11_see_15 ?_
    refine o_ldcw (v := 9000000) C lkc_RX11_267 rfl dX11_see_18 ?_
    refine o_cSI C [vI z2, vI (-9000000), vI 9000000] mb_X11_outside (by decide) (fun _ hu => c_X11_outside hz2 ⟨by decide, by decide⟩ ⟨by decide, by decide⟩ hμ2 hu) rfl (Nat.le_of_ble_eq_true rfl) h ms_X11_outside lkm_RX11_66 rfl rfl dX11_see_21 (fun x3 μ4 hx3 hμ4 h => ?_)
    refine o_if_ne (tgt := 34) C hx3 dX11_see_24 (by decide) h (fun _ h => ?_) (fun _ h => ?_)
    · refine o_ldc (v := (-10000002)) C lkc_RX11_70 rfl dX11_see_34 ?_
      exact o_iret C hQ dX11_see_36 h ⟨by decide, by decide⟩ hμ4
    · refine o_iload_n C 3 dX11_see_27 rfl rfl ?_
      refine o_ldcw (v := 100000) C lkc_RX11_268 rfl dX11_see_28 ?_
      refine o_icmp_le (tgt := 37) C hz3 ⟨by decide, by decide⟩ dX11_see_31 (by decide) h (fun _ h => ?_) (fun _ h => ?_)
      · refine o_aload_n C 0 dX11_see_37 rfl rfl ?_
        refine o_getR (j := 4) C kt_0 rfl rfl (Nat.le_of_ble_eq_true rfl) lkf_RX11_46 dX11_see_38 ?_
        refine o_iload_n C 1 dX11_see_41 rfl rfl ?_
        refine o_iload_n C 2 dX11_see_42 rfl rfl ?_
        refine o_iload_n C 3 dX11_see_43 rfl rfl ?_
        refine o_cVI C [vI z1, vI z2, vI z3] mb_X10_note (by decide) (fun _ hu => c_X10_note hz1 hz2 hz3 hμ4 hu) rfl (Nat.le_of_ble_eq_true rfl) h mi_X10_note me_X10_note lkm_RX11_269 kt_31 rfl rfl rfl dX11_see_44 (fun x5 μ6 hx5 hμ6 h => ?_)
        refine o_if_eq (tgt := 54) C hx5 dX11_see_47 (by decide) h (fun _ h => ?_) (fun _ h => ?_)
        · refine o_iconst C dX11_see_54 ?_
          exact o_iret C hQ dX11_see_55 h ⟨by decide, by decide⟩ hμ6
        · refine o_iconst C dX11_see_50 ?_
          refine o_goto (tgt := 55) C dX11_see_51 (by decide) ?_
          exact o_iret C hQ dX11_see_55 h ⟨by decide, by decide⟩ hμ6
      · refine o_ldc (v := (-10000002)) C lkc_RX11_70 rfl dX11_see_34 ?_
        exact o_iret C hQ dX11_see_36 h ⟨by decide, by decide⟩ hμ4
  · refine o_ldc (v := (-10000001)) C lkc_RX11_87 rfl dX11_see_11 ?_
    exact o_iret C hQ dX11_see_13 h ⟨by decide, by decide⟩ hμ2
theorem c_X11_see {z1 : Int} (hz1 : r32 z1) {z2 : Int} (hz2 : r32 z2) {z3 : Int} (hz3 : r32 z3) {μ : GM} (hμ : gRg μ) {u : Int × GM} (h : f_X11_see z1 z2 z3 μ = some u) : MtI 2 yX11_see cX11_see 4 (some .int) (fun ad => [.ref (ad 0), vI z1, vI z2, vI z3]) μ u := MtI.of pf_X11_see (fun _ => Nat.le_of_ble_eq_true rfl) (fun G C hQ => w_X11_see_0 C hQ hz1 hz2 hz3 hμ h)
def f_X11_left (μ : GM) : Option (Int × GM) :=
  bd (f_X10_thatAreLeft μ) fun x1 μ2 =>
  some (x1, μ2)
set_option maxHeartbeats 4000000 in
set_option maxRecDepth 100000 in
theorem w_X11_left_0 {G : GX} {u : Int × GM} (C : CX G 6 cX11_left 1 RX11) (hQ : gQI G (some .int) u) {μ : GM} (hμ : gRg μ) (h : f_X11_left μ = some u) : WM G 1 μ 0 [(0, gR G 0)] [] := by
  unfold f_X11_left at h
  refine o_aload_n C 0 dX11_left_0 rfl rfl ?_
  refine o_getR (j := 4) C kt_0 rfl rfl (Nat.le_of_ble_eq_true rfl) lkf_RX11_46 dX11_left_1 ?_
  refine o_cVI C [] mb_X10_thatAreLeft (by decide) (fun _ hu => c_X10_thatAreLeft hμ hu) rfl (Nat.le_of_ble_eq_true rfl) h mi_X10_thatAreLeft me_X10_thatAreLeft lkm_RX11_272 kt_31 rfl rfl rfl dX11_left_4 (fun x1 μ2 hx1 hμ2 h => ?_)
  exact o_iret C hQ dX11_left_7 h hx1 hμ2
theorem c_X11_left {μ : GM} (hμ : gRg μ) {u : Int × GM} (h : f_X11_left μ = some u) : MtI 6 yX11_left cX11_left 1 (some .int) (fun ad => [.ref (ad 0)]) μ u := MtI.of pf_X11_left (fun _ => Nat.le_of_ble_eq_true rfl) (fun G C hQ => w_X11_left_0 C hQ hμ h)
def f_X11_inWorld (z1 : Int) (z2 : Int) (μ : GM) : Option (Int × GM) :=
  bd (f_X10_has z1 μ) fun x1 μ2 =>
  if x1 = 0 then
    some ((-10000001), μ2)
  else
    bd (f_X2_hasCell z2 μ2) fun x3 μ4 =>
    if x3 = 0 then
      some ((-10000001), μ4)
    else
      bd (f_X10_settleIn z1 μ4) fun x5 μ6 =>
      if x5 = 0 then
        some ((-10000003), μ6)
      else
        bd (f_X6_headMilli 132 z2 μ6) fun x7 μ8 =>
        some (x7, μ8)
set_option maxHeartbeats 4000000 in
set_option maxRecDepth 100000 in
theorem w_X11_inWorld_0 {G : GX} {u : Int × GM} (C : CX G 5 cX11_inWorld 3 RX11) (hQ : gQI G (some .int) u) {z1 : Int} (hz1 : r32 z1) {z2 : Int} (hz2 : r32 z2) {μ : GM} (hμ : gRg μ) (h : f_X11_inWorld z1 z2 μ = some u) : WM G 3 μ 0 [(0, gR G 0), (1, vI z1), (2, vI z2)] [] := by
  unfold f_X11_inWorld at h
  refine o_aload_n C 0 dX11_inWorld_0 rfl rfl ?_
  refine o_getR (j := 4) C kt_0 rfl rfl (Nat.le_of_ble_eq_true rfl) lkf_RX11_46 dX11_inWorld_1 ?_
  refine o_iload_n C 1 dX11_inWorld_4 rfl rfl ?_
  refine o_cVI C [vI z1] mb_X10_has (by decide) (fun _ hu => c_X10_has hz1 hμ hu) rfl (Nat.le_of_ble_eq_true rfl) h mi_X10_has me_X10_has lkm_RX11_275 kt_31 rfl rfl rfl dX11_inWorld_5 (fun x1 μ2 hx1 hμ2 h => ?_)
  refine o_if_eq (tgt := 22) C hx1 dX11_inWorld_8 (by decide) h (fun _ h => ?_) (fun _ h => ?_)
  · refine o_ldc (v := (-10000001)) C lkc_RX11_87 rfl dX11_inWorld_22 ?_
    exact o_iret C hQ dX11_inWorld_24 h ⟨by decide, by decide⟩ hμ2
  · refine o_aload_n C 0 dX11_inWorld_11 rfl rfl ?_
    refine o_getR (j := 0) C kt_0 rfl rfl (Nat.le_of_ble_eq_true rfl) lkf_RX11_10 dX11_inWorld_12 ?_
    refine o_iload_n C 2 dX11_inWorld_15 rfl rfl ?_
    refine o_cVI C [vI z2] mb_X2_hasCell (by decide) (fun _ hu => c_X2_hasCell hz2 hμ2 hu) rfl (Nat.le_of_ble_eq_true rfl) h mi_X2_hasCell me_X2_hasCell lkm_RX11_83 kt_1 rfl rfl rfl dX11_inWorld_16 (fun x3 μ4 hx3 hμ4 h => ?_)
    refine o_if_ne (tgt := 25) C hx3 dX11_inWorld_19 (by decide) h (fun _ h => ?_) (fun _ h => ?_)
    · refine o_aload_n C 0 dX11_inWorld_25 rfl rfl ?_
      refine o_getR (j := 4) C kt_0 rfl rfl (Nat.le_of_ble_eq_true rfl) lkf_RX11_46 dX11_inWorld_26 ?_
      refine o_iload_n C 1 dX11_inWorld_29 rfl rfl ?_
      refine o_cVI C [vI z1] mb_X10_settleIn (by decide) (fun _ hu => c_X10_settleIn hz1 hμ4 hu) rfl (Nat.le_of_ble_eq_true rfl) h mi_X10_settleIn me_X10_settleIn lkm_RX11_276 kt_31 rfl rfl rfl dX11_inWorld_30 (fun x5 μ6 hx5 hμ6 h => ?_)
      refine o_if_ne (tgt := 39) C hx5 dX11_inWorld_33 (by decide) h (fun _ h => ?_) (fun _ h => ?_)
      · refine o_aload_n C 0 dX11_inWorld_39 rfl rfl ?_
        refine o_getR (j := 4) C kt_0 rfl rfl (Nat.le_of_ble_eq_true rfl) lkf_RX11_46 dX11_inWorld_40 ?_
        refine o_getR (j := 1) C kt_31 rfl rfl (Nat.le_of_ble_eq_true rfl) lkf_RX11_279 dX11_inWorld_43 ?_
        refine o_iload_n C 2 dX11_inWorld_46 rfl rfl ?_
        refine o_cVI C [vI z2] mb_X6_headMilli (by decide) (fun _ hu => c_X6_headMilli gRt_B hz2 hμ6 hu) rfl (Nat.le_of_ble_eq_true rfl) h mi_X6_headMilli me_X6_headMilli lkm_RX11_179 kt_132 rfl rfl rfl dX11_inWorld_47 (fun x7 μ8 hx7 hμ8 h => ?_)
        exact o_iret C hQ dX11_inWorld_50 h hx7 hμ8
      · refine o_ldc (v := (-10000003)) C lkc_RX11_88 rfl dX11_inWorld_36 ?_
        exact o_iret C hQ dX11_inWorld_38 h ⟨by decide, by decide⟩ hμ6
    · refine o_ldc (v := (-10000001)) C lkc_RX11_87 rfl dX11_inWorld_22 ?_
      exact o_iret C hQ dX11_inWorld_24 h ⟨by decide, by decide⟩ hμ4
theorem c_X11_inWorld {z1 : Int} (hz1 : r32 z1) {z2 : Int} (hz2 : r32 z2) {μ : GM} (hμ : gRg μ) {u : Int × GM} (h : f_X11_inWorld z1 z2 μ = some u) : MtI 5 yX11_inWorld cX11_inWorld 3 (some .int) (fun ad => [.ref (ad 0), vI z1, vI z2]) μ u := MtI.of pf_X11_inWorld (fun _ => Nat.le_of_ble_eq_true rfl) (fun G C hQ => w_X11_inWorld_0 C hQ hz1 hz2 hμ h)
def f_X11_next (μ : GM) : Option (Int × GM) :=
  bd (f_X10_nextTest μ) fun x1 μ2 =>
  some (x1, μ2)
set_option maxHeartbeats 4000000 in
set_option maxRecDepth 100000 in
theorem w_X11_next_0 {G : GX} {u : Int × GM} (C : CX G 7 cX11_next 1 RX11) (hQ : gQI G (some .int) u) {μ : GM} (hμ : gRg μ) (h : f_X11_next μ = some u) : WM G 1 μ 0 [(0, gR G 0)] [] := by
  unfold f_X11_next at h
  refine o_aload_n C 0 dX11_next_0 rfl rfl ?_
  refine o_getR (j := 4) C kt_0 rfl rfl (Nat.le_of_ble_eq_true rfl) lkf_RX11_46 dX11_next_1 ?_
  refine o_cVI C [] mb_X10_nextTest (by decide) (fun _ hu => c_X10_nextTest hμ hu) rfl (Nat.le_of_ble_eq_true rfl) h mi_X10_nextTest me_X10_nextTest lkm_RX11_280 kt_31 rfl rfl rfl dX11_next_4 (fun x1 μ2 hx1 hμ2 h => ?_)
  exact o_iret C hQ dX11_next_7 h hx1 hμ2
theorem c_X11_next {μ : GM} (hμ : gRg μ) {u : Int × GM} (h : f_X11_next μ = some u) : MtI 7 yX11_next cX11_next 1 (some .int) (fun ad => [.ref (ad 0)]) μ u := MtI.of pf_X11_next (fun _ => Nat.le_of_ble_eq_true rfl) (fun G C hQ => w_X11_next_0 C hQ hμ h)
def f_X11_alike (z1 : Int) (μ : GM) : Option (Int × GM) :=
  bd (f_X2_hasCell z1 μ) fun x1 μ2 =>
  if x1 = 0 then
    some ((-10000001), μ2)
  else
    bd (f_X10_thatAreLeft μ2) fun x3 μ4 =>
    bd (f_X10_mostAlike x3 z1 μ4) fun x5 μ6 =>
    some (x5, μ6)
set_option maxHeartbeats 4000000 in
set_option maxRecDepth 100000 in
theorem w_X11_alike_0 {G : GX} {u : Int × GM} (C : CX G 6 cX11_alike 2 RX11) (hQ : gQI G (some .int) u) {z1 : Int} (hz1 : r32 z1) {μ : GM} (hμ : gRg μ) (h : f_X11_alike z1 μ = some u) : WM G 2 μ 0 [(0, gR G 0), (1, vI z1)] [] := by
  unfold f_X11_alike at h
  refine o_aload_n C 0 dX11_alike_0 rfl rfl ?_
  refine o_getR (j := 0) C kt_0 rfl rfl (Nat.le_of_ble_eq_true rfl) lkf_RX11_10 dX11_alike_1 ?_
  refine o_iload_n C 1 dX11_alike_4 rfl rfl ?_
  refine o_cVI C [vI z1] mb_X2_hasCell (by decide) (fun _ hu => c_X2_hasCell hz1 hμ hu) rfl (Nat.le_of_ble_eq_true rfl) h mi_X2_hasCell me_X2_hasCell lkm_RX11_83 kt_1 rfl rfl rfl dX11_alike_5 (fun x1 μ2 hx1 hμ2 h => ?_)
  refine o_if_ne (tgt := 14) C hx1 dX11_alike_8 (by decide) h (fun _ h => ?_) (fun _ h => ?_)
  · refine o_aload_n C 0 dX11_alike_14 rfl rfl ?_
    refine o_getR (j := 4) C kt_0 rfl rfl (Nat.le_of_ble_eq_true rfl) lkf_RX11_46 dX11_alike_15 ?_
    refine o_aload_n C 0 dX11_alike_18 rfl rfl ?_
    refine o_getR (j := 4) C kt_0 rfl rfl (Nat.le_of_ble_eq_true rfl) lkf_RX11_46 dX11_alike_19 ?_
    refine o_cVI C [] mb_X10_thatAreLeft (by decide) (fun _ hu => c_X10_thatAreLeft hμ2 hu) rfl (Nat.le_of_ble_eq_true rfl) h mi_X10_thatAreLeft me_X10_thatAreLeft lkm_RX11_272 kt_31 rfl rfl rfl dX11_alike_22 (fun x3 μ4 hx3 hμ4 h => ?_)
    refine o_iload_n C 1 dX11_alike_25 rfl rfl ?_
    refine o_cVI C [vI x3, vI z1] mb_X10_mostAlike (by decide) (fun _ hu => c_X10_mostAlike hx3 hz1 hμ4 hu) rfl (Nat.le_of_ble_eq_true rfl) h mi_X10_mostAlike me_X10_mostAlike lkm_RX11_283 kt_31 rfl rfl rfl dX11_alike_26 (fun x5 μ6 hx5 hμ6 h => ?_)
    exact o_iret C hQ dX11_alike_29 h hx5 hμ6
  · refine o_ldc (v := (-10000001)) C lkc_RX11_87 rfl dX11_alike_11 ?_
    exact o_iret C hQ dX11_alike_13 h ⟨by decide, by decide⟩ hμ2
theorem c_X11_alike {z1 : Int} (hz1 : r32 z1) {μ : GM} (hμ : gRg μ) {u : Int × GM} (h : f_X11_alike z1 μ = some u) : MtI 6 yX11_alike cX11_alike 2 (some .int) (fun ad => [.ref (ad 0), vI z1]) μ u := MtI.of pf_X11_alike (fun _ => Nat.le_of_ble_eq_true rfl) (fun G C hQ => w_X11_alike_0 C hQ hz1 hμ h)
def f_X11_sign (z1 : Int) (μ : GM) : Option (Int × GM) :=
  bd (f_X11_outside z1 32 126 μ) fun x1 μ2 =>
  if x1 = 0 then
    if (μ2.2 42 2) < 200 then
      bd (f_X4_append z1 μ2) fun x3 μ4 =>
      some (x3, μ4)
    else
      some ((-10000004), μ2)
  else
    some ((-10000002), μ2)
set_option maxHeartbeats 4000000 in
set_option maxRecDepth 100000 in
theorem w_X11_sign_0 {G : GX} {u : Int × GM} (C : CX G 1 cX11_sign 2 RX11) (hQ : gQI G (some .int) u) {z1 : Int} (hz1 : r32 z1) {μ : GM} (hμ : gRg μ) (h : f_X11_sign z1 μ = some u) : WM G 2 μ 0 [(0, gR G 0), (1, vI z1)] [] := by
  unfold f_X11_sign at h
  refine o_iload_n C 1 dX11_sign_0 rfl rfl ?_
  refine o_bipush (v := 32) C dX11_sign_1 (by decide) ?_
  refine o_bipush (v := 126) C dX11_sign_3 (by decide) ?_
  refine o_cSI C [vI z1, vI 32, vI 126] mb_X11_outside (by decide) (fun _ hu => c_X11_outside hz1 ⟨by decide, by decide⟩ ⟨by decide, by decide⟩ hμ hu) rfl (Nat.le_of_ble_eq_true rfl) h ms_X11_outside lkm_RX11_66 rfl rfl dX11_sign_5 (fun x1 μ2 hx1 hμ2 h => ?_)
  refine o_if_eq (tgt := 14) C hx1 dX11_sign_8 (by decide) h (fun _ h => ?_) (fun _ h => ?_)
  · refine o_aload_n C 0 dX11_sign_14 rfl rfl ?_
    refine o_getR (j := 5) C kt_0 rfl rfl (Nat.le_of_ble_eq_true rfl) lkf_RX11_53 dX11_sign_15 ?_
    refine o_getI (j := 2) C kt_42 rfl rfl (Nat.le_of_ble_eq_true rfl) lkf_RX11_286 dX11_sign_18 ?_
    refine o_sipush (v := 200) C dX11_sign_21 (by decide) ?_
    refine o_icmp_lt (tgt := 30) C (hμ2.fi kt_42 rfl (by decide)) ⟨by decide, by decide⟩ dX11_sign_24 (by decide) h (fun _ h => ?_) (fun _ h => ?_)
    · refine o_aload_n C 0 dX11_sign_30 rfl rfl ?_
      refine o_getR (j := 5) C kt_0 rfl rfl (Nat.le_of_ble_eq_true rfl) lkf_RX11_53 dX11_sign_31 ?_
      refine o_iload_n C 1 dX11_sign_34 rfl rfl ?_
      refine o_cVI C [vI z1] mb_X4_append (by decide) (fun _ hu => c_X4_append hz1 hμ2 hu) rfl (Nat.le_of_ble_eq_true rfl) h mi_X4_append me_X4_append lkm_RX11_287 kt_42 rfl rfl rfl dX11_sign_35 (fun x3 μ4 hx3 hμ4 h => ?_)
      exact o_iret C hQ dX11_sign_38 h hx3 hμ4
    · refine o_ldc (v := (-10000004)) C lkc_RX11_75 rfl dX11_sign_27 ?_
      exact o_iret C hQ dX11_sign_29 h ⟨by decide, by decide⟩ hμ2
  · refine o_ldc (v := (-10000002)) C lkc_RX11_70 rfl dX11_sign_11 ?_
    exact o_iret C hQ dX11_sign_13 h ⟨by decide, by decide⟩ hμ2
theorem c_X11_sign {z1 : Int} (hz1 : r32 z1) {μ : GM} (hμ : gRg μ) {u : Int × GM} (h : f_X11_sign z1 μ = some u) : MtI 1 yX11_sign cX11_sign 2 (some .int) (fun ad => [.ref (ad 0), vI z1]) μ u := MtI.of pf_X11_sign (fun _ => Nat.le_of_ble_eq_true rfl) (fun G C hQ => w_X11_sign_0 C hQ hz1 hμ h)
def f_X11_wipe (μ : GM) : Option (Int × GM) :=
  lt (μ.2 42 2) fun x1 =>
  lm (gF μ 42 2 0) fun μ2 =>
  some (x1, μ2)
set_option maxHeartbeats 4000000 in
set_option maxRecDepth 100000 in
theorem w_X11_wipe_0 {G : GX} {u : Int × GM} (C : CX G 0 cX11_wipe 2 RX11) (hQ : gQI G (some .int) u) {μ : GM} (hμ : gRg μ) (h : f_X11_wipe μ = some u) : WM G 2 μ 0 [(0, gR G 0)] [] := by
  unfold f_X11_wipe at h
  refine o_aload_n C 0 dX11_wipe_0 rfl rfl ?_
  refine o_getR (j := 5) C kt_0 rfl rfl (Nat.le_of_ble_eq_true rfl) lkf_RX11_53 dX11_wipe_1 ?_
  refine o_getI (j := 2) C kt_42 rfl rfl (Nat.le_of_ble_eq_true rfl) lkf_RX11_286 dX11_wipe_4 ?_
  refine o_lt h (hμ.fi kt_42 rfl (by decide)) (fun x1 hx1 h => ?_)
  refine o_istore_n (lv2 := [(1, vI x1), (0, gR G 0)]) C dX11_wipe_7 rfl (by decide) rfl ?_
  refine o_aload_n C 1 dX11_wipe_8 rfl rfl ?_
  refine o_getR (j := 5) C kt_0 rfl rfl (Nat.le_of_ble_eq_true rfl) lkf_RX11_53 dX11_wipe_9 ?_
  refine o_iconst C dX11_wipe_12 ?_
  refine o_putI (j := 2) C kt_42 rfl rfl tyX4_ok nmX4 (Nat.le_of_ble_eq_true rfl) lkf_RX11_286 rfl rfl ⟨by decide, by decide⟩ hμ dX11_wipe_13 h (fun μ2 hμ2 h => ?_)
  refine o_iload_n C 0 dX11_wipe_16 rfl rfl ?_
  exact o_iret C hQ dX11_wipe_17 h hx1 hμ2
theorem c_X11_wipe {μ : GM} (hμ : gRg μ) {u : Int × GM} (h : f_X11_wipe μ = some u) : MtI 0 yX11_wipe cX11_wipe 2 (some .int) (fun ad => [.ref (ad 0)]) μ u := MtI.of pf_X11_wipe (fun _ => Nat.le_of_ble_eq_true rfl) (fun G C hQ => w_X11_wipe_0 C hQ hμ h)
def f_X11_fault (μ : GM) : Option (Int × GM) :=
  bd (f_X4_firstFault μ) fun x1 μ2 =>
  some (x1, μ2)
set_option maxHeartbeats 4000000 in
set_option maxRecDepth 100000 in
theorem w_X11_fault_0 {G : GX} {u : Int × GM} (C : CX G 4 cX11_fault 1 RX11) (hQ : gQI G (some .int) u) {μ : GM} (hμ : gRg μ) (h : f_X11_fault μ = some u) : WM G 1 μ 0 [(0, gR G 0)] [] := by
  unfold f_X11_fault at h
  refine o_aload_n C 0 dX11_fault_0 rfl rfl ?_
  refine o_getR (j := 5) C kt_0 rfl rfl (Nat.le_of_ble_eq_true rfl) lkf_RX11_53 dX11_fault_1 ?_
  refine o_cVI C [] mb_X4_firstFault (by decide) (fun _ hu => c_X4_firstFault hμ hu) rfl (Nat.le_of_ble_eq_true rfl) h mi_X4_firstFault me_X4_firstFault lkm_RX11_290 kt_42 rfl rfl rfl dX11_fault_4 (fun x1 μ2 hx1 hμ2 h => ?_)
  exact o_iret C hQ dX11_fault_7 h hx1 hμ2
theorem c_X11_fault {μ : GM} (hμ : gRg μ) {u : Int × GM} (h : f_X11_fault μ = some u) : MtI 4 yX11_fault cX11_fault 1 (some .int) (fun ad => [.ref (ad 0)]) μ u := MtI.of pf_X11_fault (fun _ => Nat.le_of_ble_eq_true rfl) (fun G C hQ => w_X11_fault_0 C hQ hμ h)
def f_X11_holds (μ : GM) : Option (Int × GM) :=
  bd (f_X4_isPermit μ) fun x1 μ2 =>
  if x1 = 0 then
    some ((-10000003), μ2)
  else
    bd (f_X11_atRest μ2) fun x3 μ4 =>
    if x3 = 0 then
      some ((-10000003), μ4)
    else
      bd (f_X4_holdsWith 22 μ4) fun x5 μ6 =>
      if x5 = 0 then
        some (0, μ6)
      else
        some (1, μ6)
set_option maxHeartbeats 4000000 in
set_option maxRecDepth 100000 in
theorem w_X11_holds_0 {G : GX} {u : Int × GM} (C : CX G 5 cX11_holds 1 RX11) (hQ : gQI G (some .int) u) {μ : GM} (hμ : gRg μ) (h : f_X11_holds μ = some u) : WM G 1 μ 0 [(0, gR G 0)] [] := by
  unfold f_X11_holds at h
  refine o_aload_n C 0 dX11_holds_0 rfl rfl ?_
  refine o_getR (j := 5) C kt_0 rfl rfl (Nat.le_of_ble_eq_true rfl) lkf_RX11_53 dX11_holds_1 ?_
  refine o_cVI C [] mb_X4_isPermit (by decide) (fun _ hu => c_X4_isPermit hμ hu) rfl (Nat.le_of_ble_eq_true rfl) h mi_X4_isPermit me_X4_isPermit lkm_RX11_293 kt_42 rfl rfl rfl dX11_holds_4 (fun x1 μ2 hx1 hμ2 h => ?_)
  refine o_if_eq (tgt := 17) C hx1 dX11_holds_7 (by decide) h (fun _ h => ?_) (fun _ h => ?_)
  · refine o_ldc (v := (-10000003)) C lkc_RX11_88 rfl dX11_holds_17 ?_
    exact o_iret C hQ dX11_holds_19 h ⟨by decide, by decide⟩ hμ2
  · refine o_aload_n C 0 dX11_holds_10 rfl rfl ?_
    refine o_cVI C [] mb_X11_atRest (by decide) (fun _ hu => c_X11_atRest hμ2 hu) rfl (Nat.le_of_ble_eq_true rfl) h mi_X11_atRest me_X11_atRest lkm_RX11_155 kt_0 rfl rfl rfl dX11_holds_11 (fun x3 μ4 hx3 hμ4 h => ?_)
    refine o_if_ne (tgt := 20) C hx3 dX11_holds_14 (by decide) h (fun _ h => ?_) (fun _ h => ?_)
    · refine o_aload_n C 0 dX11_holds_20 rfl rfl ?_
      refine o_getR (j := 5) C kt_0 rfl rfl (Nat.le_of_ble_eq_true rfl) lkf_RX11_53 dX11_holds_21 ?_
      refine o_aload_n C 0 dX11_holds_24 rfl rfl ?_
      refine o_getR (j := 0) C kt_0 rfl rfl (Nat.le_of_ble_eq_true rfl) lkf_RX11_10 dX11_holds_25 ?_
      refine o_getR (j := 7) C kt_1 rfl rfl (Nat.le_of_ble_eq_true rfl) lkf_RX11_119 dX11_holds_28 ?_
      refine o_getR (j := 4) C kt_18 rfl rfl (Nat.le_of_ble_eq_true rfl) lkf_RX11_145 dX11_holds_31 ?_
      refine o_cVI C [gR G 22] mb_X4_holdsWith (by decide) (fun _ hu => c_X4_holdsWith kt_22 hμ4 hu) rfl (Nat.le_of_ble_eq_true rfl) h mi_X4_holdsWith me_X4_holdsWith lkm_RX11_296 kt_42 rfl rfl rfl dX11_holds_34 (fun x5 μ6 hx5 hμ6 h => ?_)
      refine o_if_eq (tgt := 44) C hx5 dX11_holds_37 (by decide) h (fun _ h => ?_) (fun _ h => ?_)
      · refine o_iconst C dX11_holds_44 ?_
        exact o_iret C hQ dX11_holds_45 h ⟨by decide, by decide⟩ hμ6
      · refine o_iconst C dX11_holds_40 ?_
        refine o_goto (tgt := 45) C dX11_holds_41 (by decide) ?_
        exact o_iret C hQ dX11_holds_45 h ⟨by decide, by decide⟩ hμ6
    · refine o_ldc (v := (-10000003)) C lkc_RX11_88 rfl dX11_holds_17 ?_
      exact o_iret C hQ dX11_holds_19 h ⟨by decide, by decide⟩ hμ4
theorem c_X11_holds {μ : GM} (hμ : gRg μ) {u : Int × GM} (h : f_X11_holds μ = some u) : MtI 5 yX11_holds cX11_holds 1 (some .int) (fun ad => [.ref (ad 0)]) μ u := MtI.of pf_X11_holds (fun _ => Nat.le_of_ble_eq_true rfl) (fun G C hQ => w_X11_holds_0 C hQ hμ h)
