def k_X11_limit_34 (z1 : Int) (z2 : Int) (μ : GM) : Option (Int × GM) :=
  bd (f_X11_exchange 48 z1 z2 μ) fun x1 μ2 =>
  some (x1, μ2)
set_option maxHeartbeats 4000000 in
set_option maxRecDepth 100000 in
theorem w_X11_limit_34 {G : GX} {u : Int × GM} (C : CX G 1 cX11_limit 3 RX11) (hQ : gQI G (some .int) u) {z1 : Int} (hz1 : r32 z1) {z2 : Int} (hz2 : r32 z2) {μ : GM} (hμ : gRg μ) (h : k_X11_limit_34 z1 z2 μ = some u) : WM G 3 μ 34 [(0, gR G 0), (1, vI z1), (2, vI z2)] [] := by
  unfold k_X11_limit_34 at h
  refine o_aload_n C 0 dX11_limit_34 rfl rfl ?_
  refine o_getR (j := 6) C kt_0 rfl rfl (Nat.le_of_ble_eq_true rfl) lkf_RX11_62 dX11_limit_35 ?_
  refine o_getR (j := 3) C kt_47 rfl rfl (Nat.le_of_ble_eq_true rfl) lkf_RX11_301 dX11_limit_38 ?_
  refine o_iload_n C 1 dX11_limit_41 rfl rfl ?_
  refine o_iload_n C 2 dX11_limit_42 rfl rfl ?_
  refine o_cSI C [gR G 48, vI z1, vI z2] mb_X11_exchange (by decide) (fun _ hu => c_X11_exchange (kt_gen kt_48) hz1 hz2 hμ hu) rfl (Nat.le_of_ble_eq_true rfl) h ms_X11_exchange lkm_RX11_131 rfl rfl dX11_limit_43 (fun x1 μ2 hx1 hμ2 h => ?_)
  exact o_iret C hQ dX11_limit_46 h hx1 hμ2
def f_X11_limit (z1 : Int) (z2 : Int) (μ : GM) : Option (Int × GM) :=
  bd (f_X2_hasCell z1 μ) fun x1 μ2 =>
  if x1 = 0 then
    some ((-10000001), μ2)
  else
    if z2 = (-10000009) then
      k_X11_limit_34 z1 z2 μ2
    else
      bd (f_X11_outside z2 0 2000000 μ2) fun x3 μ4 =>
      if x3 = 0 then
        k_X11_limit_34 z1 z2 μ4
      else
        some ((-10000002), μ4)
set_option maxHeartbeats 4000000 in
set_option maxRecDepth 100000 in
theorem w_X11_limit_0 {G : GX} {u : Int × GM} (C : CX G 1 cX11_limit 3 RX11) (hQ : gQI G (some .int) u) {z1 : Int} (hz1 : r32 z1) {z2 : Int} (hz2 : r32 z2) {μ : GM} (hμ : gRg μ) (h : f_X11_limit z1 z2 μ = some u) : WM G 3 μ 0 [(0, gR G 0), (1, vI z1), (2, vI z2)] [] := by
  unfold f_X11_limit at h
  refine o_aload_n C 0 dX11_limit_0 rfl rfl ?_
  refine o_getR (j := 0) C kt_0 rfl rfl (Nat.le_of_ble_eq_true rfl) lkf_RX11_10 dX11_limit_1 ?_
  refine o_iload_n C 1 dX11_limit_4 rfl rfl ?_
  refine o_cVI C [vI z1] mb_X2_hasCell (by decide) (fun _ hu => c_X2_hasCell hz1 hμ hu) rfl (Nat.le_of_ble_eq_true rfl) h mi_X2_hasCell me_X2_hasCell lkm_RX11_83 kt_1 rfl rfl rfl dX11_limit_5 (fun x1 μ2 hx1 hμ2 h => ?_)
  refine o_if_ne (tgt := 14) C hx1 dX11_limit_8 (by decide) h (fun _ h => ?_) (fun _ h => ?_)
  · refine o_iload_n C 2 dX11_limit_14 rfl rfl ?_
    refine o_ldc (v := (-10000009)) C lkc_RX11_162 rfl dX11_limit_15 ?_
    refine o_icmp_eq (tgt := 34) C hz2 ⟨by decide, by decide⟩ dX11_limit_17 (by decide) h (fun _ h => ?_) (fun _ h => ?_)
    · exact WM.sub [0, 1, 2] rfl (w_X11_limit_34 C hQ hz1 hz2 hμ2 h)
    · refine o_iload_n C 2 dX11_limit_20 rfl rfl ?_
      refine o_iconst C dX11_limit_21 ?_
      refine o_ldcw (v := 2000000) C lkc_RX11_300 rfl dX11_limit_22 ?_
      refine o_cSI C [vI z2, vI 0, vI 2000000] mb_X11_outside (by decide) (fun _ hu => c_X11_outside hz2 ⟨by decide, by decide⟩ ⟨by decide, by decide⟩ hμ2 hu) rfl (Nat.le_of_ble_eq_true rfl) h ms_X11_outside lkm_RX11_66 rfl rfl dX11_limit_25 (fun x3 μ4 hx3 hμ4 h => ?_)
      refine o_if_eq (tgt := 34) C hx3 dX11_limit_28 (by decide) h (fun _ h => ?_) (fun _ h => ?_)
      · exact WM.sub [0, 1, 2] rfl (w_X11_limit_34 C hQ hz1 hz2 hμ4 h)
      · refine o_ldc (v := (-10000002)) C lkc_RX11_70 rfl dX11_limit_31 ?_
        exact o_iret C hQ dX11_limit_33 h ⟨by decide, by decide⟩ hμ4
  · refine o_ldc (v := (-10000001)) C lkc_RX11_87 rfl dX11_limit_11 ?_
    exact o_iret C hQ dX11_limit_13 h ⟨by decide, by decide⟩ hμ2
theorem c_X11_limit {z1 : Int} (hz1 : r32 z1) {z2 : Int} (hz2 : r32 z2) {μ : GM} (hμ : gRg μ) {u : Int × GM} (h : f_X11_limit z1 z2 μ = some u) : MtI 1 yX11_limit cX11_limit 3 (some .int) (fun ad => [.ref (ad 0), vI z1, vI z2]) μ u := MtI.of pf_X11_limit (fun _ => Nat.le_of_ble_eq_true rfl) (fun G C hQ => w_X11_limit_0 C hQ hz1 hz2 hμ h)
def f_X11_worth (μ : GM) : Option (Int × GM) :=
  bd (f_X5_findBest μ) fun x1 μ2 =>
  some (x1, μ2)
set_option maxHeartbeats 4000000 in
set_option maxRecDepth 100000 in
theorem w_X11_worth_0 {G : GX} {u : Int × GM} (C : CX G 7 cX11_worth 1 RX11) (hQ : gQI G (some .int) u) {μ : GM} (hμ : gRg μ) (h : f_X11_worth μ = some u) : WM G 1 μ 0 [(0, gR G 0)] [] := by
  unfold f_X11_worth at h
  refine o_aload_n C 0 dX11_worth_0 rfl rfl ?_
  refine o_getR (j := 6) C kt_0 rfl rfl (Nat.le_of_ble_eq_true rfl) lkf_RX11_62 dX11_worth_1 ?_
  refine o_cVI C [] mb_X5_findBest (by decide) (fun _ hu => c_X5_findBest hμ hu) rfl (Nat.le_of_ble_eq_true rfl) h mi_X5_findBest me_X5_findBest lkm_RX11_304 kt_47 rfl rfl rfl dX11_worth_4 (fun x1 μ2 hx1 hμ2 h => ?_)
  exact o_iret C hQ dX11_worth_7 h hx1 hμ2
theorem c_X11_worth {μ : GM} (hμ : gRg μ) {u : Int × GM} (h : f_X11_worth μ = some u) : MtI 7 yX11_worth cX11_worth 1 (some .int) (fun ad => [.ref (ad 0)]) μ u := MtI.of pf_X11_worth (fun _ => Nat.le_of_ble_eq_true rfl) (fun G C hQ => w_X11_worth_0 C hQ hμ h)
def f_X11_level (z1 : Int) (μ : GM) : Option (Int × GM) :=
  bd (f_X9_has z1 μ) fun x1 μ2 =>
  if x1 = 0 then
    some ((-10000001), μ2)
  else
    bd (f_X5_findBest μ2) fun x3 μ4 =>
    if x3 = (-10000009) then
      some ((-10000009), μ4)
    else
      ck (0 ≤ z1 ∧ z1 < 3) (
      some ((μ4.1 49 z1), μ4))
set_option maxHeartbeats 4000000 in
set_option maxRecDepth 100000 in
theorem w_X11_level_0 {G : GX} {u : Int × GM} (C : CX G 7 cX11_level 2 RX11) (hQ : gQI G (some .int) u) {z1 : Int} (hz1 : r32 z1) {μ : GM} (hμ : gRg μ) (h : f_X11_level z1 μ = some u) : WM G 2 μ 0 [(0, gR G 0), (1, vI z1)] [] := by
  unfold f_X11_level at h
  refine o_aload_n C 0 dX11_level_0 rfl rfl ?_
  refine o_getR (j := 0) C kt_0 rfl rfl (Nat.le_of_ble_eq_true rfl) lkf_RX11_10 dX11_level_1 ?_
  refine o_getR (j := 7) C kt_1 rfl rfl (Nat.le_of_ble_eq_true rfl) lkf_RX11_119 dX11_level_4 ?_
  refine o_iload_n C 1 dX11_level_7 rfl rfl ?_
  refine o_cVI C [vI z1] mb_X9_has (by decide) (fun _ hu => c_X9_has hz1 hμ hu) rfl (Nat.le_of_ble_eq_true rfl) h mi_X9_has me_X9_has lkm_RX11_141 kt_18 rfl rfl rfl dX11_level_8 (fun x1 μ2 hx1 hμ2 h => ?_)
  refine o_if_ne (tgt := 17) C hx1 dX11_level_11 (by decide) h (fun _ h => ?_) (fun _ h => ?_)
  · refine o_aload_n C 0 dX11_level_17 rfl rfl ?_
    refine o_getR (j := 6) C kt_0 rfl rfl (Nat.le_of_ble_eq_true rfl) lkf_RX11_62 dX11_level_18 ?_
    refine o_cVI C [] mb_X5_findBest (by decide) (fun _ hu => c_X5_findBest hμ2 hu) rfl (Nat.le_of_ble_eq_true rfl) h mi_X5_findBest me_X5_findBest lkm_RX11_304 kt_47 rfl rfl rfl dX11_level_21 (fun x3 μ4 hx3 hμ4 h => ?_)
    refine o_ldc (v := (-10000009)) C lkc_RX11_162 rfl dX11_level_24 ?_
    refine o_icmp_ne (tgt := 34) C hx3 ⟨by decide, by decide⟩ dX11_level_26 (by decide) h (fun _ h => ?_) (fun _ h => ?_)
    · refine o_aload_n C 0 dX11_level_34 rfl rfl ?_
      refine o_getR (j := 6) C kt_0 rfl rfl (Nat.le_of_ble_eq_true rfl) lkf_RX11_62 dX11_level_35 ?_
      refine o_getR (j := 4) C kt_47 rfl rfl (Nat.le_of_ble_eq_true rfl) lkf_RX11_307 dX11_level_38 ?_
      refine o_iload_n C 1 dX11_level_41 rfl rfl ?_
      refine o_iald C kt_49 rfl hz1 dX11_level_42 h (fun h => ?_)
      exact o_iret C hQ dX11_level_43 h (hμ4.i kt_49 (by decide) _) hμ4
    · refine o_ldc (v := (-10000009)) C lkc_RX11_162 rfl dX11_level_29 ?_
      refine o_goto (tgt := 43) C dX11_level_31 (by decide) ?_
      exact o_iret C hQ dX11_level_43 h ⟨by decide, by decide⟩ hμ4
  · refine o_ldc (v := (-10000001)) C lkc_RX11_87 rfl dX11_level_14 ?_
    exact o_iret C hQ dX11_level_16 h ⟨by decide, by decide⟩ hμ2
theorem c_X11_level {z1 : Int} (hz1 : r32 z1) {μ : GM} (hμ : gRg μ) {u : Int × GM} (h : f_X11_level z1 μ = some u) : MtI 7 yX11_level cX11_level 2 (some .int) (fun ad => [.ref (ad 0), vI z1]) μ u := MtI.of pf_X11_level (fun _ => Nat.le_of_ble_eq_true rfl) (fun G C hQ => w_X11_level_0 C hQ hz1 hμ h)
def k_X11_draw_16 : Nat → Int → Int → GM → Option (Int × GM)
  | 0, _, _, _ => none
  | n + 1, z1, z2, μ =>
    if z2 < (μ.2 18 0) then
      ck (0 ≤ z2 ∧ z2 < 3) (
      bd (f_X9_rateAt z2 (μ.1 49 z2) μ) fun x1 μ2 =>
      ck (0 ≤ z2 ∧ z2 < 3) (lm (gA μ2 22 z2 x1) fun μ3 =>
      lt (w32 (z2 + 1)) fun x4 =>
      k_X11_draw_16 n z1 x4 μ3))
    else
      some (z1, μ)
set_option maxHeartbeats 4000000 in
set_option maxRecDepth 100000 in
theorem w_X11_draw_16 {G : GX} {u : Int × GM} (C : CX G 7 cX11_draw 3 RX11) (hQ : gQI G (some .int) u) : ∀ (n : Nat) (z1 : Int) (hz1 : r32 z1) (z2 : Int) (hz2 : r32 z2) (μ : GM) (hμ : gRg μ), k_X11_draw_16 n z1 z2 μ = some u → WM G 3 μ 16 [(0, gR G 0), (1, vI z1), (2, vI z2)] [] := by
  intro n
  induction n with
  | zero =>
    intro z1 hz1 z2 hz2 μ hμ h
    cases h
  | succ n ih =>
    intro z1 hz1 z2 hz2 μ hμ h
    rw [k_X11_draw_16] at h
    refine o_iload_n C 2 dX11_draw_16 rfl rfl ?_
    refine o_aload_n C 0 dX11_draw_17 rfl rfl ?_
    refine o_getR (j := 0) C kt_0 rfl rfl (Nat.le_of_ble_eq_true rfl) lkf_RX11_10 dX11_draw_18 ?_
    refine o_getR (j := 7) C kt_1 rfl rfl (Nat.le_of_ble_eq_true rfl) lkf_RX11_119 dX11_draw_21 ?_
    refine o_getI (j := 0) C kt_18 rfl rfl (Nat.le_of_ble_eq_true rfl) lkf_RX11_123 dX11_draw_24 ?_
    refine o_icmp_ge (tgt := 68) C hz2 (hμ.fi kt_18 rfl (by decide)) dX11_draw_27 (by decide) h (fun _ h => ?_) (fun _ h => ?_)
    · refine o_iload_n C 1 dX11_draw_68 rfl rfl ?_
      exact o_iret C hQ dX11_draw_69 h hz1 hμ
    · refine o_aload_n C 0 dX11_draw_30 rfl rfl ?_
      refine o_getR (j := 0) C kt_0 rfl rfl (Nat.le_of_ble_eq_true rfl) lkf_RX11_10 dX11_draw_31 ?_
      refine o_getR (j := 7) C kt_1 rfl rfl (Nat.le_of_ble_eq_true rfl) lkf_RX11_119 dX11_draw_34 ?_
      refine o_getR (j := 4) C kt_18 rfl rfl (Nat.le_of_ble_eq_true rfl) lkf_RX11_145 dX11_draw_37 ?_
      refine o_iload_n C 2 dX11_draw_40 rfl rfl ?_
      refine o_aload_n C 0 dX11_draw_41 rfl rfl ?_
      refine o_getR (j := 0) C kt_0 rfl rfl (Nat.le_of_ble_eq_true rfl) lkf_RX11_10 dX11_draw_42 ?_
      refine o_getR (j := 7) C kt_1 rfl rfl (Nat.le_of_ble_eq_true rfl) lkf_RX11_119 dX11_draw_45 ?_
      refine o_iload_n C 2 dX11_draw_48 rfl rfl ?_
      refine o_aload_n C 0 dX11_draw_49 rfl rfl ?_
      refine o_getR (j := 6) C kt_0 rfl rfl (Nat.le_of_ble_eq_true rfl) lkf_RX11_62 dX11_draw_50 ?_
      refine o_getR (j := 4) C kt_47 rfl rfl (Nat.le_of_ble_eq_true rfl) lkf_RX11_307 dX11_draw_53 ?_
      refine o_iload_n C 2 dX11_draw_56 rfl rfl ?_
      refine o_iald C kt_49 rfl hz2 dX11_draw_57 h (fun h => ?_)
      refine o_cVI C [vI z2, vI (μ.1 49 z2)] mb_X9_rateAt (by decide) (fun _ hu => c_X9_rateAt hz2 (hμ.i kt_49 (by decide) _) hμ hu) rfl (Nat.le_of_ble_eq_true rfl) h mi_X9_rateAt me_X9_rateAt lkm_RX11_310 kt_18 rfl rfl rfl dX11_draw_58 (fun x1 μ2 hx1 hμ2 h => ?_)
      refine o_iast C kt_22 rfl hz2 hx1 hμ2 dX11_draw_61 h (fun μ3 hμ3 h => ?_)
      refine o_iinc (lv2 := fun x4 => [(2, vI x4), (0, gR G 0), (1, vI z1)]) C 2 dX11_draw_62 rfl (by decide) (fun _ => rfl) h (fun x4 hx4 h => ?_)
      refine o_goto (tgt := 16) C dX11_draw_65 (by decide) ?_
      exact WM.sub [1, 2, 0] rfl (ih z1 hz1 x4 hx4 μ3 hμ3 h)
def f_X11_draw (μ : GM) : Option (Int × GM) :=
  bd (f_X5_findBest μ) fun x1 μ2 =>
  if x1 = (-10000009) then
    some (x1, μ2)
  else
    k_X11_draw_16 FU x1 0 μ2
set_option maxHeartbeats 4000000 in
set_option maxRecDepth 100000 in
theorem w_X11_draw_0 {G : GX} {u : Int × GM} (C : CX G 7 cX11_draw 3 RX11) (hQ : gQI G (some .int) u) {μ : GM} (hμ : gRg μ) (h : f_X11_draw μ = some u) : WM G 3 μ 0 [(0, gR G 0)] [] := by
  unfold f_X11_draw at h
  refine o_aload_n C 0 dX11_draw_0 rfl rfl ?_
  refine o_getR (j := 6) C kt_0 rfl rfl (Nat.le_of_ble_eq_true rfl) lkf_RX11_62 dX11_draw_1 ?_
  refine o_cVI C [] mb_X5_findBest (by decide) (fun _ hu => c_X5_findBest hμ hu) rfl (Nat.le_of_ble_eq_true rfl) h mi_X5_findBest me_X5_findBest lkm_RX11_304 kt_47 rfl rfl rfl dX11_draw_4 (fun x1 μ2 hx1 hμ2 h => ?_)
  refine o_istore_n (lv2 := [(1, vI x1), (0, gR G 0)]) C dX11_draw_7 rfl (by decide) rfl ?_
  refine o_iload_n C 0 dX11_draw_8 rfl rfl ?_
  refine o_ldc (v := (-10000009)) C lkc_RX11_162 rfl dX11_draw_9 ?_
  refine o_icmp_eq (tgt := 68) C hx1 ⟨by decide, by decide⟩ dX11_draw_11 (by decide) h (fun _ h => ?_) (fun _ h => ?_)
  · refine o_iload_n C 0 dX11_draw_68 rfl rfl ?_
    exact o_iret C hQ dX11_draw_69 h hx1 hμ2
  · refine o_iconst C dX11_draw_14 ?_
    refine o_istore_n (lv2 := [(2, vI 0), (1, vI x1), (0, gR G 0)]) C dX11_draw_15 rfl (by decide) rfl ?_
    exact WM.sub [2, 1, 0] rfl (w_X11_draw_16 C hQ FU x1 hx1 0 ⟨by decide, by decide⟩ μ2 hμ2 h)
theorem c_X11_draw {μ : GM} (hμ : gRg μ) {u : Int × GM} (h : f_X11_draw μ = some u) : MtI 7 yX11_draw cX11_draw 3 (some .int) (fun ad => [.ref (ad 0)]) μ u := MtI.of pf_X11_draw (fun _ => Nat.le_of_ble_eq_true rfl) (fun G C hQ => w_X11_draw_0 C hQ hμ h)
def f_X11_price (z1 : Int) (μ : GM) : Option (Int × GM) :=
  bd (f_X2_hasCell z1 μ) fun x1 μ2 =>
  if x1 = 0 then
    some ((-10000001), μ2)
  else
    ck (0 ≤ z1 ∧ z1 < 6) (
    lt (μ2.1 48 z1) fun x3 =>
    if x3 = (-10000009) then
      some (0, μ2)
    else
      bd (f_X5_findBest μ2) fun x4 μ5 =>
      if x4 = (-10000009) then
        some ((-10000009), μ5)
      else
        ck (0 ≤ z1 ∧ z1 < 6) (lm (gA μ5 48 z1 (-10000009)) fun μ6 =>
        bd (f_X5_findBest μ6) fun x7 μ8 =>
        ck (0 ≤ z1 ∧ z1 < 6) (lm (gA μ8 48 z1 x3) fun μ9 =>
        some ((w32 (x7 - x4)), μ9))))
set_option maxHeartbeats 4000000 in
set_option maxRecDepth 100000 in
theorem w_X11_price_0 {G : GX} {u : Int × GM} (C : CX G 7 cX11_price 5 RX11) (hQ : gQI G (some .int) u) {z1 : Int} (hz1 : r32 z1) {μ : GM} (hμ : gRg μ) (h : f_X11_price z1 μ = some u) : WM G 5 μ 0 [(0, gR G 0), (1, vI z1)] [] := by
  unfold f_X11_price at h
  refine o_aload_n C 0 dX11_price_0 rfl rfl ?_
  refine o_getR (j := 0) C kt_0 rfl rfl (Nat.le_of_ble_eq_true rfl) lkf_RX11_10 dX11_price_1 ?_
  refine o_iload_n C 1 dX11_price_4 rfl rfl ?_
  refine o_cVI C [vI z1] mb_X2_hasCell (by decide) (fun _ hu => c_X2_hasCell hz1 hμ hu) rfl (Nat.le_of_ble_eq_true rfl) h mi_X2_hasCell me_X2_hasCell lkm_RX11_83 kt_1 rfl rfl rfl dX11_price_5 (fun x1 μ2 hx1 hμ2 h => ?_)
  refine o_if_ne (tgt := 14) C hx1 dX11_price_8 (by decide) h (fun _ h => ?_) (fun _ h => ?_)
  · refine o_aload_n C 0 dX11_price_14 rfl rfl ?_
    refine o_getR (j := 6) C kt_0 rfl rfl (Nat.le_of_ble_eq_true rfl) lkf_RX11_62 dX11_price_15 ?_
    refine o_getR (j := 3) C kt_47 rfl rfl (Nat.le_of_ble_eq_true rfl) lkf_RX11_301 dX11_price_18 ?_
    refine o_iload_n C 1 dX11_price_21 rfl rfl ?_
    refine o_iald C kt_48 rfl hz1 dX11_price_22 h (fun h => ?_)
    refine o_lt h (hμ2.i kt_48 (by decide) _) (fun x3 hx3 h => ?_)
    refine o_istore_n (lv2 := [(2, vI x3), (0, gR G 0), (1, vI z1)]) C dX11_price_23 rfl (by decide) rfl ?_
    refine o_iload_n C 0 dX11_price_24 rfl rfl ?_
    refine o_ldc (v := (-10000009)) C lkc_RX11_162 rfl dX11_price_25 ?_
    refine o_icmp_ne (tgt := 32) C hx3 ⟨by decide, by decide⟩ dX11_price_27 (by decide) h (fun _ h => ?_) (fun _ h => ?_)
    · refine o_aload_n C 1 dX11_price_32 rfl rfl ?_
      refine o_getR (j := 6) C kt_0 rfl rfl (Nat.le_of_ble_eq_true rfl) lkf_RX11_62 dX11_price_33 ?_
      refine o_cVI C [] mb_X5_findBest (by decide) (fun _ hu => c_X5_findBest hμ2 hu) rfl (Nat.le_of_ble_eq_true rfl) h mi_X5_findBest me_X5_findBest lkm_RX11_304 kt_47 rfl rfl rfl dX11_price_36 (fun x4 μ5 hx4 hμ5 h => ?_)
      refine o_istore_n (lv2 := [(3, vI x4), (2, vI x3), (0, gR G 0), (1, vI z1)]) C dX11_price_39 rfl (by decide) rfl ?_
      refine o_iload_n C 0 dX11_price_40 rfl rfl ?_
      refine o_ldc (v := (-10000009)) C lkc_RX11_162 rfl dX11_price_41 ?_
      refine o_icmp_ne (tgt := 49) C hx4 ⟨by decide, by decide⟩ dX11_price_43 (by decide) h (fun _ h => ?_) (fun _ h => ?_)
      · refine o_aload_n C 2 dX11_price_49 rfl rfl ?_
        refine o_getR (j := 6) C kt_0 rfl rfl (Nat.le_of_ble_eq_true rfl) lkf_RX11_62 dX11_price_50 ?_
        refine o_getR (j := 3) C kt_47 rfl rfl (Nat.le_of_ble_eq_true rfl) lkf_RX11_301 dX11_price_53 ?_
        refine o_iload_n C 3 dX11_price_56 rfl rfl ?_
        refine o_ldc (v := (-10000009)) C lkc_RX11_162 rfl dX11_price_57 ?_
        refine o_iast C kt_48 rfl hz1 ⟨by decide, by decide⟩ hμ5 dX11_price_59 h (fun μ6 hμ6 h => ?_)
        refine o_aload_n C 2 dX11_price_60 rfl rfl ?_
        refine o_getR (j := 6) C kt_0 rfl rfl (Nat.le_of_ble_eq_true rfl) lkf_RX11_62 dX11_price_61 ?_
        refine o_cVI C [] mb_X5_findBest (by decide) (fun _ hu => c_X5_findBest hμ6 hu) rfl (Nat.le_of_ble_eq_true rfl) h mi_X5_findBest me_X5_findBest lkm_RX11_304 kt_47 rfl rfl rfl dX11_price_64 (fun x7 μ8 hx7 hμ8 h => ?_)
        refine o_istore (lv2 := [(4, vI x7), (3, vI x4), (2, vI x3), (0, gR G 0), (1, vI z1)]) C dX11_price_67 (by decide) rfl ?_
        refine o_aload_n C 3 dX11_price_69 rfl rfl ?_
        refine o_getR (j := 6) C kt_0 rfl rfl (Nat.le_of_ble_eq_true rfl) lkf_RX11_62 dX11_price_70 ?_
        refine o_getR (j := 3) C kt_47 rfl rfl (Nat.le_of_ble_eq_true rfl) lkf_RX11_301 dX11_price_73 ?_
        refine o_iload_n C 4 dX11_price_76 rfl rfl ?_
        refine o_iload_n C 2 dX11_price_77 rfl rfl ?_
        refine o_iast C kt_48 rfl hz1 hx3 hμ8 dX11_price_78 h (fun μ9 hμ9 h => ?_)
        refine o_iload C 0 dX11_price_79 rfl ?_
        refine o_iload_n C 1 dX11_price_81 rfl rfl ?_
        refine o_isub C dX11_price_82 ?_
        exact o_iret C hQ dX11_price_83 h (r32_w _) hμ9
      · refine o_ldc (v := (-10000009)) C lkc_RX11_162 rfl dX11_price_46 ?_
        exact o_iret C hQ dX11_price_48 h ⟨by decide, by decide⟩ hμ5
    · refine o_iconst C dX11_price_30 ?_
      exact o_iret C hQ dX11_price_31 h ⟨by decide, by decide⟩ hμ2
  · refine o_ldc (v := (-10000001)) C lkc_RX11_87 rfl dX11_price_11 ?_
    exact o_iret C hQ dX11_price_13 h ⟨by decide, by decide⟩ hμ2
theorem c_X11_price {z1 : Int} (hz1 : r32 z1) {μ : GM} (hμ : gRg μ) {u : Int × GM} (h : f_X11_price z1 μ = some u) : MtI 7 yX11_price cX11_price 5 (some .int) (fun ad => [.ref (ad 0), vI z1]) μ u := MtI.of pf_X11_price (fun _ => Nat.le_of_ble_eq_true rfl) (fun G C hQ => w_X11_price_0 C hQ hz1 hμ h)
def f_X11_harm (z1 : Int) (μ : GM) : Option (Int × GM) :=
  bd (f_X2_hasCell z1 μ) fun x1 μ2 =>
  if x1 = 0 then
    some ((-10000001), μ2)
  else
    bd (f_X5_harmAt z1 μ2) fun x3 μ4 =>
    some (x3, μ4)
set_option maxHeartbeats 4000000 in
set_option maxRecDepth 100000 in
theorem w_X11_harm_0 {G : GX} {u : Int × GM} (C : CX G 6 cX11_harm 2 RX11) (hQ : gQI G (some .int) u) {z1 : Int} (hz1 : r32 z1) {μ : GM} (hμ : gRg μ) (h : f_X11_harm z1 μ = some u) : WM G 2 μ 0 [(0, gR G 0), (1, vI z1)] [] := by
  unfold f_X11_harm at h
  refine o_aload_n C 0 dX11_harm_0 rfl rfl ?_
  refine o_getR (j := 0) C kt_0 rfl rfl (Nat.le_of_ble_eq_true rfl) lkf_RX11_10 dX11_harm_1 ?_
  refine o_iload_n C 1 dX11_harm_4 rfl rfl ?_
  refine o_cVI C [vI z1] mb_X2_hasCell (by decide) (fun _ hu => c_X2_hasCell hz1 hμ hu) rfl (Nat.le_of_ble_eq_true rfl) h mi_X2_hasCell me_X2_hasCell lkm_RX11_83 kt_1 rfl rfl rfl dX11_harm_5 (fun x1 μ2 hx1 hμ2 h => ?_)
  refine o_if_ne (tgt := 14) C hx1 dX11_harm_8 (by decide) h (fun _ h => ?_) (fun _ h => ?_)
  · refine o_aload_n C 0 dX11_harm_14 rfl rfl ?_
    refine o_getR (j := 6) C kt_0 rfl rfl (Nat.le_of_ble_eq_true rfl) lkf_RX11_62 dX11_harm_15 ?_
    refine o_iload_n C 1 dX11_harm_18 rfl rfl ?_
    refine o_cVI C [vI z1] mb_X5_harmAt (by decide) (fun _ hu => c_X5_harmAt hz1 hμ2 hu) rfl (Nat.le_of_ble_eq_true rfl) h mi_X5_harmAt me_X5_harmAt lkm_RX11_313 kt_47 rfl rfl rfl dX11_harm_19 (fun x3 μ4 hx3 hμ4 h => ?_)
    exact o_iret C hQ dX11_harm_22 h hx3 hμ4
  · refine o_ldc (v := (-10000001)) C lkc_RX11_87 rfl dX11_harm_11 ?_
    exact o_iret C hQ dX11_harm_13 h ⟨by decide, by decide⟩ hμ2
theorem c_X11_harm {z1 : Int} (hz1 : r32 z1) {μ : GM} (hμ : gRg μ) {u : Int × GM} (h : f_X11_harm z1 μ = some u) : MtI 6 yX11_harm cX11_harm 2 (some .int) (fun ad => [.ref (ad 0), vI z1]) μ u := MtI.of pf_X11_harm (fun _ => Nat.le_of_ble_eq_true rfl) (fun G C hQ => w_X11_harm_0 C hQ hz1 hμ h)
def f_X11_share (z1 : Int) (z2 : Int) (μ : GM) : Option (Int × GM) :=
  bd (f_X2_hasCell z1 μ) fun x1 μ2 =>
  if x1 = 0 then
    some ((-10000001), μ2)
  else
    bd (f_X9_has z2 μ2) fun x3 μ4 =>
    if x3 = 0 then
      some ((-10000001), μ4)
    else
      bd (f_X5_shareOf z1 z2 μ4) fun x5 μ6 =>
      some (x5, μ6)
set_option maxHeartbeats 4000000 in
set_option maxRecDepth 100000 in
theorem w_X11_share_0 {G : GX} {u : Int × GM} (C : CX G 6 cX11_share 3 RX11) (hQ : gQI G (some .int) u) {z1 : Int} (hz1 : r32 z1) {z2 : Int} (hz2 : r32 z2) {μ : GM} (hμ : gRg μ) (h : f_X11_share z1 z2 μ = some u) : WM G 3 μ 0 [(0, gR G 0), (1, vI z1), (2, vI z2)] [] := by
  unfold f_X11_share at h
  refine o_aload_n C 0 dX11_share_0 rfl rfl ?_
  refine o_getR (j := 0) C kt_0 rfl rfl (Nat.le_of_ble_eq_true rfl) lkf_RX11_10 dX11_share_1 ?_
  refine o_iload_n C 1 dX11_share_4 rfl rfl ?_
  refine o_cVI C [vI z1] mb_X2_hasCell (by decide) (fun _ hu => c_X2_hasCell hz1 hμ hu) rfl (Nat.le_of_ble_eq_true rfl) h mi_X2_hasCell me_X2_hasCell lkm_RX11_83 kt_1 rfl rfl rfl dX11_share_5 (fun x1 μ2 hx1 hμ2 h => ?_)
  refine o_if_eq (tgt := 25) C hx1 dX11_share_8 (by decide) h (fun _ h => ?_) (fun _ h => ?_)
  · refine o_ldc (v := (-10000001)) C lkc_RX11_87 rfl dX11_share_25 ?_
    exact o_iret C hQ dX11_share_27 h ⟨by decide, by decide⟩ hμ2
  · refine o_aload_n C 0 dX11_share_11 rfl rfl ?_
    refine o_getR (j := 0) C kt_0 rfl rfl (Nat.le_of_ble_eq_true rfl) lkf_RX11_10 dX11_share_12 ?_
    refine o_getR (j := 7) C kt_1 rfl rfl (Nat.le_of_ble_eq_true rfl) lkf_RX11_119 dX11_share_15 ?_
    refine o_iload_n C 2 dX11_share_18 rfl rfl ?_
    refine o_cVI C [vI z2] mb_X9_has (by decide) (fun _ hu => c_X9_has hz2 hμ2 hu) rfl (Nat.le_of_ble_eq_true rfl) h mi_X9_has me_X9_has lkm_RX11_141 kt_18 rfl rfl rfl dX11_share_19 (fun x3 μ4 hx3 hμ4 h => ?_)
    refine o_if_ne (tgt := 28) C hx3 dX11_share_22 (by decide) h (fun _ h => ?_) (fun _ h => ?_)
    · refine o_aload_n C 0 dX11_share_28 rfl rfl ?_
      refine o_getR (j := 6) C kt_0 rfl rfl (Nat.le_of_ble_eq_true rfl) lkf_RX11_62 dX11_share_29 ?_
      refine o_iload_n C 1 dX11_share_32 rfl rfl ?_
      refine o_iload_n C 2 dX11_share_33 rfl rfl ?_
      refine o_cVI C [vI z1, vI z2] mb_X5_shareOf (by decide) (fun _ hu => c_X5_shareOf hz1 hz2 hμ4 hu) rfl (Nat.le_of_ble_eq_true rfl) h mi_X5_shareOf me_X5_shareOf lkm_RX11_316 kt_47 rfl rfl rfl dX11_share_34 (fun x5 μ6 hx5 hμ6 h => ?_)
      exact o_iret C hQ dX11_share_37 h hx5 hμ6
    · refine o_ldc (v := (-10000001)) C lkc_RX11_87 rfl dX11_share_25 ?_
      exact o_iret C hQ dX11_share_27 h ⟨by decide, by decide⟩ hμ4
theorem c_X11_share {z1 : Int} (hz1 : r32 z1) {z2 : Int} (hz2 : r32 z2) {μ : GM} (hμ : gRg μ) {u : Int × GM} (h : f_X11_share z1 z2 μ = some u) : MtI 6 yX11_share cX11_share 3 (some .int) (fun ad => [.ref (ad 0), vI z1, vI z2]) μ u := MtI.of pf_X11_share (fun _ => Nat.le_of_ble_eq_true rfl) (fun G C hQ => w_X11_share_0 C hQ hz1 hz2 hμ h)
def f_X11_count (z1 : Int) (μ : GM) : Option (Int × GM) :=
  if z1 = 0 then
    some ((μ.2 1 0), μ)
  else if z1 = 1 then
    some ((μ.2 5 0), μ)
  else if z1 = 2 then
    some ((μ.2 9 0), μ)
  else if z1 = 3 then
    some ((μ.2 14 0), μ)
  else if z1 = 4 then
    some ((μ.2 18 0), μ)
  else if z1 = 5 then
    some ((μ.2 31 2), μ)
  else if z1 = 6 then
    some ((μ.2 42 2), μ)
  else if z1 = 7 then
    bd (f_X10_seenCells μ) fun x1 μ2 =>
    some (x1, μ2)
  else if z1 = 8 then
    bd (f_X9_allRates μ) fun x3 μ4 =>
    some (x3, μ4)
  else some ((-10000002), μ)
set_option maxHeartbeats 4000000 in
set_option maxRecDepth 100000 in
theorem w_X11_count_0 {G : GX} {u : Int × GM} (C : CX G 2 cX11_count 2 RX11) (hQ : gQI G (some .int) u) {z1 : Int} (hz1 : r32 z1) {μ : GM} (hμ : gRg μ) (h : f_X11_count z1 μ = some u) : WM G 2 μ 0 [(0, gR G 0), (1, vI z1)] [] := by
  unfold f_X11_count at h
  refine o_iload_n C 1 dX11_count_0 rfl rfl ?_
  rcases ite_some h with ⟨e0, h⟩ | ⟨e0, h⟩
  · refine o_tableIn (tgt := 52) C e0 ⟨by decide, by decide⟩ dX11_count_1 (by decide) (by decide) rfl (by decide) ?_
    refine o_aload_n C 0 dX11_count_52 rfl rfl ?_
    refine o_getR (j := 0) C kt_0 rfl rfl (Nat.le_of_ble_eq_true rfl) lkf_RX11_10 dX11_count_53 ?_
    refine o_getI (j := 0) C kt_1 rfl rfl (Nat.le_of_ble_eq_true rfl) lkf_RX11_71 dX11_count_56 ?_
    exact o_iret C hQ dX11_count_59 h (hμ.fi kt_1 rfl (by decide)) hμ
  · rcases ite_some h with ⟨e1, h⟩ | ⟨e1, h⟩
    · refine o_tableIn (tgt := 60) C e1 ⟨by decide, by decide⟩ dX11_count_1 (by decide) (by decide) rfl (by decide) ?_
      refine o_aload_n C 0 dX11_count_60 rfl rfl ?_
      refine o_getR (j := 0) C kt_0 rfl rfl (Nat.le_of_ble_eq_true rfl) lkf_RX11_10 dX11_count_61 ?_
      refine o_getR (j := 4) C kt_1 rfl rfl (Nat.le_of_ble_eq_true rfl) lkf_RX11_89 dX11_count_64 ?_
      refine o_getI (j := 0) C kt_5 rfl rfl (Nat.le_of_ble_eq_true rfl) lkf_RX11_93 dX11_count_67 ?_
      exact o_iret C hQ dX11_count_70 h (hμ.fi kt_5 rfl (by decide)) hμ
    · rcases ite_some h with ⟨e2, h⟩ | ⟨e2, h⟩
      · refine o_tableIn (tgt := 71) C e2 ⟨by decide, by decide⟩ dX11_count_1 (by decide) (by decide) rfl (by decide) ?_
        refine o_aload_n C 0 dX11_count_71 rfl rfl ?_
        refine o_getR (j := 0) C kt_0 rfl rfl (Nat.le_of_ble_eq_true rfl) lkf_RX11_10 dX11_count_72 ?_
        refine o_getR (j := 5) C kt_1 rfl rfl (Nat.le_of_ble_eq_true rfl) lkf_RX11_101 dX11_count_75 ?_
        refine o_getI (j := 0) C kt_9 rfl rfl (Nat.le_of_ble_eq_true rfl) lkf_RX11_105 dX11_count_78 ?_
        exact o_iret C hQ dX11_count_81 h (hμ.fi kt_9 rfl (by decide)) hμ
      · rcases ite_some h with ⟨e3, h⟩ | ⟨e3, h⟩
        · refine o_tableIn (tgt := 82) C e3 ⟨by decide, by decide⟩ dX11_count_1 (by decide) (by decide) rfl (by decide) ?_
          refine o_aload_n C 0 dX11_count_82 rfl rfl ?_
          refine o_getR (j := 0) C kt_0 rfl rfl (Nat.le_of_ble_eq_true rfl) lkf_RX11_10 dX11_count_83 ?_
          refine o_getR (j := 6) C kt_1 rfl rfl (Nat.le_of_ble_eq_true rfl) lkf_RX11_111 dX11_count_86 ?_
          refine o_getI (j := 0) C kt_14 rfl rfl (Nat.le_of_ble_eq_true rfl) lkf_RX11_115 dX11_count_89 ?_
          exact o_iret C hQ dX11_count_92 h (hμ.fi kt_14 rfl (by decide)) hμ
        · rcases ite_some h with ⟨e4, h⟩ | ⟨e4, h⟩
          · refine o_tableIn (tgt := 93) C e4 ⟨by decide, by decide⟩ dX11_count_1 (by decide) (by decide) rfl (by decide) ?_
            refine o_aload_n C 0 dX11_count_93 rfl rfl ?_
            refine o_getR (j := 0) C kt_0 rfl rfl (Nat.le_of_ble_eq_true rfl) lkf_RX11_10 dX11_count_94 ?_
            refine o_getR (j := 7) C kt_1 rfl rfl (Nat.le_of_ble_eq_true rfl) lkf_RX11_119 dX11_count_97 ?_
            refine o_getI (j := 0) C kt_18 rfl rfl (Nat.le_of_ble_eq_true rfl) lkf_RX11_123 dX11_count_100 ?_
            exact o_iret C hQ dX11_count_103 h (hμ.fi kt_18 rfl (by decide)) hμ
          · rcases ite_some h with ⟨e5, h⟩ | ⟨e5, h⟩
            · refine o_tableIn (tgt := 104) C e5 ⟨by decide, by decide⟩ dX11_count_1 (by decide) (by decide) rfl (by decide) ?_
              refine o_aload_n C 0 dX11_count_104 rfl rfl ?_
              refine o_getR (j := 4) C kt_0 rfl rfl (Nat.le_of_ble_eq_true rfl) lkf_RX11_46 dX11_count_105 ?_
              refine o_getI (j := 2) C kt_31 rfl rfl (Nat.le_of_ble_eq_true rfl) lkf_RX11_263 dX11_count_108 ?_
              exact o_iret C hQ dX11_count_111 h (hμ.fi kt_31 rfl (by decide)) hμ
            · rcases ite_some h with ⟨e6, h⟩ | ⟨e6, h⟩
              · refine o_tableIn (tgt := 112) C e6 ⟨by decide, by decide⟩ dX11_count_1 (by decide) (by decide) rfl (by decide) ?_
                refine o_aload_n C 0 dX11_count_112 rfl rfl ?_
                refine o_getR (j := 5) C kt_0 rfl rfl (Nat.le_of_ble_eq_true rfl) lkf_RX11_53 dX11_count_113 ?_
                refine o_getI (j := 2) C kt_42 rfl rfl (Nat.le_of_ble_eq_true rfl) lkf_RX11_286 dX11_count_116 ?_
                exact o_iret C hQ dX11_count_119 h (hμ.fi kt_42 rfl (by decide)) hμ
              · rcases ite_some h with ⟨e7, h⟩ | ⟨e7, h⟩
                · refine o_tableIn (tgt := 120) C e7 ⟨by decide, by decide⟩ dX11_count_1 (by decide) (by decide) rfl (by decide) ?_
                  refine o_aload_n C 0 dX11_count_120 rfl rfl ?_
                  refine o_getR (j := 4) C kt_0 rfl rfl (Nat.le_of_ble_eq_true rfl) lkf_RX11_46 dX11_count_121 ?_
                  refine o_cVI C [] mb_X10_seenCells (by decide) (fun _ hu => c_X10_seenCells hμ hu) rfl (Nat.le_of_ble_eq_true rfl) h mi_X10_seenCells me_X10_seenCells lkm_RX11_319 kt_31 rfl rfl rfl dX11_count_124 (fun x1 μ2 hx1 hμ2 h => ?_)
                  exact o_iret C hQ dX11_count_127 h hx1 hμ2
                · rcases ite_some h with ⟨e8, h⟩ | ⟨e8, h⟩
                  · refine o_tableIn (tgt := 128) C e8 ⟨by decide, by decide⟩ dX11_count_1 (by decide) (by decide) rfl (by decide) ?_
                    refine o_aload_n C 0 dX11_count_128 rfl rfl ?_
                    refine o_getR (j := 0) C kt_0 rfl rfl (Nat.le_of_ble_eq_true rfl) lkf_RX11_10 dX11_count_129 ?_
                    refine o_getR (j := 7) C kt_1 rfl rfl (Nat.le_of_ble_eq_true rfl) lkf_RX11_119 dX11_count_132 ?_
                    refine o_cVI C [] mb_X9_allRates (by decide) (fun _ hu => c_X9_allRates hμ hu) rfl (Nat.le_of_ble_eq_true rfl) h mi_X9_allRates me_X9_allRates lkm_RX11_322 kt_18 rfl rfl rfl dX11_count_135 (fun x3 μ4 hx3 hμ4 h => ?_)
                    exact o_iret C hQ dX11_count_138 h hx3 hμ4
                  · refine o_tableOut (tgt := 139) C hz1 dX11_count_1 (by omega) (by decide) ?_
                    refine o_ldc (v := (-10000002)) C lkc_RX11_70 rfl dX11_count_139 ?_
                    exact o_iret C hQ dX11_count_141 h ⟨by decide, by decide⟩ hμ
theorem c_X11_count {z1 : Int} (hz1 : r32 z1) {μ : GM} (hμ : gRg μ) {u : Int × GM} (h : f_X11_count z1 μ = some u) : MtI 2 yX11_count cX11_count 2 (some .int) (fun ad => [.ref (ad 0), vI z1]) μ u := MtI.of pf_X11_count (fun _ => Nat.le_of_ble_eq_true rfl) (fun G C hQ => w_X11_count_0 C hQ hz1 hμ h)
