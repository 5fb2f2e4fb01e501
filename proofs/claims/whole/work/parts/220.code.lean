def f_X12_level (z1 : Int) (μ : GM) : Option (Int × GM) :=
  lm (gF μ 53 0 0) fun μ1 =>
  bd (f_X12_noWell z1 μ1) fun x2 μ3 =>
  if x2 = 0 then
    bd (f_X12_plan μ3) fun _x4 μ5 =>
    if (μ5.2 53 50) = (-10000009) then
      some ((-10000009), μ5)
    else
      if z1 = 0 then
        ck (25 ≠ 0) (
        some ((w32 (Int.tdiv (μ5.2 53 52) 25)), μ5))
      else
        if z1 = 1 then
          ck (5 ≠ 0) (
          ck (5 ≠ 0) (
          some ((Int.tmod (w32 (Int.tdiv (μ5.2 53 52) 5)) 5), μ5)))
        else
          ck (5 ≠ 0) (
          some ((Int.tmod (μ5.2 53 52) 5), μ5))
  else
    some ((-10000001), μ3)
set_option maxHeartbeats 4000000 in
set_option maxRecDepth 100000 in
theorem w_X12_level_0 {G : GX} {u : Int × GM} (C : CX G 6 cX12_level 2 RX12) (hQ : gQI G (some .int) u) {z1 : Int} (hz1 : r32 z1) {μ : GM} (hμ : gRg μ) (h : f_X12_level z1 μ = some u) : WM G 2 μ 0 [(0, gR G 53), (1, vI z1)] [] := by
  unfold f_X12_level at h
  refine o_aload_n C 0 dX12_level_0 rfl rfl ?_
  refine o_iconst C dX12_level_1 ?_
  refine o_putI (j := 0) C kt_53 rfl rfl tyX12_ok nmX12 (Nat.le_of_ble_eq_true rfl) lkf_RX12_133 rfl rfl ⟨by decide, by decide⟩ hμ dX12_level_2 h (fun μ1 hμ1 h => ?_)
  refine o_aload_n C 0 dX12_level_5 rfl rfl ?_
  refine o_iload_n C 1 dX12_level_6 rfl rfl ?_
  refine o_cVI C [vI z1] mb_X12_noWell (by decide) (fun _ hu => c_X12_noWell hz1 hμ1 hu) rfl (Nat.le_of_ble_eq_true rfl) h mi_X12_noWell me_X12_noWell lkm_RX12_175 kt_53 rfl rfl rfl dX12_level_7 (fun x2 μ3 hx2 hμ3 h => ?_)
  refine o_if_eq (tgt := 16) C hx2 dX12_level_10 (by decide) h (fun _ h => ?_) (fun _ h => ?_)
  · refine o_aload_n C 0 dX12_level_16 rfl rfl ?_
    refine o_cVV C [] mb_X12_plan (by decide) (fun _ hu => c_X12_plan hμ3 hu) rfl (Nat.le_of_ble_eq_true rfl) h mi_X12_plan me_X12_plan lkm_RX12_387 kt_53 rfl rfl rfl dX12_level_17 (fun _x4 μ5 hμ5 h => ?_)
    refine o_aload_n C 0 dX12_level_20 rfl rfl ?_
    refine o_getI (j := 50) C kt_53 rfl rfl (Nat.le_of_ble_eq_true rfl) lkf_RX12_371 dX12_level_21 ?_
    refine o_ldc (v := (-10000009)) C lkc_RX12_132 rfl dX12_level_24 ?_
    refine o_icmp_ne (tgt := 34) C (hμ5.fi kt_53 rfl (by decide)) ⟨by decide, by decide⟩ dX12_level_26 (by decide) h (fun _ h => ?_) (fun _ h => ?_)
    · refine o_iload_n C 1 dX12_level_34 rfl rfl ?_
      refine o_if_ne (tgt := 48) C hz1 dX12_level_35 (by decide) h (fun _ h => ?_) (fun _ h => ?_)
      · refine o_iload_n C 1 dX12_level_48 rfl rfl ?_
        refine o_iconst C dX12_level_49 ?_
        refine o_icmp_ne (tgt := 64) C hz1 ⟨by decide, by decide⟩ dX12_level_50 (by decide) h (fun _ h => ?_) (fun _ h => ?_)
        · refine o_aload_n C 0 dX12_level_64 rfl rfl ?_
          refine o_getI (j := 52) C kt_53 rfl rfl (Nat.le_of_ble_eq_true rfl) lkf_RX12_377 dX12_level_65 ?_
          refine o_iconst C dX12_level_68 ?_
          refine o_irem C (hμ5.fi kt_53 rfl (by decide)) ⟨by decide, by decide⟩ dX12_level_69 h (fun h => ?_)
          exact o_iret C hQ dX12_level_70 h (r32_rem _ (hμ5.fi kt_53 rfl (by decide))) hμ5
        · refine o_aload_n C 0 dX12_level_53 rfl rfl ?_
          refine o_getI (j := 52) C kt_53 rfl rfl (Nat.le_of_ble_eq_true rfl) lkf_RX12_377 dX12_level_54 ?_
          refine o_iconst C dX12_level_57 ?_
          refine o_idiv C (hμ5.fi kt_53 rfl (by decide)) ⟨by decide, by decide⟩ dX12_level_58 h (fun h => ?_)
          refine o_iconst C dX12_level_59 ?_
          refine o_irem C (r32_w _) ⟨by decide, by decide⟩ dX12_level_60 h (fun h => ?_)
          refine o_goto (tgt := 70) C dX12_level_61 (by decide) ?_
          exact o_iret C hQ dX12_level_70 h (r32_rem _ (r32_w _)) hμ5
      · refine o_aload_n C 0 dX12_level_38 rfl rfl ?_
        refine o_getI (j := 52) C kt_53 rfl rfl (Nat.le_of_ble_eq_true rfl) lkf_RX12_377 dX12_level_39 ?_
        refine o_bipush (v := 25) C dX12_level_42 (by decide) ?_
        refine o_idiv C (hμ5.fi kt_53 rfl (by decide)) ⟨by decide, by decide⟩ dX12_level_44 h (fun h => ?_)
        refine o_goto (tgt := 70) C dX12_level_45 (by decide) ?_
        exact o_iret C hQ dX12_level_70 h (r32_w _) hμ5
    · refine o_ldc (v := (-10000009)) C lkc_RX12_132 rfl dX12_level_29 ?_
      refine o_goto (tgt := 70) C dX12_level_31 (by decide) ?_
      exact o_iret C hQ dX12_level_70 h ⟨by decide, by decide⟩ hμ5
  · refine o_ldc (v := (-10000001)) C lkc_RX12_159 rfl dX12_level_13 ?_
    exact o_iret C hQ dX12_level_15 h ⟨by decide, by decide⟩ hμ3
theorem c_X12_level {z1 : Int} (hz1 : r32 z1) {μ : GM} (hμ : gRg μ) {u : Int × GM} (h : f_X12_level z1 μ = some u) : MtI 6 yX12_level cX12_level 2 (some .int) (fun ad => [.ref (ad 53), vI z1]) μ u := MtI.of pf_X12_level (fun _ => Nat.le_of_ble_eq_true rfl) (fun G C hQ => w_X12_level_0 C hQ hz1 hμ h)
def k_X12_draw_31 : Nat → Int → GM → Option (Int × GM)
  | 0, _, _ => none
  | n + 1, z1, μ =>
    if z1 < (μ.2 53 18) then
      ck (0 ≤ z1 ∧ z1 < 3) (
      ck (0 ≤ z1 ∧ z1 < 3) (lm (gA μ 70 z1 (μ.1 73 z1)) fun μ1 =>
      lt (w32 (z1 + 1)) fun x2 =>
      k_X12_draw_31 n x2 μ1))
    else
      some ((μ.2 53 50), μ)
set_option maxHeartbeats 4000000 in
set_option maxRecDepth 100000 in
theorem w_X12_draw_31 {G : GX} {u : Int × GM} (C : CX G 6 cX12_draw 2 RX12) (hQ : gQI G (some .int) u) : ∀ (n : Nat) (z1 : Int) (hz1 : r32 z1) (μ : GM) (hμ : gRg μ), k_X12_draw_31 n z1 μ = some u → WM G 2 μ 31 [(0, gR G 53), (1, vI z1)] [] := by
  intro n
  induction n with
  | zero =>
    intro z1 hz1 μ hμ h
    cases h
  | succ n ih =>
    intro z1 hz1 μ hμ h
    rw [k_X12_draw_31] at h
    refine o_iload_n C 1 dX12_draw_31 rfl rfl ?_
    refine o_aload_n C 0 dX12_draw_32 rfl rfl ?_
    refine o_getI (j := 18) C kt_53 rfl rfl (Nat.le_of_ble_eq_true rfl) lkf_RX12_144 dX12_draw_33 ?_
    refine o_icmp_ge (tgt := 57) C hz1 (hμ.fi kt_53 rfl (by decide)) dX12_draw_36 (by decide) h (fun _ h => ?_) (fun _ h => ?_)
    · refine o_aload_n C 0 dX12_draw_57 rfl rfl ?_
      refine o_getI (j := 50) C kt_53 rfl rfl (Nat.le_of_ble_eq_true rfl) lkf_RX12_371 dX12_draw_58 ?_
      exact o_iret C hQ dX12_draw_61 h (hμ.fi kt_53 rfl (by decide)) hμ
    · refine o_aload_n C 0 dX12_draw_39 rfl rfl ?_
      refine o_getR (j := 22) C kt_53 rfl rfl (Nat.le_of_ble_eq_true rfl) lkf_RX12_58 dX12_draw_40 ?_
      refine o_iload_n C 1 dX12_draw_43 rfl rfl ?_
      refine o_aload_n C 0 dX12_draw_44 rfl rfl ?_
      refine o_getR (j := 27) C kt_53 rfl rfl (Nat.le_of_ble_eq_true rfl) lkf_RX12_68 dX12_draw_45 ?_
      refine o_iload_n C 1 dX12_draw_48 rfl rfl ?_
      refine o_iald C kt_73 rfl hz1 dX12_draw_49 h (fun h => ?_)
      refine o_iast C kt_70 rfl hz1 (hμ.i kt_73 (by decide) _) hμ dX12_draw_50 h (fun μ1 hμ1 h => ?_)
      refine o_iinc (lv2 := fun x2 => [(1, vI x2), (0, gR G 53)]) C 1 dX12_draw_51 rfl (by decide) (fun _ => rfl) h (fun x2 hx2 h => ?_)
      refine o_goto (tgt := 31) C dX12_draw_54 (by decide) ?_
      exact WM.sub [1, 0] rfl (ih x2 hx2 μ1 hμ1 h)
def f_X12_draw (μ : GM) : Option (Int × GM) :=
  lm (gF μ 53 0 0) fun μ1 =>
  bd (f_X12_plan μ1) fun _x2 μ3 =>
  if (μ3.2 53 50) = (-10000009) then
    some ((-10000009), μ3)
  else
    bd (f_X12_draws (μ3.2 53 52) μ3) fun _x4 μ5 =>
    k_X12_draw_31 FU 0 μ5
set_option maxHeartbeats 4000000 in
set_option maxRecDepth 100000 in
theorem w_X12_draw_0 {G : GX} {u : Int × GM} (C : CX G 6 cX12_draw 2 RX12) (hQ : gQI G (some .int) u) {μ : GM} (hμ : gRg μ) (h : f_X12_draw μ = some u) : WM G 2 μ 0 [(0, gR G 53)] [] := by
  unfold f_X12_draw at h
  refine o_aload_n C 0 dX12_draw_0 rfl rfl ?_
  refine o_iconst C dX12_draw_1 ?_
  refine o_putI (j := 0) C kt_53 rfl rfl tyX12_ok nmX12 (Nat.le_of_ble_eq_true rfl) lkf_RX12_133 rfl rfl ⟨by decide, by decide⟩ hμ dX12_draw_2 h (fun μ1 hμ1 h => ?_)
  refine o_aload_n C 0 dX12_draw_5 rfl rfl ?_
  refine o_cVV C [] mb_X12_plan (by decide) (fun _ hu => c_X12_plan hμ1 hu) rfl (Nat.le_of_ble_eq_true rfl) h mi_X12_plan me_X12_plan lkm_RX12_387 kt_53 rfl rfl rfl dX12_draw_6 (fun _x2 μ3 hμ3 h => ?_)
  refine o_aload_n C 0 dX12_draw_9 rfl rfl ?_
  refine o_getI (j := 50) C kt_53 rfl rfl (Nat.le_of_ble_eq_true rfl) lkf_RX12_371 dX12_draw_10 ?_
  refine o_ldc (v := (-10000009)) C lkc_RX12_132 rfl dX12_draw_13 ?_
  refine o_icmp_ne (tgt := 21) C (hμ3.fi kt_53 rfl (by decide)) ⟨by decide, by decide⟩ dX12_draw_15 (by decide) h (fun _ h => ?_) (fun _ h => ?_)
  · refine o_aload_n C 0 dX12_draw_21 rfl rfl ?_
    refine o_aload_n C 0 dX12_draw_22 rfl rfl ?_
    refine o_getI (j := 52) C kt_53 rfl rfl (Nat.le_of_ble_eq_true rfl) lkf_RX12_377 dX12_draw_23 ?_
    refine o_cVV C [vI (μ3.2 53 52)] mb_X12_draws (by decide) (fun _ hu => c_X12_draws (hμ3.fi kt_53 rfl (by decide)) hμ3 hu) rfl (Nat.le_of_ble_eq_true rfl) h mi_X12_draws me_X12_draws lkm_RX12_380 kt_53 rfl rfl rfl dX12_draw_26 (fun _x4 μ5 hμ5 h => ?_)
    refine o_iconst C dX12_draw_29 ?_
    refine o_istore_n (lv2 := [(1, vI 0), (0, gR G 53)]) C dX12_draw_30 rfl (by decide) rfl ?_
    exact WM.sub [1, 0] rfl (w_X12_draw_31 C hQ FU 0 ⟨by decide, by decide⟩ μ5 hμ5 h)
  · refine o_ldc (v := (-10000009)) C lkc_RX12_132 rfl dX12_draw_18 ?_
    exact o_iret C hQ dX12_draw_20 h ⟨by decide, by decide⟩ hμ3
theorem c_X12_draw {μ : GM} (hμ : gRg μ) {u : Int × GM} (h : f_X12_draw μ = some u) : MtI 6 yX12_draw cX12_draw 2 (some .int) (fun ad => [.ref (ad 53)]) μ u := MtI.of pf_X12_draw (fun _ => Nat.le_of_ble_eq_true rfl) (fun G C hQ => w_X12_draw_0 C hQ hμ h)
def f_X12_price (z1 : Int) (μ : GM) : Option (Int × GM) :=
  lm (gF μ 53 0 0) fun μ1 =>
  bd (f_X12_noCell z1 μ1) fun x2 μ3 =>
  if x2 = 0 then
    ck (0 ≤ z1 ∧ z1 < 6) (
    if (μ3.1 92 z1) = (-10000009) then
      some (0, μ3)
    else
      bd (f_X12_plan μ3) fun _x4 μ5 =>
      if (μ5.2 53 50) = (-10000009) then
        some ((-10000009), μ5)
      else
        lt (μ5.2 53 50) fun x6 =>
        ck (0 ≤ z1 ∧ z1 < 6) (
        lt (μ5.1 92 z1) fun x7 =>
        ck (0 ≤ z1 ∧ z1 < 6) (lm (gA μ5 92 z1 (-10000009)) fun μ8 =>
        bd (f_X12_plan μ8) fun _x9 μ10 =>
        ck (0 ≤ z1 ∧ z1 < 6) (lm (gA μ10 92 z1 x7) fun μ11 =>
        some ((w32 ((μ11.2 53 50) - x6)), μ11)))))
  else
    some ((-10000001), μ3)
set_option maxHeartbeats 4000000 in
set_option maxRecDepth 100000 in
theorem w_X12_price_0 {G : GX} {u : Int × GM} (C : CX G 6 cX12_price 4 RX12) (hQ : gQI G (some .int) u) {z1 : Int} (hz1 : r32 z1) {μ : GM} (hμ : gRg μ) (h : f_X12_price z1 μ = some u) : WM G 4 μ 0 [(0, gR G 53), (1, vI z1)] [] := by
  unfold f_X12_price at h
  refine o_aload_n C 0 dX12_price_0 rfl rfl ?_
  refine o_iconst C dX12_price_1 ?_
  refine o_putI (j := 0) C kt_53 rfl rfl tyX12_ok nmX12 (Nat.le_of_ble_eq_true rfl) lkf_RX12_133 rfl rfl ⟨by decide, by decide⟩ hμ dX12_price_2 h (fun μ1 hμ1 h => ?_)
  refine o_aload_n C 0 dX12_price_5 rfl rfl ?_
  refine o_iload_n C 1 dX12_price_6 rfl rfl ?_
  refine o_cVI C [vI z1] mb_X12_noCell (by decide) (fun _ hu => c_X12_noCell hz1 hμ1 hu) rfl (Nat.le_of_ble_eq_true rfl) h mi_X12_noCell me_X12_noCell lkm_RX12_155 kt_53 rfl rfl rfl dX12_price_7 (fun x2 μ3 hx2 hμ3 h => ?_)
  refine o_if_eq (tgt := 16) C hx2 dX12_price_10 (by decide) h (fun _ h => ?_) (fun _ h => ?_)
  · refine o_aload_n C 0 dX12_price_16 rfl rfl ?_
    refine o_getR (j := 49) C kt_53 rfl rfl (Nat.le_of_ble_eq_true rfl) lkf_RX12_126 dX12_price_17 ?_
    refine o_iload_n C 1 dX12_price_20 rfl rfl ?_
    refine o_iald C kt_92 rfl hz1 dX12_price_21 h (fun h => ?_)
    refine o_ldc (v := (-10000009)) C lkc_RX12_132 rfl dX12_price_22 ?_
    refine o_icmp_ne (tgt := 29) C (hμ3.i kt_92 (by decide) _) ⟨by decide, by decide⟩ dX12_price_24 (by decide) h (fun _ h => ?_) (fun _ h => ?_)
    · refine o_aload_n C 0 dX12_price_29 rfl rfl ?_
      refine o_cVV C [] mb_X12_plan (by decide) (fun _ hu => c_X12_plan hμ3 hu) rfl (Nat.le_of_ble_eq_true rfl) h mi_X12_plan me_X12_plan lkm_RX12_387 kt_53 rfl rfl rfl dX12_price_30 (fun _x4 μ5 hμ5 h => ?_)
      refine o_aload_n C 0 dX12_price_33 rfl rfl ?_
      refine o_getI (j := 50) C kt_53 rfl rfl (Nat.le_of_ble_eq_true rfl) lkf_RX12_371 dX12_price_34 ?_
      refine o_ldc (v := (-10000009)) C lkc_RX12_132 rfl dX12_price_37 ?_
      refine o_icmp_ne (tgt := 45) C (hμ5.fi kt_53 rfl (by decide)) ⟨by decide, by decide⟩ dX12_price_39 (by decide) h (fun _ h => ?_) (fun _ h => ?_)
      · refine o_aload_n C 0 dX12_price_45 rfl rfl ?_
        refine o_getI (j := 50) C kt_53 rfl rfl (Nat.le_of_ble_eq_true rfl) lkf_RX12_371 dX12_price_46 ?_
        refine o_lt h (hμ5.fi kt_53 rfl (by decide)) (fun x6 hx6 h => ?_)
        refine o_istore_n (lv2 := [(2, vI x6), (0, gR G 53), (1, vI z1)]) C dX12_price_49 rfl (by decide) rfl ?_
        refine o_aload_n C 1 dX12_price_50 rfl rfl ?_
        refine o_getR (j := 49) C kt_53 rfl rfl (Nat.le_of_ble_eq_true rfl) lkf_RX12_126 dX12_price_51 ?_
        refine o_iload_n C 2 dX12_price_54 rfl rfl ?_
        refine o_iald C kt_92 rfl hz1 dX12_price_55 h (fun h => ?_)
        refine o_lt h (hμ5.i kt_92 (by decide) _) (fun x7 hx7 h => ?_)
        refine o_istore_n (lv2 := [(3, vI x7), (2, vI x6), (0, gR G 53), (1, vI z1)]) C dX12_price_56 rfl (by decide) rfl ?_
        refine o_aload_n C 2 dX12_price_57 rfl rfl ?_
        refine o_getR (j := 49) C kt_53 rfl rfl (Nat.le_of_ble_eq_true rfl) lkf_RX12_126 dX12_price_58 ?_
        refine o_iload_n C 3 dX12_price_61 rfl rfl ?_
        refine o_ldc (v := (-10000009)) C lkc_RX12_132 rfl dX12_price_62 ?_
        refine o_iast C kt_92 rfl hz1 ⟨by decide, by decide⟩ hμ5 dX12_price_64 h (fun μ8 hμ8 h => ?_)
        refine o_aload_n C 2 dX12_price_65 rfl rfl ?_
        refine o_cVV C [] mb_X12_plan (by decide) (fun _ hu => c_X12_plan hμ8 hu) rfl (Nat.le_of_ble_eq_true rfl) h mi_X12_plan me_X12_plan lkm_RX12_387 kt_53 rfl rfl rfl dX12_price_66 (fun _x9 μ10 hμ10 h => ?_)
        refine o_aload_n C 2 dX12_price_69 rfl rfl ?_
        refine o_getR (j := 49) C kt_53 rfl rfl (Nat.le_of_ble_eq_true rfl) lkf_RX12_126 dX12_price_70 ?_
        refine o_iload_n C 3 dX12_price_73 rfl rfl ?_
        refine o_iload_n C 0 dX12_price_74 rfl rfl ?_
        refine o_iast C kt_92 rfl hz1 hx7 hμ10 dX12_price_75 h (fun μ11 hμ11 h => ?_)
        refine o_aload_n C 2 dX12_price_76 rfl rfl ?_
        refine o_getI (j := 50) C kt_53 rfl rfl (Nat.le_of_ble_eq_true rfl) lkf_RX12_371 dX12_price_77 ?_
        refine o_iload_n C 1 dX12_price_80 rfl rfl ?_
        refine o_isub C dX12_price_81 ?_
        exact o_iret C hQ dX12_price_82 h (r32_w _) hμ11
      · refine o_ldc (v := (-10000009)) C lkc_RX12_132 rfl dX12_price_42 ?_
        exact o_iret C hQ dX12_price_44 h ⟨by decide, by decide⟩ hμ5
    · refine o_iconst C dX12_price_27 ?_
      exact o_iret C hQ dX12_price_28 h ⟨by decide, by decide⟩ hμ3
  · refine o_ldc (v := (-10000001)) C lkc_RX12_159 rfl dX12_price_13 ?_
    exact o_iret C hQ dX12_price_15 h ⟨by decide, by decide⟩ hμ3
theorem c_X12_price {z1 : Int} (hz1 : r32 z1) {μ : GM} (hμ : gRg μ) {u : Int × GM} (h : f_X12_price z1 μ = some u) : MtI 6 yX12_price cX12_price 4 (some .int) (fun ad => [.ref (ad 53), vI z1]) μ u := MtI.of pf_X12_price (fun _ => Nat.le_of_ble_eq_true rfl) (fun G C hQ => w_X12_price_0 C hQ hz1 hμ h)
def k_X12_drawn_6 : Nat → Int → Int → Int → GM → Option (Int × GM)
  | 0, _, _, _, _ => none
  | n + 1, z1, z2, z3, μ =>
    if z3 < (μ.2 53 18) then
      if (gand (gshr z2 z3) 1) = 1 then
        ck (0 ≤ z3 ∧ z3 < 3) (
        ck (0 ≤ z3 ∧ z3 < 3) (lm (gA μ 73 z3 (μ.1 70 z3)) fun μ7 =>
        lt (w32 (z3 + 1)) fun x8 =>
        k_X12_drawn_6 n z1 z2 x8 μ7))
      else
        ck (0 ≤ z3 ∧ z3 < 3) (lm (gA μ 73 z3 0) fun μ5 =>
        lt (w32 (z3 + 1)) fun x6 =>
        k_X12_drawn_6 n z1 z2 x6 μ5)
    else
      bd (f_X12_solves μ) fun x1 μ2 =>
      if x1 = 0 then
        some ((-10000003), μ2)
      else
        ck (0 ≤ z1 ∧ z1 < 6) (
        bd (f_X12_milliOf (μ2.1 71 z1) μ2) fun x3 μ4 =>
        some (x3, μ4))
set_option maxHeartbeats 4000000 in
set_option maxRecDepth 100000 in
theorem w_X12_drawn_6 {G : GX} {u : Int × GM} (C : CX G 4 cX12_drawn 4 RX12) (hQ : gQI G (some .int) u) : ∀ (n : Nat) (z1 : Int) (hz1 : r32 z1) (z2 : Int) (hz2 : r32 z2) (z3 : Int) (hz3 : r32 z3) (μ : GM) (hμ : gRg μ), k_X12_drawn_6 n z1 z2 z3 μ = some u → WM G 4 μ 6 [(0, gR G 53), (1, vI z1), (2, vI z2), (3, vI z3)] [] := by
  intro n
  induction n with
  | zero =>
    intro z1 hz1 z2 hz2 z3 hz3 μ hμ h
    cases h
  | succ n ih =>
    intro z1 hz1 z2 hz2 z3 hz3 μ hμ h
    rw [k_X12_drawn_6] at h
    refine o_iload_n C 3 dX12_drawn_6 rfl rfl ?_
    refine o_aload_n C 0 dX12_drawn_7 rfl rfl ?_
    refine o_getI (j := 18) C kt_53 rfl rfl (Nat.le_of_ble_eq_true rfl) lkf_RX12_144 dX12_drawn_8 ?_
    refine o_icmp_ge (tgt := 45) C hz3 (hμ.fi kt_53 rfl (by decide)) dX12_drawn_11 (by decide) h (fun _ h => ?_) (fun _ h => ?_)
    · refine o_aload_n C 0 dX12_drawn_45 rfl rfl ?_
      refine o_cVI C [] mb_X12_solves (by decide) (fun _ hu => c_X12_solves hμ hu) rfl (Nat.le_of_ble_eq_true rfl) h mi_X12_solves me_X12_solves lkm_RX12_221 kt_53 rfl rfl rfl dX12_drawn_46 (fun x1 μ2 hx1 hμ2 h => ?_)
      refine o_if_eq (tgt := 65) C hx1 dX12_drawn_49 (by decide) h (fun _ h => ?_) (fun _ h => ?_)
      · refine o_ldc (v := (-10000003)) C lkc_RX12_163 rfl dX12_drawn_65 ?_
        exact o_iret C hQ dX12_drawn_67 h ⟨by decide, by decide⟩ hμ2
      · refine o_aload_n C 0 dX12_drawn_52 rfl rfl ?_
        refine o_aload_n C 0 dX12_drawn_53 rfl rfl ?_
        refine o_getR (j := 23) C kt_53 rfl rfl (Nat.le_of_ble_eq_true rfl) lkf_RX12_61 dX12_drawn_54 ?_
        refine o_iload_n C 1 dX12_drawn_57 rfl rfl ?_
        refine o_lald C kt_71 rfl hz1 dX12_drawn_58 h (fun h => ?_)
        refine o_cVI C [vJ (μ2.1 71 z1)] mb_X12_milliOf (by decide) (fun _ hu => c_X12_milliOf (hμ2.l kt_71 _) hμ2 hu) rfl (Nat.le_of_ble_eq_true rfl) h mi_X12_milliOf me_X12_milliOf lkm_RX12_243 kt_53 rfl rfl rfl dX12_drawn_59 (fun x3 μ4 hx3 hμ4 h => ?_)
        refine o_goto (tgt := 67) C dX12_drawn_62 (by decide) ?_
        exact o_iret C hQ dX12_drawn_67 h hx3 hμ4
    · refine o_aload_n C 0 dX12_drawn_14 rfl rfl ?_
      refine o_getR (j := 27) C kt_53 rfl rfl (Nat.le_of_ble_eq_true rfl) lkf_RX12_68 dX12_drawn_15 ?_
      refine o_iload_n C 3 dX12_drawn_18 rfl rfl ?_
      refine o_iload_n C 2 dX12_drawn_19 rfl rfl ?_
      refine o_iload_n C 3 dX12_drawn_20 rfl rfl ?_
      refine o_ishr C dX12_drawn_21 ?_
      refine o_iconst C dX12_drawn_22 ?_
      refine o_iand C dX12_drawn_23 ?_
      refine o_iconst C dX12_drawn_24 ?_
      refine o_icmp_ne (tgt := 37) C (r32_toInt _) ⟨by decide, by decide⟩ dX12_drawn_25 (by decide) h (fun _ h => ?_) (fun _ h => ?_)
      · refine o_iconst C dX12_drawn_37 ?_
        refine o_iast C kt_73 rfl hz3 ⟨by decide, by decide⟩ hμ dX12_drawn_38 h (fun μ5 hμ5 h => ?_)
        refine o_iinc (lv2 := fun x6 => [(3, vI x6), (0, gR G 53), (1, vI z1), (2, vI z2)]) C 3 dX12_drawn_39 rfl (by decide) (fun _ => rfl) h (fun x6 hx6 h => ?_)
        refine o_goto (tgt := 6) C dX12_drawn_42 (by decide) ?_
        exact WM.sub [1, 2, 3, 0] rfl (ih z1 hz1 z2 hz2 x6 hx6 μ5 hμ5 h)
      · refine o_aload_n C 0 dX12_drawn_28 rfl rfl ?_
        refine o_getR (j := 22) C kt_53 rfl rfl (Nat.le_of_ble_eq_true rfl) lkf_RX12_58 dX12_drawn_29 ?_
        refine o_iload_n C 3 dX12_drawn_32 rfl rfl ?_
        refine o_iald C kt_70 rfl hz3 dX12_drawn_33 h (fun h => ?_)
        refine o_goto (tgt := 38) C dX12_drawn_34 (by decide) ?_
        refine o_iast C kt_73 rfl hz3 (hμ.i kt_70 (by decide) _) hμ dX12_drawn_38 h (fun μ7 hμ7 h => ?_)
        refine o_iinc (lv2 := fun x8 => [(3, vI x8), (0, gR G 53), (1, vI z1), (2, vI z2)]) C 3 dX12_drawn_39 rfl (by decide) (fun _ => rfl) h (fun x8 hx8 h => ?_)
        refine o_goto (tgt := 6) C dX12_drawn_42 (by decide) ?_
        exact WM.sub [1, 2, 3, 0] rfl (ih z1 hz1 z2 hz2 x8 hx8 μ7 hμ7 h)
def f_X12_drawn (z1 : Int) (z2 : Int) (μ : GM) : Option (Int × GM) :=
  bd (f_X12_asIs μ) fun _x1 μ2 =>
  k_X12_drawn_6 FU z1 z2 0 μ2
set_option maxHeartbeats 4000000 in
set_option maxRecDepth 100000 in
theorem w_X12_drawn_0 {G : GX} {u : Int × GM} (C : CX G 4 cX12_drawn 4 RX12) (hQ : gQI G (some .int) u) {z1 : Int} (hz1 : r32 z1) {z2 : Int} (hz2 : r32 z2) {μ : GM} (hμ : gRg μ) (h : f_X12_drawn z1 z2 μ = some u) : WM G 4 μ 0 [(0, gR G 53), (1, vI z1), (2, vI z2)] [] := by
  unfold f_X12_drawn at h
  refine o_aload_n C 0 dX12_drawn_0 rfl rfl ?_
  refine o_cVV C [] mb_X12_asIs (by decide) (fun _ hu => c_X12_asIs hμ hu) rfl (Nat.le_of_ble_eq_true rfl) h mi_X12_asIs me_X12_asIs lkm_RX12_218 kt_53 rfl rfl rfl dX12_drawn_1 (fun _x1 μ2 hμ2 h => ?_)
  refine o_iconst C dX12_drawn_4 ?_
  refine o_istore_n (lv2 := [(3, vI 0), (0, gR G 53), (1, vI z1), (2, vI z2)]) C dX12_drawn_5 rfl (by decide) rfl ?_
  exact WM.sub [1, 2, 3, 0] rfl (w_X12_drawn_6 C hQ FU z1 hz1 z2 hz2 0 ⟨by decide, by decide⟩ μ2 hμ2 h)
theorem c_X12_drawn {z1 : Int} (hz1 : r32 z1) {z2 : Int} (hz2 : r32 z2) {μ : GM} (hμ : gRg μ) {u : Int × GM} (h : f_X12_drawn z1 z2 μ = some u) : MtI 4 yX12_drawn cX12_drawn 4 (some .int) (fun ad => [.ref (ad 53), vI z1, vI z2]) μ u := MtI.of pf_X12_drawn (fun _ => Nat.le_of_ble_eq_true rfl) (fun G C hQ => w_X12_drawn_0 C hQ hz1 hz2 hμ h)
def f_X12_harm (z1 : Int) (μ : GM) : Option (Int × GM) :=
  lm (gF μ 53 0 0) fun μ1 =>
  bd (f_X12_noCell z1 μ1) fun x2 μ3 =>
  if x2 = 0 then
    bd (f_X12_drawn z1 0 μ3) fun x4 μ5 =>
    bd (f_X12_drawn z1 7 μ5) fun x6 μ7 =>
    if x4 = (-10000003) then
      some ((-10000003), μ7)
    else
      if x6 = (-10000003) then
        some ((-10000003), μ7)
      else
        some ((w32 (x4 - x6)), μ7)
  else
    some ((-10000001), μ3)
set_option maxHeartbeats 4000000 in
set_option maxRecDepth 100000 in
theorem w_X12_harm_0 {G : GX} {u : Int × GM} (C : CX G 5 cX12_harm 4 RX12) (hQ : gQI G (some .int) u) {z1 : Int} (hz1 : r32 z1) {μ : GM} (hμ : gRg μ) (h : f_X12_harm z1 μ = some u) : WM G 4 μ 0 [(0, gR G 53), (1, vI z1)] [] := by
  unfold f_X12_harm at h
  refine o_aload_n C 0 dX12_harm_0 rfl rfl ?_
  refine o_iconst C dX12_harm_1 ?_
  refine o_putI (j := 0) C kt_53 rfl rfl tyX12_ok nmX12 (Nat.le_of_ble_eq_true rfl) lkf_RX12_133 rfl rfl ⟨by decide, by decide⟩ hμ dX12_harm_2 h (fun μ1 hμ1 h => ?_)
  refine o_aload_n C 0 dX12_harm_5 rfl rfl ?_
  refine o_iload_n C 1 dX12_harm_6 rfl rfl ?_
  refine o_cVI C [vI z1] mb_X12_noCell (by decide) (fun _ hu => c_X12_noCell hz1 hμ1 hu) rfl (Nat.le_of_ble_eq_true rfl) h mi_X12_noCell me_X12_noCell lkm_RX12_155 kt_53 rfl rfl rfl dX12_harm_7 (fun x2 μ3 hx2 hμ3 h => ?_)
  refine o_if_eq (tgt := 16) C hx2 dX12_harm_10 (by decide) h (fun _ h => ?_) (fun _ h => ?_)
  · refine o_aload_n C 0 dX12_harm_16 rfl rfl ?_
    refine o_iload_n C 1 dX12_harm_17 rfl rfl ?_
    refine o_iconst C dX12_harm_18 ?_
    refine o_cVI C [vI z1, vI 0] mb_X12_drawn (by decide) (fun _ hu => c_X12_drawn hz1 ⟨by decide, by decide⟩ hμ3 hu) rfl (Nat.le_of_ble_eq_true rfl) h mi_X12_drawn me_X12_drawn lkm_RX12_390 kt_53 rfl rfl rfl dX12_harm_19 (fun x4 μ5 hx4 hμ5 h => ?_)
    refine o_istore_n (lv2 := [(2, vI x4), (0, gR G 53), (1, vI z1)]) C dX12_harm_22 rfl (by decide) rfl ?_
    refine o_aload_n C 1 dX12_harm_23 rfl rfl ?_
    refine o_iload_n C 2 dX12_harm_24 rfl rfl ?_
    refine o_bipush (v := 7) C dX12_harm_25 (by decide) ?_
    refine o_cVI C [vI z1, vI 7] mb_X12_drawn (by decide) (fun _ hu => c_X12_drawn hz1 ⟨by decide, by decide⟩ hμ5 hu) rfl (Nat.le_of_ble_eq_true rfl) h mi_X12_drawn me_X12_drawn lkm_RX12_390 kt_53 rfl rfl rfl dX12_harm_27 (fun x6 μ7 hx6 hμ7 h => ?_)
    refine o_istore_n (lv2 := [(3, vI x6), (2, vI x4), (0, gR G 53), (1, vI z1)]) C dX12_harm_30 rfl (by decide) rfl ?_
    refine o_iload_n C 1 dX12_harm_31 rfl rfl ?_
    refine o_ldc (v := (-10000003)) C lkc_RX12_163 rfl dX12_harm_32 ?_
    refine o_icmp_eq (tgt := 43) C hx4 ⟨by decide, by decide⟩ dX12_harm_34 (by decide) h (fun _ h => ?_) (fun _ h => ?_)
    · refine o_ldc (v := (-10000003)) C lkc_RX12_163 rfl dX12_harm_43 ?_
      refine o_goto (tgt := 51) C dX12_harm_45 (by decide) ?_
      exact o_iret C hQ dX12_harm_51 h ⟨by decide, by decide⟩ hμ7
    · refine o_iload_n C 0 dX12_harm_37 rfl rfl ?_
      refine o_ldc (v := (-10000003)) C lkc_RX12_163 rfl dX12_harm_38 ?_
      refine o_icmp_ne (tgt := 48) C hx6 ⟨by decide, by decide⟩ dX12_harm_40 (by decide) h (fun _ h => ?_) (fun _ h => ?_)
      · refine o_iload_n C 1 dX12_harm_48 rfl rfl ?_
        refine o_iload_n C 0 dX12_harm_49 rfl rfl ?_
        refine o_isub C dX12_harm_50 ?_
        exact o_iret C hQ dX12_harm_51 h (r32_w _) hμ7
      · refine o_ldc (v := (-10000003)) C lkc_RX12_163 rfl dX12_harm_43 ?_
        refine o_goto (tgt := 51) C dX12_harm_45 (by decide) ?_
        exact o_iret C hQ dX12_harm_51 h ⟨by decide, by decide⟩ hμ7
  · refine o_ldc (v := (-10000001)) C lkc_RX12_159 rfl dX12_harm_13 ?_
    exact o_iret C hQ dX12_harm_15 h ⟨by decide, by decide⟩ hμ3
theorem c_X12_harm {z1 : Int} (hz1 : r32 z1) {μ : GM} (hμ : gRg μ) {u : Int × GM} (h : f_X12_harm z1 μ = some u) : MtI 5 yX12_harm cX12_harm 4 (some .int) (fun ad => [.ref (ad 53), vI z1]) μ u := MtI.of pf_X12_harm (fun _ => Nat.le_of_ble_eq_true rfl) (fun G C hQ => w_X12_harm_0 C hQ hz1 hμ h)
def k_X12_share_148 (kL29 : Int → Int → Int → Int → GM → Option (Int × GM)) (z1 : Int) (z2 : Int) (z3 : Int) (z4 : Int) (z5 : Int) (z7 : Int) (s0 : Int) (μ : GM) : Option (Int × GM) :=
  if z7 = 0 then
    lt (w32 (z3 + (w32 (s0 * z5)))) fun x1 =>
    lt (w32 (z4 + 1)) fun x2 =>
    kL29 z1 z2 x1 x2 μ
  else
    lt (w32 (z3 + (w32 ((w32 (-s0)) * z5)))) fun x3 =>
    lt (w32 (z4 + 1)) fun x4 =>
    kL29 z1 z2 x3 x4 μ
set_option maxHeartbeats 4000000 in
set_option maxRecDepth 100000 in
theorem w_X12_share_148 {G : GX} {u : Int × GM} (C : CX G 5 cX12_share 10 RX12) (hQ : gQI G (some .int) u) {kL29 : Int → Int → Int → Int → GM → Option (Int × GM)} (hL29 : ∀ (z1 : Int) (hz1 : r32 z1) (z2 : Int) (hz2 : r32 z2) (z3 : Int) (hz3 : r32 z3) (z4 : Int) (hz4 : r32 z4) (μ : GM) (hμ : gRg μ), kL29 z1 z2 z3 z4 μ = some u → WM G 10 μ 29 [(0, gR G 53), (1, vI z1), (2, vI z2), (3, vI z3), (4, vI z4)] []) {z1 : Int} (hz1 : r32 z1) {z2 : Int} (hz2 : r32 z2) {z3 : Int} (hz3 : r32 z3) {z4 : Int} (hz4 : r32 z4) {z5 : Int} (hz5 : r32 z5) {z7 : Int} (hz7 : r32 z7) {s0 : Int} (hs0 : r32 s0) {μ : GM} (hμ : gRg μ) (h : k_X12_share_148 kL29 z1 z2 z3 z4 z5 z7 s0 μ = some u) : WM G 10 μ 148 [(0, gR G 53), (1, vI z1), (2, vI z2), (3, vI z3), (4, vI z4), (5, vI z5), (7, vI z7)] [vI s0] := by
  unfold k_X12_share_148 at h
  refine o_istore (lv2 := [(9, vI s0), (0, gR G 53), (1, vI z1), (2, vI z2), (3, vI z3), (4, vI z4), (5, vI z5), (7, vI z7)]) C dX12_share_148 (by decide) rfl ?_
  refine o_iload_n C 4 dX12_share_150 rfl rfl ?_
  refine o_iload C 7 dX12_share_151 rfl ?_
  refine o_if_eq (tgt := 165) C hz7 dX12_share_153 (by decide) h (fun _ h => ?_) (fun _ h => ?_)
  · refine o_iload C 0 dX12_share_165 rfl ?_
    refine o_iload C 6 dX12_share_167 rfl ?_
    refine o_imul C dX12_share_169 ?_
    refine o_iadd C dX12_share_170 ?_
    refine o_lt h (r32_w _) (fun x1 hx1 h => ?_)
    refine o_istore_n (lv2 := [(3, vI x1), (9, vI s0), (0, gR G 53), (1, vI z1), (2, vI z2), (4, vI z4), (5, vI z5), (7, vI z7)]) C dX12_share_171 rfl (by decide) rfl ?_
    refine o_iinc (lv2 := fun x2 => [(4, vI x2), (3, vI x1), (9, vI s0), (0, gR G 53), (1, vI z1), (2, vI z2), (5, vI z5), (7, vI z7)]) C 5 dX12_share_172 rfl (by decide) (fun _ => rfl) h (fun x2 hx2 h => ?_)
    refine o_goto (tgt := 29) C dX12_share_175 (by decide) ?_
    exact WM.sub [3, 4, 5, 1, 0] rfl (hL29 z1 hz1 z2 hz2 x1 hx1 x2 hx2 μ hμ h)
  · refine o_iload C 0 dX12_share_156 rfl ?_
    refine o_ineg C dX12_share_158 ?_
    refine o_iload C 6 dX12_share_159 rfl ?_
    refine o_imul C dX12_share_161 ?_
    refine o_goto (tgt := 170) C dX12_share_162 (by decide) ?_
    refine o_iadd C dX12_share_170 ?_
    refine o_lt h (r32_w _) (fun x3 hx3 h => ?_)
    refine o_istore_n (lv2 := [(3, vI x3), (9, vI s0), (0, gR G 53), (1, vI z1), (2, vI z2), (4, vI z4), (5, vI z5), (7, vI z7)]) C dX12_share_171 rfl (by decide) rfl ?_
    refine o_iinc (lv2 := fun x4 => [(4, vI x4), (3, vI x3), (9, vI s0), (0, gR G 53), (1, vI z1), (2, vI z2), (5, vI z5), (7, vI z7)]) C 5 dX12_share_172 rfl (by decide) (fun _ => rfl) h (fun x4 hx4 h => ?_)
    refine o_goto (tgt := 29) C dX12_share_175 (by decide) ?_
    exact WM.sub [3, 4, 5, 1, 0] rfl (hL29 z1 hz1 z2 hz2 x3 hx3 x4 hx4 μ hμ h)
def k_X12_share_110 (kL29 : Int → Int → Int → Int → GM → Option (Int × GM)) (z1 : Int) (z2 : Int) (z3 : Int) (z4 : Int) (z5 : Int) (z7 : Int) (s0 : Int) (μ : GM) : Option (Int × GM) :=
  if (μ.2 53 18) = 1 then
    k_X12_share_148 kL29 z1 z2 z3 z4 z5 z7 6 μ
  else
    if (μ.2 53 18) = 2 then
      k_X12_share_148 kL29 z1 z2 z3 z4 z5 z7 3 μ
    else
      if s0 = 1 then
        k_X12_share_148 kL29 z1 z2 z3 z4 z5 z7 1 μ
      else
        k_X12_share_148 kL29 z1 z2 z3 z4 z5 z7 2 μ
set_option maxHeartbeats 4000000 in
set_option maxRecDepth 100000 in
theorem w_X12_share_110 {G : GX} {u : Int × GM} (C : CX G 5 cX12_share 10 RX12) (hQ : gQI G (some .int) u) {kL29 : Int → Int → Int → Int → GM → Option (Int × GM)} (hL29 : ∀ (z1 : Int) (hz1 : r32 z1) (z2 : Int) (hz2 : r32 z2) (z3 : Int) (hz3 : r32 z3) (z4 : Int) (hz4 : r32 z4) (μ : GM) (hμ : gRg μ), kL29 z1 z2 z3 z4 μ = some u → WM G 10 μ 29 [(0, gR G 53), (1, vI z1), (2, vI z2), (3, vI z3), (4, vI z4)] []) {z1 : Int} (hz1 : r32 z1) {z2 : Int} (hz2 : r32 z2) {z3 : Int} (hz3 : r32 z3) {z4 : Int} (hz4 : r32 z4) {z5 : Int} (hz5 : r32 z5) {z7 : Int} (hz7 : r32 z7) {s0 : Int} (hs0 : r32 s0) {μ : GM} (hμ : gRg μ) (h : k_X12_share_110 kL29 z1 z2 z3 z4 z5 z7 s0 μ = some u) : WM G 10 μ 110 [(0, gR G 53), (1, vI z1), (2, vI z2), (3, vI z3), (4, vI z4), (5, vI z5), (7, vI z7)] [vI s0] := by
  unfold k_X12_share_110 at h
  refine o_istore (lv2 := [(8, vI s0), (0, gR G 53), (1, vI z1), (2, vI z2), (3, vI z3), (4, vI z4), (5, vI z5), (7, vI z7)]) C dX12_share_110 (by decide) rfl ?_
  refine o_aload_n C 1 dX12_share_112 rfl rfl ?_
  refine o_getI (j := 18) C kt_53 rfl rfl (Nat.le_of_ble_eq_true rfl) lkf_RX12_144 dX12_share_113 ?_
  refine o_iconst C dX12_share_116 ?_
  refine o_icmp_ne (tgt := 125) C (hμ.fi kt_53 rfl (by decide)) ⟨by decide, by decide⟩ dX12_share_117 (by decide) h (fun _ h => ?_) (fun _ h => ?_)
  · refine o_aload_n C 1 dX12_share_125 rfl rfl ?_
    refine o_getI (j := 18) C kt_53 rfl rfl (Nat.le_of_ble_eq_true rfl) lkf_RX12_144 dX12_share_126 ?_
    refine o_iconst C dX12_share_129 ?_
    refine o_icmp_ne (tgt := 137) C (hμ.fi kt_53 rfl (by decide)) ⟨by decide, by decide⟩ dX12_share_130 (by decide) h (fun _ h => ?_) (fun _ h => ?_)
    · refine o_iload C 0 dX12_share_137 rfl ?_
      refine o_iconst C dX12_share_139 ?_
      refine o_icmp_ne (tgt := 147) C hs0 ⟨by decide, by decide⟩ dX12_share_140 (by decide) h (fun _ h => ?_) (fun _ h => ?_)
      · refine o_iconst C dX12_share_147 ?_
        exact WM.sub [1, 2, 3, 4, 5, 6, 7] rfl (w_X12_share_148 C hQ hL29 hz1 hz2 hz3 hz4 hz5 hz7 ⟨by decide, by decide⟩ hμ h)
      · refine o_iconst C dX12_share_143 ?_
        refine o_goto (tgt := 148) C dX12_share_144 (by decide) ?_
        exact WM.sub [1, 2, 3, 4, 5, 6, 7] rfl (w_X12_share_148 C hQ hL29 hz1 hz2 hz3 hz4 hz5 hz7 ⟨by decide, by decide⟩ hμ h)
    · refine o_iconst C dX12_share_133 ?_
      refine o_goto (tgt := 148) C dX12_share_134 (by decide) ?_
      exact WM.sub [1, 2, 3, 4, 5, 6, 7] rfl (w_X12_share_148 C hQ hL29 hz1 hz2 hz3 hz4 hz5 hz7 ⟨by decide, by decide⟩ hμ h)
  · refine o_bipush (v := 6) C dX12_share_120 (by decide) ?_
    refine o_goto (tgt := 148) C dX12_share_122 (by decide) ?_
    exact WM.sub [1, 2, 3, 4, 5, 6, 7] rfl (w_X12_share_148 C hQ hL29 hz1 hz2 hz3 hz4 hz5 hz7 ⟨by decide, by decide⟩ hμ h)
def k_X12_share_94 (kL29 : Int → Int → Int → Int → GM → Option (Int × GM)) (z1 : Int) (z2 : Int) (z3 : Int) (z4 : Int) (z5 : Int) (z6 : Int) (s0 : Int) (μ : GM) : Option (Int × GM) :=
  if s0 = 0 then
    k_X12_share_110 kL29 z1 z2 z3 z4 z5 s0 z6 μ
  else
    k_X12_share_110 kL29 z1 z2 z3 z4 z5 s0 (w32 (z6 - 1)) μ
set_option maxHeartbeats 4000000 in
set_option maxRecDepth 100000 in
theorem w_X12_share_94 {G : GX} {u : Int × GM} (C : CX G 5 cX12_share 10 RX12) (hQ : gQI G (some .int) u) {kL29 : Int → Int → Int → Int → GM → Option (Int × GM)} (hL29 : ∀ (z1 : Int) (hz1 : r32 z1) (z2 : Int) (hz2 : r32 z2) (z3 : Int) (hz3 : r32 z3) (z4 : Int) (hz4 : r32 z4) (μ : GM) (hμ : gRg μ), kL29 z1 z2 z3 z4 μ = some u → WM G 10 μ 29 [(0, gR G 53), (1, vI z1), (2, vI z2), (3, vI z3), (4, vI z4)] []) {z1 : Int} (hz1 : r32 z1) {z2 : Int} (hz2 : r32 z2) {z3 : Int} (hz3 : r32 z3) {z4 : Int} (hz4 : r32 z4) {z5 : Int} (hz5 : r32 z5) {z6 : Int} (hz6 : r32 z6) {s0 : Int} (hs0 : r32 s0) {μ : GM} (hμ : gRg μ) (h : k_X12_share_94 kL29 z1 z2 z3 z4 z5 z6 s0 μ = some u) : WM G 10 μ 94 [(0, gR G 53), (1, vI z1), (2, vI z2), (3, vI z3), (4, vI z4), (5, vI z5), (6, vI z6)] [vI s0] := by
  unfold k_X12_share_94 at h
  refine o_istore (lv2 := [(7, vI s0), (0, gR G 53), (1, vI z1), (2, vI z2), (3, vI z3), (4, vI z4), (5, vI z5), (6, vI z6)]) C dX12_share_94 (by decide) rfl ?_
  refine o_iload C 0 dX12_share_96 rfl ?_
  refine o_if_eq (tgt := 108) C hs0 dX12_share_98 (by decide) h (fun _ h => ?_) (fun _ h => ?_)
  · refine o_iload C 7 dX12_share_108 rfl ?_
    exact WM.sub [1, 2, 3, 4, 5, 6, 0] rfl (w_X12_share_110 C hQ hL29 hz1 hz2 hz3 hz4 hz5 hs0 hz6 hμ h)
  · refine o_iload C 7 dX12_share_101 rfl ?_
    refine o_iconst C dX12_share_103 ?_
    refine o_isub C dX12_share_104 ?_
    refine o_goto (tgt := 110) C dX12_share_105 (by decide) ?_
    exact WM.sub [1, 2, 3, 4, 5, 6, 0] rfl (w_X12_share_110 C hQ hL29 hz1 hz2 hz3 hz4 hz5 hs0 (r32_w _) hμ h)
def k_X12_share_29 : Nat → Int → Int → Int → Int → GM → Option (Int × GM)
  | 0, _, _, _, _, _ => none
  | n + 1, z1, z2, z3, z4, μ =>
    if z4 < (gshl 1 (μ.2 53 18)) then
      bd (f_X12_drawn z1 z4 μ) fun x1 μ2 =>
      if x1 = (-10000003) then
        some ((-10000003), μ2)
      else
        lt (w32 ((w32 ((gand z4 1) + (gand (gshr z4 1) 1))) + (gand (gshr z4 2) 1))) fun x3 =>
        if (gand (gshr z4 z2) 1) = 1 then
          k_X12_share_94 (k_X12_share_29 n) z1 z2 z3 z4 x1 x3 1 μ2
        else
          k_X12_share_94 (k_X12_share_29 n) z1 z2 z3 z4 x1 x3 0 μ2
    else
      some (z3, μ)
set_option maxHeartbeats 4000000 in
set_option maxRecDepth 100000 in
theorem w_X12_share_29 {G : GX} {u : Int × GM} (C : CX G 5 cX12_share 10 RX12) (hQ : gQI G (some .int) u) : ∀ (n : Nat) (z1 : Int) (hz1 : r32 z1) (z2 : Int) (hz2 : r32 z2) (z3 : Int) (hz3 : r32 z3) (z4 : Int) (hz4 : r32 z4) (μ : GM) (hμ : gRg μ), k_X12_share_29 n z1 z2 z3 z4 μ = some u → WM G 10 μ 29 [(0, gR G 53), (1, vI z1), (2, vI z2), (3, vI z3), (4, vI z4)] [] := by
  intro n
  induction n with
  | zero =>
    intro z1 hz1 z2 hz2 z3 hz3 z4 hz4 μ hμ h
    cases h
  | succ n ih =>
    intro z1 hz1 z2 hz2 z3 hz3 z4 hz4 μ hμ h
    rw [k_X12_share_29] at h
    refine o_iload C 4 dX12_share_29 rfl ?_
    refine o_iconst C dX12_share_31 ?_
    refine o_aload_n C 0 dX12_share_32 rfl rfl ?_
    refine o_getI (j := 18) C kt_53 rfl rfl (Nat.le_of_ble_eq_true rfl) lkf_RX12_144 dX12_share_33 ?_
    refine o_ishl C dX12_share_36 ?_
    refine o_icmp_ge (tgt := 178) C hz4 (r32_toInt _) dX12_share_37 (by decide) h (fun _ h => ?_) (fun _ h => ?_)
    · refine o_iload_n C 3 dX12_share_178 rfl rfl ?_
      exact o_iret C hQ dX12_share_179 h hz3 hμ
    · refine o_aload_n C 0 dX12_share_40 rfl rfl ?_
      refine o_iload_n C 1 dX12_share_41 rfl rfl ?_
      refine o_iload C 4 dX12_share_42 rfl ?_
      refine o_cVI C [vI z1, vI z4] mb_X12_drawn (by decide) (fun _ hu => c_X12_drawn hz1 hz4 hμ hu) rfl (Nat.le_of_ble_eq_true rfl) h mi_X12_drawn me_X12_drawn lkm_RX12_390 kt_53 rfl rfl rfl dX12_share_44 (fun x1 μ2 hx1 hμ2 h => ?_)
      refine o_istore (lv2 := [(5, vI x1), (0, gR G 53), (1, vI z1), (2, vI z2), (3, vI z3), (4, vI z4)]) C dX12_share_47 (by decide) rfl ?_
      refine o_iload C 0 dX12_share_49 rfl ?_
      refine o_ldc (v := (-10000003)) C lkc_RX12_163 rfl dX12_share_51 ?_
      refine o_icmp_ne (tgt := 59) C hx1 ⟨by decide, by decide⟩ dX12_share_53 (by decide) h (fun _ h => ?_) (fun _ h => ?_)
      · refine o_iload C 5 dX12_share_59 rfl ?_
        refine o_iconst C dX12_share_61 ?_
        refine o_iand C dX12_share_62 ?_
        refine o_iload C 5 dX12_share_63 rfl ?_
        refine o_iconst C dX12_share_65 ?_
        refine o_ishr C dX12_share_66 ?_
        refine o_iconst C dX12_share_67 ?_
        refine o_iand C dX12_share_68 ?_
        refine o_iadd C dX12_share_69 ?_
        refine o_iload C 5 dX12_share_70 rfl ?_
        refine o_iconst C dX12_share_72 ?_
        refine o_ishr C dX12_share_73 ?_
        refine o_iconst C dX12_share_74 ?_
        refine o_iand C dX12_share_75 ?_
        refine o_iadd C dX12_share_76 ?_
        refine o_lt h (r32_w _) (fun x3 hx3 h => ?_)
        refine o_istore (lv2 := [(6, vI x3), (5, vI x1), (0, gR G 53), (1, vI z1), (2, vI z2), (3, vI z3), (4, vI z4)]) C dX12_share_77 (by decide) rfl ?_
        refine o_iload C 6 dX12_share_79 rfl ?_
        refine o_iload_n C 4 dX12_share_81 rfl rfl ?_
        refine o_ishr C dX12_share_82 ?_
        refine o_iconst C dX12_share_83 ?_
        refine o_iand C dX12_share_84 ?_
        refine o_iconst C dX12_share_85 ?_
        refine o_icmp_ne (tgt := 93) C (r32_toInt _) ⟨by decide, by decide⟩ dX12_share_86 (by decide) h (fun _ h => ?_) (fun _ h => ?_)
        · refine o_iconst C dX12_share_93 ?_
          exact WM.sub [2, 3, 4, 5, 6, 1, 0] rfl (w_X12_share_94 C hQ ih hz1 hz2 hz3 hz4 hx1 hx3 ⟨by decide, by decide⟩ hμ2 h)
        · refine o_iconst C dX12_share_89 ?_
          refine o_goto (tgt := 94) C dX12_share_90 (by decide) ?_
          exact WM.sub [2, 3, 4, 5, 6, 1, 0] rfl (w_X12_share_94 C hQ ih hz1 hz2 hz3 hz4 hx1 hx3 ⟨by decide, by decide⟩ hμ2 h)
      · refine o_ldc (v := (-10000003)) C lkc_RX12_163 rfl dX12_share_56 ?_
        exact o_iret C hQ dX12_share_58 h ⟨by decide, by decide⟩ hμ2
def f_X12_share (z1 : Int) (z2 : Int) (μ : GM) : Option (Int × GM) :=
  lm (gF μ 53 0 0) fun μ1 =>
  bd (f_X12_noCell z1 μ1) fun x2 μ3 =>
  if x2 = 0 then
    bd (f_X12_noWell z2 μ3) fun x4 μ5 =>
    if x4 = 0 then
      k_X12_share_29 FU z1 z2 0 0 μ5
    else
      some ((-10000001), μ5)
  else
    some ((-10000001), μ3)
set_option maxHeartbeats 4000000 in
set_option maxRecDepth 100000 in
theorem w_X12_share_0 {G : GX} {u : Int × GM} (C : CX G 5 cX12_share 10 RX12) (hQ : gQI G (some .int) u) {z1 : Int} (hz1 : r32 z1) {z2 : Int} (hz2 : r32 z2) {μ : GM} (hμ : gRg μ) (h : f_X12_share z1 z2 μ = some u) : WM G 10 μ 0 [(0, gR G 53), (1, vI z1), (2, vI z2)] [] := by
  unfold f_X12_share at h
  refine o_aload_n C 0 dX12_share_0 rfl rfl ?_
  refine o_iconst C dX12_share_1 ?_
  refine o_putI (j := 0) C kt_53 rfl rfl tyX12_ok nmX12 (Nat.le_of_ble_eq_true rfl) lkf_RX12_133 rfl rfl ⟨by decide, by decide⟩ hμ dX12_share_2 h (fun μ1 hμ1 h => ?_)
  refine o_aload_n C 0 dX12_share_5 rfl rfl ?_
  refine o_iload_n C 1 dX12_share_6 rfl rfl ?_
  refine o_cVI C [vI z1] mb_X12_noCell (by decide) (fun _ hu => c_X12_noCell hz1 hμ1 hu) rfl (Nat.le_of_ble_eq_true rfl) h mi_X12_noCell me_X12_noCell lkm_RX12_155 kt_53 rfl rfl rfl dX12_share_7 (fun x2 μ3 hx2 hμ3 h => ?_)
  refine o_if_ne (tgt := 21) C hx2 dX12_share_10 (by decide) h (fun _ h => ?_) (fun _ h => ?_)
  · refine o_ldc (v := (-10000001)) C lkc_RX12_159 rfl dX12_share_21 ?_
    exact o_iret C hQ dX12_share_23 h ⟨by decide, by decide⟩ hμ3
  · refine o_aload_n C 0 dX12_share_13 rfl rfl ?_
    refine o_iload_n C 2 dX12_share_14 rfl rfl ?_
    refine o_cVI C [vI z2] mb_X12_noWell (by decide) (fun _ hu => c_X12_noWell hz2 hμ3 hu) rfl (Nat.le_of_ble_eq_true rfl) h mi_X12_noWell me_X12_noWell lkm_RX12_175 kt_53 rfl rfl rfl dX12_share_15 (fun x4 μ5 hx4 hμ5 h => ?_)
    refine o_if_eq (tgt := 24) C hx4 dX12_share_18 (by decide) h (fun _ h => ?_) (fun _ h => ?_)
    · refine o_iconst C dX12_share_24 ?_
      refine o_istore_n (lv2 := [(3, vI 0), (0, gR G 53), (1, vI z1), (2, vI z2)]) C dX12_share_25 rfl (by decide) rfl ?_
      refine o_iconst C dX12_share_26 ?_
      refine o_istore (lv2 := [(4, vI 0), (3, vI 0), (0, gR G 53), (1, vI z1), (2, vI z2)]) C dX12_share_27 (by decide) rfl ?_
      exact WM.sub [2, 3, 4, 1, 0] rfl (w_X12_share_29 C hQ FU z1 hz1 z2 hz2 0 ⟨by decide, by decide⟩ 0 ⟨by decide, by decide⟩ μ5 hμ5 h)
    · refine o_ldc (v := (-10000001)) C lkc_RX12_159 rfl dX12_share_21 ?_
      exact o_iret C hQ dX12_share_23 h ⟨by decide, by decide⟩ hμ5
theorem c_X12_share {z1 : Int} (hz1 : r32 z1) {z2 : Int} (hz2 : r32 z2) {μ : GM} (hμ : gRg μ) {u : Int × GM} (h : f_X12_share z1 z2 μ = some u) : MtI 5 yX12_share cX12_share 10 (some .int) (fun ad => [.ref (ad 53), vI z1, vI z2]) μ u := MtI.of pf_X12_share (fun _ => Nat.le_of_ble_eq_true rfl) (fun G C hQ => w_X12_share_0 C hQ hz1 hz2 hμ h)
def k_X12_count_48 : Nat → Int → Int → Int → Int → GM → Option (Int × GM)
  | 0, _, _, _, _, _ => none
  | n + 1, z1, z2, z3, z4, μ =>
    if z4 < (μ.2 53 18) then
      ck (0 ≤ z4 ∧ z4 < 3) (
      lt (w32 (z3 + (μ.1 70 z4))) fun x1 =>
      lt (w32 (z4 + 1)) fun x2 =>
      k_X12_count_48 n z1 z2 x1 x2 μ)
    else
      if z1 = 0 then
        some ((μ.2 53 1), μ)
      else if z1 = 1 then
        some ((μ.2 53 5), μ)
      else if z1 = 2 then
        some ((μ.2 53 9), μ)
      else if z1 = 3 then
        some ((μ.2 53 14), μ)
      else if z1 = 4 then
        some ((μ.2 53 18), μ)
      else if z1 = 5 then
        some ((μ.2 53 37), μ)
      else if z1 = 6 then
        some ((μ.2 53 44), μ)
      else if z1 = 7 then
        some (z2, μ)
      else if z1 = 8 then
        some (z3, μ)
      else some ((-10000002), μ)
set_option maxHeartbeats 4000000 in
set_option maxRecDepth 100000 in
theorem w_X12_count_48 {G : GX} {u : Int × GM} (C : CX G 0 cX12_count 5 RX12) (hQ : gQI G (some .int) u) : ∀ (n : Nat) (z1 : Int) (hz1 : r32 z1) (z2 : Int) (hz2 : r32 z2) (z3 : Int) (hz3 : r32 z3) (z4 : Int) (hz4 : r32 z4) (μ : GM) (hμ : gRg μ), k_X12_count_48 n z1 z2 z3 z4 μ = some u → WM G 5 μ 48 [(0, gR G 53), (1, vI z1), (2, vI z2), (3, vI z3), (4, vI z4)] [] := by
  intro n
  induction n with
  | zero =>
    intro z1 hz1 z2 hz2 z3 hz3 z4 hz4 μ hμ h
    cases h
  | succ n ih =>
    intro z1 hz1 z2 hz2 z3 hz3 z4 hz4 μ hμ h
    rw [k_X12_count_48] at h
    refine o_iload C 4 dX12_count_48 rfl ?_
    refine o_aload_n C 0 dX12_count_50 rfl rfl ?_
    refine o_getI (j := 18) C kt_53 rfl rfl (Nat.le_of_ble_eq_true rfl) lkf_RX12_144 dX12_count_51 ?_
    refine o_icmp_ge (tgt := 73) C hz4 (hμ.fi kt_53 rfl (by decide)) dX12_count_54 (by decide) h (fun _ h => ?_) (fun _ h => ?_)
    · refine o_iload_n C 1 dX12_count_73 rfl rfl ?_
      rcases ite_some h with ⟨e0, h⟩ | ⟨e0, h⟩
      · refine o_tableIn (tgt := 124) C e0 ⟨by decide, by decide⟩ dX12_count_74 (by decide) (by decide) rfl (by decide) ?_
        refine o_aload_n C 0 dX12_count_124 rfl rfl ?_
        refine o_getI (j := 1) C kt_53 rfl rfl (Nat.le_of_ble_eq_true rfl) lkf_RX12_137 dX12_count_125 ?_
        exact o_iret C hQ dX12_count_128 h (hμ.fi kt_53 rfl (by decide)) hμ
      · rcases ite_some h with ⟨e1, h⟩ | ⟨e1, h⟩
        · refine o_tableIn (tgt := 129) C e1 ⟨by decide, by decide⟩ dX12_count_74 (by decide) (by decide) rfl (by decide) ?_
          refine o_aload_n C 0 dX12_count_129 rfl rfl ?_
          refine o_getI (j := 5) C kt_53 rfl rfl (Nat.le_of_ble_eq_true rfl) lkf_RX12_164 dX12_count_130 ?_
          exact o_iret C hQ dX12_count_133 h (hμ.fi kt_53 rfl (by decide)) hμ
        · rcases ite_some h with ⟨e2, h⟩ | ⟨e2, h⟩
          · refine o_tableIn (tgt := 134) C e2 ⟨by decide, by decide⟩ dX12_count_74 (by decide) (by decide) rfl (by decide) ?_
            refine o_aload_n C 0 dX12_count_134 rfl rfl ?_
            refine o_getI (j := 9) C kt_53 rfl rfl (Nat.le_of_ble_eq_true rfl) lkf_RX12_169 dX12_count_135 ?_
            exact o_iret C hQ dX12_count_138 h (hμ.fi kt_53 rfl (by decide)) hμ
          · rcases ite_some h with ⟨e3, h⟩ | ⟨e3, h⟩
            · refine o_tableIn (tgt := 139) C e3 ⟨by decide, by decide⟩ dX12_count_74 (by decide) (by decide) rfl (by decide) ?_
              refine o_aload_n C 0 dX12_count_139 rfl rfl ?_
              refine o_getI (j := 14) C kt_53 rfl rfl (Nat.le_of_ble_eq_true rfl) lkf_RX12_172 dX12_count_140 ?_
              exact o_iret C hQ dX12_count_143 h (hμ.fi kt_53 rfl (by decide)) hμ
            · rcases ite_some h with ⟨e4, h⟩ | ⟨e4, h⟩
              · refine o_tableIn (tgt := 144) C e4 ⟨by decide, by decide⟩ dX12_count_74 (by decide) (by decide) rfl (by decide) ?_
                refine o_aload_n C 0 dX12_count_144 rfl rfl ?_
                refine o_getI (j := 18) C kt_53 rfl rfl (Nat.le_of_ble_eq_true rfl) lkf_RX12_144 dX12_count_145 ?_
                exact o_iret C hQ dX12_count_148 h (hμ.fi kt_53 rfl (by decide)) hμ
              · rcases ite_some h with ⟨e5, h⟩ | ⟨e5, h⟩
                · refine o_tableIn (tgt := 149) C e5 ⟨by decide, by decide⟩ dX12_count_74 (by decide) (by decide) rfl (by decide) ?_
                  refine o_aload_n C 0 dX12_count_149 rfl rfl ?_
                  refine o_getI (j := 37) C kt_53 rfl rfl (Nat.le_of_ble_eq_true rfl) lkf_RX12_319 dX12_count_150 ?_
                  exact o_iret C hQ dX12_count_153 h (hμ.fi kt_53 rfl (by decide)) hμ
                · rcases ite_some h with ⟨e6, h⟩ | ⟨e6, h⟩
                  · refine o_tableIn (tgt := 154) C e6 ⟨by decide, by decide⟩ dX12_count_74 (by decide) (by decide) rfl (by decide) ?_
                    refine o_aload_n C 0 dX12_count_154 rfl rfl ?_
                    refine o_getI (j := 44) C kt_53 rfl rfl (Nat.le_of_ble_eq_true rfl) lkf_RX12_340 dX12_count_155 ?_
                    exact o_iret C hQ dX12_count_158 h (hμ.fi kt_53 rfl (by decide)) hμ
                  · rcases ite_some h with ⟨e7, h⟩ | ⟨e7, h⟩
                    · refine o_tableIn (tgt := 159) C e7 ⟨by decide, by decide⟩ dX12_count_74 (by decide) (by decide) rfl (by decide) ?_
                      refine o_iload_n C 2 dX12_count_159 rfl rfl ?_
                      exact o_iret C hQ dX12_count_160 h hz2 hμ
                    · rcases ite_some h with ⟨e8, h⟩ | ⟨e8, h⟩
                      · refine o_tableIn (tgt := 161) C e8 ⟨by decide, by decide⟩ dX12_count_74 (by decide) (by decide) rfl (by decide) ?_
                        refine o_iload_n C 3 dX12_count_161 rfl rfl ?_
                        exact o_iret C hQ dX12_count_162 h hz3 hμ
                      · refine o_tableOut (tgt := 163) C hz1 dX12_count_74 (by omega) (by decide) ?_
                        refine o_ldc (v := (-10000002)) C lkc_RX12_153 rfl dX12_count_163 ?_
                        exact o_iret C hQ dX12_count_165 h ⟨by decide, by decide⟩ hμ
    · refine o_iload_n C 3 dX12_count_57 rfl rfl ?_
      refine o_aload_n C 0 dX12_count_58 rfl rfl ?_
      refine o_getR (j := 22) C kt_53 rfl rfl (Nat.le_of_ble_eq_true rfl) lkf_RX12_58 dX12_count_59 ?_
      refine o_iload C 4 dX12_count_62 rfl ?_
      refine o_iald C kt_70 rfl hz4 dX12_count_64 h (fun h => ?_)
      refine o_iadd C dX12_count_65 ?_
      refine o_lt h (r32_w _) (fun x1 hx1 h => ?_)
      refine o_istore_n (lv2 := [(3, vI x1), (0, gR G 53), (1, vI z1), (2, vI z2), (4, vI z4)]) C dX12_count_66 rfl (by decide) rfl ?_
      refine o_iinc (lv2 := fun x2 => [(4, vI x2), (3, vI x1), (0, gR G 53), (1, vI z1), (2, vI z2)]) C 4 dX12_count_67 rfl (by decide) (fun _ => rfl) h (fun x2 hx2 h => ?_)
      refine o_goto (tgt := 48) C dX12_count_70 (by decide) ?_
      exact WM.sub [2, 3, 4, 1, 0] rfl (ih z1 hz1 z2 hz2 x1 hx1 x2 hx2 μ hμ h)
def k_X12_count_12 : Nat → Int → Int → Int → Int → GM → Option (Int × GM)
  | 0, _, _, _, _, _ => none
  | n + 1, z1, z2, z3, z4, μ =>
    if z4 < (μ.2 53 1) then
      ck (0 ≤ z4 ∧ z4 < 6) (
      if (μ.1 84 z4) = 0 then
        lt (w32 (z2 + 0)) fun x1 =>
        lt (w32 (z4 + 1)) fun x2 =>
        k_X12_count_12 n z1 x1 z3 x2 μ
      else
        lt (w32 (z2 + 1)) fun x3 =>
        lt (w32 (z4 + 1)) fun x4 =>
        k_X12_count_12 n z1 x3 z3 x4 μ)
    else
      k_X12_count_48 FU z1 z2 z3 0 μ
set_option maxHeartbeats 4000000 in
set_option maxRecDepth 100000 in
theorem w_X12_count_12 {G : GX} {u : Int × GM} (C : CX G 0 cX12_count 5 RX12) (hQ : gQI G (some .int) u) : ∀ (n : Nat) (z1 : Int) (hz1 : r32 z1) (z2 : Int) (hz2 : r32 z2) (z3 : Int) (hz3 : r32 z3) (z4 : Int) (hz4 : r32 z4) (μ : GM) (hμ : gRg μ), k_X12_count_12 n z1 z2 z3 z4 μ = some u → WM G 5 μ 12 [(0, gR G 53), (1, vI z1), (2, vI z2), (3, vI z3), (4, vI z4)] [] := by
  intro n
  induction n with
  | zero =>
    intro z1 hz1 z2 hz2 z3 hz3 z4 hz4 μ hμ h
    cases h
  | succ n ih =>
    intro z1 hz1 z2 hz2 z3 hz3 z4 hz4 μ hμ h
    rw [k_X12_count_12] at h
    refine o_iload C 4 dX12_count_12 rfl ?_
    refine o_aload_n C 0 dX12_count_14 rfl rfl ?_
    refine o_getI (j := 1) C kt_53 rfl rfl (Nat.le_of_ble_eq_true rfl) lkf_RX12_137 dX12_count_15 ?_
    refine o_icmp_ge (tgt := 45) C hz4 (hμ.fi kt_53 rfl (by decide)) dX12_count_18 (by decide) h (fun _ h => ?_) (fun _ h => ?_)
    · refine o_iconst C dX12_count_45 ?_
      refine o_istore (lv2 := [(4, vI 0), (0, gR G 53), (1, vI z1), (2, vI z2), (3, vI z3)]) C dX12_count_46 (by decide) rfl ?_
      exact WM.sub [1, 2, 3, 4, 0] rfl (w_X12_count_48 C hQ FU z1 hz1 z2 hz2 z3 hz3 0 ⟨by decide, by decide⟩ μ hμ h)
    · refine o_iload_n C 2 dX12_count_21 rfl rfl ?_
      refine o_aload_n C 0 dX12_count_22 rfl rfl ?_
      refine o_getR (j := 40) C kt_53 rfl rfl (Nat.le_of_ble_eq_true rfl) lkf_RX12_101 dX12_count_23 ?_
      refine o_iload C 4 dX12_count_26 rfl ?_
      refine o_zald C kt_84 rfl hz4 dX12_count_28 h (fun h => ?_)
      refine o_if_eq (tgt := 36) C (hμ.i kt_84 (by decide) _) dX12_count_29 (by decide) h (fun _ h => ?_) (fun _ h => ?_)
      · refine o_iconst C dX12_count_36 ?_
        refine o_iadd C dX12_count_37 ?_
        refine o_lt h (r32_w _) (fun x1 hx1 h => ?_)
        refine o_istore_n (lv2 := [(2, vI x1), (0, gR G 53), (1, vI z1), (3, vI z3), (4, vI z4)]) C dX12_count_38 rfl (by decide) rfl ?_
        refine o_iinc (lv2 := fun x2 => [(4, vI x2), (2, vI x1), (0, gR G 53), (1, vI z1), (3, vI z3)]) C 4 dX12_count_39 rfl (by decide) (fun _ => rfl) h (fun x2 hx2 h => ?_)
        refine o_goto (tgt := 12) C dX12_count_42 (by decide) ?_
        exact WM.sub [2, 3, 1, 4, 0] rfl (ih z1 hz1 x1 hx1 z3 hz3 x2 hx2 μ hμ h)
      · refine o_iconst C dX12_count_32 ?_
        refine o_goto (tgt := 37) C dX12_count_33 (by decide) ?_
        refine o_iadd C dX12_count_37 ?_
        refine o_lt h (r32_w _) (fun x3 hx3 h => ?_)
        refine o_istore_n (lv2 := [(2, vI x3), (0, gR G 53), (1, vI z1), (3, vI z3), (4, vI z4)]) C dX12_count_38 rfl (by decide) rfl ?_
        refine o_iinc (lv2 := fun x4 => [(4, vI x4), (2, vI x3), (0, gR G 53), (1, vI z1), (3, vI z3)]) C 4 dX12_count_39 rfl (by decide) (fun _ => rfl) h (fun x4 hx4 h => ?_)
        refine o_goto (tgt := 12) C dX12_count_42 (by decide) ?_
        exact WM.sub [2, 3, 1, 4, 0] rfl (ih z1 hz1 x3 hx3 z3 hz3 x4 hx4 μ hμ h)
def f_X12_count (z1 : Int) (μ : GM) : Option (Int × GM) :=
  lm (gF μ 53 0 0) fun μ1 =>
  k_X12_count_12 FU z1 0 0 0 μ1
set_option maxHeartbeats 4000000 in
set_option maxRecDepth 100000 in
theorem w_X12_count_0 {G : GX} {u : Int × GM} (C : CX G 0 cX12_count 5 RX12) (hQ : gQI G (some .int) u) {z1 : Int} (hz1 : r32 z1) {μ : GM} (hμ : gRg μ) (h : f_X12_count z1 μ = some u) : WM G 5 μ 0 [(0, gR G 53), (1, vI z1)] [] := by
  unfold f_X12_count at h
  refine o_aload_n C 0 dX12_count_0 rfl rfl ?_
  refine o_iconst C dX12_count_1 ?_
  refine o_putI (j := 0) C kt_53 rfl rfl tyX12_ok nmX12 (Nat.le_of_ble_eq_true rfl) lkf_RX12_133 rfl rfl ⟨by decide, by decide⟩ hμ dX12_count_2 h (fun μ1 hμ1 h => ?_)
  refine o_iconst C dX12_count_5 ?_
  refine o_istore_n (lv2 := [(2, vI 0), (0, gR G 53), (1, vI z1)]) C dX12_count_6 rfl (by decide) rfl ?_
  refine o_iconst C dX12_count_7 ?_
  refine o_istore_n (lv2 := [(3, vI 0), (2, vI 0), (0, gR G 53), (1, vI z1)]) C dX12_count_8 rfl (by decide) rfl ?_
  refine o_iconst C dX12_count_9 ?_
  refine o_istore (lv2 := [(4, vI 0), (3, vI 0), (2, vI 0), (0, gR G 53), (1, vI z1)]) C dX12_count_10 (by decide) rfl ?_
  exact WM.sub [3, 4, 2, 1, 0] rfl (w_X12_count_12 C hQ FU z1 hz1 0 ⟨by decide, by decide⟩ 0 ⟨by decide, by decide⟩ 0 ⟨by decide, by decide⟩ μ1 hμ1 h)
theorem c_X12_count {z1 : Int} (hz1 : r32 z1) {μ : GM} (hμ : gRg μ) {u : Int × GM} (h : f_X12_count z1 μ = some u) : MtI 0 yX12_count cX12_count 5 (some .int) (fun ad => [.ref (ad 53), vI z1]) μ u := MtI.of pf_X12_count (fun _ => Nat.le_of_ble_eq_true rfl) (fun G C hQ => w_X12_count_0 C hQ hz1 hμ h)
