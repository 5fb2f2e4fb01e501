def f_X8_deliver (z1 : Int) (z2 : Int) (z3 : Int) (μ : GM) : Option (Int × GM) :=
  ck (0 ≤ z1 ∧ z1 < 20) (
  bd (f_X2_hasCell (μ.1 24 z1) μ) fun x1 μ2 =>
  if x1 = 0 then
    ck (0 ≤ z1 ∧ z1 < 20) (
    if (μ2.1 24 z1) = z3 then
      some (z2, μ2)
    else
      some (0, μ2))
  else
    ck (0 ≤ z1 ∧ z1 < 20) (
    ck (0 ≤ (μ2.1 24 z1) ∧ (μ2.1 24 z1) < 6) (
    ck (0 ≤ (μ2.1 24 z1) ∧ (μ2.1 24 z1) < 6) (lm (gA μ2 26 (μ2.1 24 z1) (w32 ((μ2.1 26 (μ2.1 24 z1)) + z2))) fun μ3 =>
    some (0, μ3)))))
set_option maxHeartbeats 4000000 in
set_option maxRecDepth 100000 in
theorem w_X8_deliver_0 {G : GX} {u : Int × GM} (C : CX G 1 cX8_deliver 4 RX8) (hQ : gQI G (some .int) u) {z1 : Int} (hz1 : r32 z1) {z2 : Int} (hz2 : r32 z2) {z3 : Int} (hz3 : r32 z3) {μ : GM} (hμ : gRg μ) (h : f_X8_deliver z1 z2 z3 μ = some u) : WM G 4 μ 0 [(0, gR G 23), (1, vI z1), (2, vI z2), (3, vI z3)] [] := by
  unfold f_X8_deliver at h
  refine o_aload_n C 0 dX8_deliver_0 rfl rfl ?_
  refine o_getR (j := 0) C kt_23 rfl rfl (Nat.le_of_ble_eq_true rfl) lkf_RX8_26 dX8_deliver_1 ?_
  refine o_aload_n C 0 dX8_deliver_4 rfl rfl ?_
  refine o_getR (j := 3) C kt_23 rfl rfl (Nat.le_of_ble_eq_true rfl) lkf_RX8_15 dX8_deliver_5 ?_
  refine o_iload_n C 1 dX8_deliver_8 rfl rfl ?_
  refine o_iald C kt_24 rfl hz1 dX8_deliver_9 h (fun h => ?_)
  refine o_cVI C [vI (μ.1 24 z1)] mb_X2_hasCell (by decide) (fun _ hu => c_X2_hasCell (hμ.i kt_24 (by decide) _) hμ hu) rfl (Nat.le_of_ble_eq_true rfl) h mi_X2_hasCell me_X2_hasCell lkm_RX8_109 kt_1 rfl rfl rfl dX8_deliver_10 (fun x1 μ2 hx1 hμ2 h => ?_)
  refine o_if_ne (tgt := 32) C hx1 dX8_deliver_13 (by decide) h (fun _ h => ?_) (fun _ h => ?_)
  · refine o_aload_n C 0 dX8_deliver_32 rfl rfl ?_
    refine o_getR (j := 5) C kt_23 rfl rfl (Nat.le_of_ble_eq_true rfl) lkf_RX8_23 dX8_deliver_33 ?_
    refine o_aload_n C 0 dX8_deliver_36 rfl rfl ?_
    refine o_getR (j := 3) C kt_23 rfl rfl (Nat.le_of_ble_eq_true rfl) lkf_RX8_15 dX8_deliver_37 ?_
    refine o_iload_n C 1 dX8_deliver_40 rfl rfl ?_
    refine o_iald C kt_24 rfl hz1 dX8_deliver_41 h (fun h => ?_)
    refine o_dup2ri C dX8_deliver_42 ?_
    refine o_iald C kt_26 rfl (hμ2.i kt_24 (by decide) _) dX8_deliver_43 h (fun h => ?_)
    refine o_iload_n C 2 dX8_deliver_44 rfl rfl ?_
    refine o_iadd C dX8_deliver_45 ?_
    refine o_iast C kt_26 rfl (hμ2.i kt_24 (by decide) _) (r32_w _) hμ2 dX8_deliver_46 h (fun μ3 hμ3 h => ?_)
    refine o_iconst C dX8_deliver_47 ?_
    exact o_iret C hQ dX8_deliver_48 h ⟨by decide, by decide⟩ hμ3
  · refine o_aload_n C 0 dX8_deliver_16 rfl rfl ?_
    refine o_getR (j := 3) C kt_23 rfl rfl (Nat.le_of_ble_eq_true rfl) lkf_RX8_15 dX8_deliver_17 ?_
    refine o_iload_n C 1 dX8_deliver_20 rfl rfl ?_
    refine o_iald C kt_24 rfl hz1 dX8_deliver_21 h (fun h => ?_)
    refine o_iload_n C 3 dX8_deliver_22 rfl rfl ?_
    refine o_icmp_ne (tgt := 30) C (hμ2.i kt_24 (by decide) _) hz3 dX8_deliver_23 (by decide) h (fun _ h => ?_) (fun _ h => ?_)
    · refine o_iconst C dX8_deliver_30 ?_
      exact o_iret C hQ dX8_deliver_31 h ⟨by decide, by decide⟩ hμ2
    · refine o_iload_n C 2 dX8_deliver_26 rfl rfl ?_
      refine o_goto (tgt := 31) C dX8_deliver_27 (by decide) ?_
      exact o_iret C hQ dX8_deliver_31 h hz2 hμ2
theorem c_X8_deliver {z1 : Int} (hz1 : r32 z1) {z2 : Int} (hz2 : r32 z2) {z3 : Int} (hz3 : r32 z3) {μ : GM} (hμ : gRg μ) {u : Int × GM} (h : f_X8_deliver z1 z2 z3 μ = some u) : MtI 1 yX8_deliver cX8_deliver 4 (some .int) (fun ad => [.ref (ad 23), vI z1, vI z2, vI z3]) μ u := MtI.of pf_X8_deliver (fun _ => Nat.le_of_ble_eq_true rfl) (fun G C hQ => w_X8_deliver_0 C hQ hz1 hz2 hz3 hμ h)
def k_X8_handOn_20 : Nat → Int → Int → Int → Int → Int → Int → Int → GM → Option (Int × GM)
  | 0, _, _, _, _, _, _, _, _ => none
  | n + 1, z1, z2, z3, z4, z5, z6, z8, μ =>
    if z8 < (μ.2 23 2) then
      ck (0 ≤ z8 ∧ z8 < 20) (
      bd (f_X8_shareByFlow z1 (μ.1 25 z8) z6 μ) fun x3 μ4 =>
      lt (w32 (z4 - x3)) fun x5 =>
      bd (f_X8_deliver z8 x3 z2 μ4) fun x6 μ7 =>
      lt (w32 (z3 + x6)) fun x8 =>
      lt (w32 (z8 + 1)) fun x9 =>
      k_X8_handOn_20 n z1 z2 x8 x5 z5 z6 x9 μ7)
    else
      if z5 = (-10000009) then
        some (z3, μ)
      else
        bd (f_X8_deliver z5 z4 z2 μ) fun x1 μ2 =>
        some ((w32 (z3 + x1)), μ2)
set_option maxHeartbeats 4000000 in
set_option maxRecDepth 100000 in
theorem w_X8_handOn_20 {G : GX} {u : Int × GM} (C : CX G 2 cX8_handOn 10 RX8) (hQ : gQI G (some .int) u) : ∀ (n : Nat) (z1 : Int) (hz1 : r32 z1) (z2 : Int) (hz2 : r32 z2) (z3 : Int) (hz3 : r32 z3) (z4 : Int) (hz4 : r32 z4) (z5 : Int) (hz5 : r32 z5) (z6 : Int) (hz6 : r64 z6) (z8 : Int) (hz8 : r32 z8) (μ : GM) (hμ : gRg μ), k_X8_handOn_20 n z1 z2 z3 z4 z5 z6 z8 μ = some u → WM G 10 μ 20 [(0, gR G 23), (1, vI z1), (2, vI z2), (3, vI z3), (4, vI z4), (5, vI z5), (6, vJ z6), (8, vI z8)] [] := by
  intro n
  induction n with
  | zero =>
    intro z1 hz1 z2 hz2 z3 hz3 z4 hz4 z5 hz5 z6 hz6 z8 hz8 μ hμ h
    cases h
  | succ n ih =>
    intro z1 hz1 z2 hz2 z3 hz3 z4 hz4 z5 hz5 z6 hz6 z8 hz8 μ hμ h
    rw [k_X8_handOn_20] at h
    refine o_iload C 7 dX8_handOn_20 rfl ?_
    refine o_aload_n C 0 dX8_handOn_22 rfl rfl ?_
    refine o_getI (j := 2) C kt_23 rfl rfl (Nat.le_of_ble_eq_true rfl) lkf_RX8_9 dX8_handOn_23 ?_
    refine o_icmp_ge (tgt := 69) C hz8 (hμ.fi kt_23 rfl (by decide)) dX8_handOn_26 (by decide) h (fun _ h => ?_) (fun _ h => ?_)
    · refine o_iload C 5 dX8_handOn_69 rfl ?_
      refine o_ldc (v := (-10000009)) C lkc_RX8_100 rfl dX8_handOn_71 ?_
      refine o_icmp_ne (tgt := 80) C hz5 ⟨by decide, by decide⟩ dX8_handOn_73 (by decide) h (fun _ h => ?_) (fun _ h => ?_)
      · refine o_iload_n C 3 dX8_handOn_80 rfl rfl ?_
        refine o_aload_n C 0 dX8_handOn_81 rfl rfl ?_
        refine o_iload C 5 dX8_handOn_82 rfl ?_
        refine o_iload C 4 dX8_handOn_84 rfl ?_
        refine o_iload_n C 2 dX8_handOn_86 rfl rfl ?_
        refine o_cVI C [vI z5, vI z4, vI z2] mb_X8_deliver (by decide) (fun _ hu => c_X8_deliver hz5 hz4 hz2 hμ hu) rfl (Nat.le_of_ble_eq_true rfl) h mi_X8_deliver me_X8_deliver lkm_RX8_166 kt_23 rfl rfl rfl dX8_handOn_87 (fun x1 μ2 hx1 hμ2 h => ?_)
        refine o_iadd C dX8_handOn_90 ?_
        exact o_iret C hQ dX8_handOn_91 h (r32_w _) hμ2
      · refine o_iload_n C 3 dX8_handOn_76 rfl rfl ?_
        refine o_goto (tgt := 91) C dX8_handOn_77 (by decide) ?_
        exact o_iret C hQ dX8_handOn_91 h hz3 hμ
    · refine o_iload_n C 1 dX8_handOn_29 rfl rfl ?_
      refine o_aload_n C 0 dX8_handOn_30 rfl rfl ?_
      refine o_getR (j := 4) C kt_23 rfl rfl (Nat.le_of_ble_eq_true rfl) lkf_RX8_19 dX8_handOn_31 ?_
      refine o_iload C 7 dX8_handOn_34 rfl ?_
      refine o_lald C kt_25 rfl hz8 dX8_handOn_36 h (fun h => ?_)
      refine o_lload C 6 dX8_handOn_37 rfl ?_
      refine o_cSI C [vI z1, vJ (μ.1 25 z8), vJ z6] mb_X8_shareByFlow (by decide) (fun _ hu => c_X8_shareByFlow hz1 (hμ.l kt_25 _) hz6 hμ hu) rfl (Nat.le_of_ble_eq_true rfl) h ms_X8_shareByFlow lkm_RX8_162 rfl rfl dX8_handOn_39 (fun x3 μ4 hx3 hμ4 h => ?_)
      refine o_istore (lv2 := [(9, vI x3), (0, gR G 23), (1, vI z1), (2, vI z2), (3, vI z3), (4, vI z4), (5, vI z5), (6, vJ z6), (8, vI z8)]) C dX8_handOn_42 (by decide) rfl ?_
      refine o_iload C 5 dX8_handOn_44 rfl ?_
      refine o_iload C 0 dX8_handOn_46 rfl ?_
      refine o_isub C dX8_handOn_48 ?_
      refine o_lt h (r32_w _) (fun x5 hx5 h => ?_)
      refine o_istore (lv2 := [(4, vI x5), (9, vI x3), (0, gR G 23), (1, vI z1), (2, vI z2), (3, vI z3), (5, vI z5), (6, vJ z6), (8, vI z8)]) C dX8_handOn_49 (by decide) rfl ?_
      refine o_iload_n C 5 dX8_handOn_51 rfl rfl ?_
      refine o_aload_n C 2 dX8_handOn_52 rfl rfl ?_
      refine o_iload C 8 dX8_handOn_53 rfl ?_
      refine o_iload C 1 dX8_handOn_55 rfl ?_
      refine o_iload_n C 4 dX8_handOn_57 rfl rfl ?_
      refine o_cVI C [vI z8, vI x3, vI z2] mb_X8_deliver (by decide) (fun _ hu => c_X8_deliver hz8 hx3 hz2 hμ4 hu) rfl (Nat.le_of_ble_eq_true rfl) h mi_X8_deliver me_X8_deliver lkm_RX8_166 kt_23 rfl rfl rfl dX8_handOn_58 (fun x6 μ7 hx6 hμ7 h => ?_)
      refine o_iadd C dX8_handOn_61 ?_
      refine o_lt h (r32_w _) (fun x8 hx8 h => ?_)
      refine o_istore_n (lv2 := [(3, vI x8), (4, vI x5), (9, vI x3), (0, gR G 23), (1, vI z1), (2, vI z2), (5, vI z5), (6, vJ z6), (8, vI z8)]) C dX8_handOn_62 rfl (by decide) rfl ?_
      refine o_iinc (lv2 := fun x9 => [(8, vI x9), (3, vI x8), (4, vI x5), (9, vI x3), (0, gR G 23), (1, vI z1), (2, vI z2), (5, vI z5), (6, vJ z6)]) C 8 dX8_handOn_63 rfl (by decide) (fun _ => rfl) h (fun x9 hx9 h => ?_)
      refine o_goto (tgt := 20) C dX8_handOn_66 (by decide) ?_
      exact WM.sub [4, 5, 6, 1, 2, 7, 8, 0] rfl (ih z1 hz1 z2 hz2 x8 hx8 x5 hx5 z5 hz5 z6 hz6 x9 hx9 μ7 hμ7 h)
def f_X8_handOn (z1 : Int) (z2 : Int) (μ : GM) : Option (Int × GM) :=
  bd (f_X8_mainOutlet μ) fun x1 μ2 =>
  bd (f_X8_flowTogether μ2) fun x3 μ4 =>
  k_X8_handOn_20 FU z1 z2 0 z1 x1 x3 0 μ4
set_option maxHeartbeats 4000000 in
set_option maxRecDepth 100000 in
theorem w_X8_handOn_0 {G : GX} {u : Int × GM} (C : CX G 2 cX8_handOn 10 RX8) (hQ : gQI G (some .int) u) {z1 : Int} (hz1 : r32 z1) {z2 : Int} (hz2 : r32 z2) {μ : GM} (hμ : gRg μ) (h : f_X8_handOn z1 z2 μ = some u) : WM G 10 μ 0 [(0, gR G 23), (1, vI z1), (2, vI z2)] [] := by
  unfold f_X8_handOn at h
  refine o_iconst C dX8_handOn_0 ?_
  refine o_istore_n (lv2 := [(3, vI 0), (0, gR G 23), (1, vI z1), (2, vI z2)]) C dX8_handOn_1 rfl (by decide) rfl ?_
  refine o_iload_n C 2 dX8_handOn_2 rfl rfl ?_
  refine o_istore (lv2 := [(4, vI z1), (3, vI 0), (0, gR G 23), (1, vI z1), (2, vI z2)]) C dX8_handOn_3 (by decide) rfl ?_
  refine o_aload_n C 2 dX8_handOn_5 rfl rfl ?_
  refine o_cVI C [] mb_X8_mainOutlet (by decide) (fun _ hu => c_X8_mainOutlet hμ hu) rfl (Nat.le_of_ble_eq_true rfl) h mi_X8_mainOutlet me_X8_mainOutlet lkm_RX8_105 kt_23 rfl rfl rfl dX8_handOn_6 (fun x1 μ2 hx1 hμ2 h => ?_)
  refine o_istore (lv2 := [(5, vI x1), (4, vI z1), (3, vI 0), (0, gR G 23), (1, vI z1), (2, vI z2)]) C dX8_handOn_9 (by decide) rfl ?_
  refine o_aload_n C 3 dX8_handOn_11 rfl rfl ?_
  refine o_cVL C [] mb_X8_flowTogether (by decide) (fun _ hu => c_X8_flowTogether hμ2 hu) rfl (Nat.le_of_ble_eq_true rfl) h mi_X8_flowTogether me_X8_flowTogether lkm_RX8_135 kt_23 rfl rfl rfl dX8_handOn_12 (fun x3 μ4 hx3 hμ4 h => ?_)
  refine o_lstore (lv2 := [(6, vJ x3), (5, vI x1), (4, vI z1), (3, vI 0), (0, gR G 23), (1, vI z1), (2, vI z2)]) C dX8_handOn_15 (by decide) rfl ?_
  refine o_iconst C dX8_handOn_17 ?_
  refine o_istore (lv2 := [(8, vI 0), (6, vJ x3), (5, vI x1), (4, vI z1), (3, vI 0), (0, gR G 23), (1, vI z1), (2, vI z2)]) C dX8_handOn_18 (by decide) rfl ?_
  exact WM.sub [5, 6, 7, 4, 3, 2, 1, 0] rfl (w_X8_handOn_20 C hQ FU z1 hz1 z2 hz2 0 ⟨by decide, by decide⟩ z1 hz1 x1 hx1 x3 hx3 0 ⟨by decide, by decide⟩ μ4 hμ4 h)
theorem c_X8_handOn {z1 : Int} (hz1 : r32 z1) {z2 : Int} (hz2 : r32 z2) {μ : GM} (hμ : gRg μ) {u : Int × GM} (h : f_X8_handOn z1 z2 μ = some u) : MtI 2 yX8_handOn cX8_handOn 10 (some .int) (fun ad => [.ref (ad 23), vI z1, vI z2]) μ u := MtI.of pf_X8_handOn (fun _ => Nat.le_of_ble_eq_true rfl) (fun G C hQ => w_X8_handOn_0 C hQ hz1 hz2 hμ h)
def k_X8_partsThatReach_24 : Nat → Int → Int → Int → Int → GM → Option (Int × GM)
  | 0, _, _, _, _, _ => none
  | n + 1, z2, z3, z4, z5, μ =>
    if z5 < (μ.2 1 0) then
      bd (f_X8_highestBut z4 μ) fun x1 μ2 =>
      if x1 = (-10000009) then
        some (z3, μ2)
      else
        lt (gor z4 (gshl 1 x1)) fun x3 =>
        bd (f_X8_gather x1 μ2) fun _x4 μ5 =>
        if 0 < (μ5.2 23 2) then
          ck (0 ≤ x1 ∧ x1 < 6) (
          bd (f_X8_handOn (μ5.1 26 x1) z2 μ5) fun x9 μ10 =>
          lt (w32 (z3 + x9)) fun x11 =>
          lt (w32 (z5 + 1)) fun x12 =>
          k_X8_partsThatReach_24 n z2 x11 x3 x12 μ10)
        else
          if x1 = z2 then
            ck (0 ≤ x1 ∧ x1 < 6) (
            lt (μ5.1 26 x1) fun x7 =>
            lt (w32 (z5 + 1)) fun x8 =>
            k_X8_partsThatReach_24 n z2 x7 x3 x8 μ5)
          else
            lt (w32 (z5 + 1)) fun x6 =>
            k_X8_partsThatReach_24 n z2 z3 x3 x6 μ5
    else
      some (z3, μ)
set_option maxHeartbeats 4000000 in
set_option maxRecDepth 100000 in
theorem w_X8_partsThatReach_24 {G : GX} {u : Int × GM} (C : CX G 3 cX8_partsThatReach 7 RX8) (hQ : gQI G (some .int) u) : ∀ (n : Nat) (z2 : Int) (hz2 : r32 z2) (z3 : Int) (hz3 : r32 z3) (z4 : Int) (hz4 : r32 z4) (z5 : Int) (hz5 : r32 z5) (μ : GM) (hμ : gRg μ), k_X8_partsThatReach_24 n z2 z3 z4 z5 μ = some u → WM G 7 μ 24 [(0, gR G 23), (2, vI z2), (3, vI z3), (4, vI z4), (5, vI z5)] [] := by
  intro n
  induction n with
  | zero =>
    intro z2 hz2 z3 hz3 z4 hz4 z5 hz5 μ hμ h
    cases h
  | succ n ih =>
    intro z2 hz2 z3 hz3 z4 hz4 z5 hz5 μ hμ h
    rw [k_X8_partsThatReach_24] at h
    refine o_iload C 4 dX8_partsThatReach_24 rfl ?_
    refine o_aload_n C 0 dX8_partsThatReach_26 rfl rfl ?_
    refine o_getR (j := 0) C kt_23 rfl rfl (Nat.le_of_ble_eq_true rfl) lkf_RX8_26 dX8_partsThatReach_27 ?_
    refine o_getI (j := 0) C kt_1 rfl rfl (Nat.le_of_ble_eq_true rfl) lkf_RX8_152 dX8_partsThatReach_30 ?_
    refine o_icmp_ge (tgt := 114) C hz5 (hμ.fi kt_1 rfl (by decide)) dX8_partsThatReach_33 (by decide) h (fun _ h => ?_) (fun _ h => ?_)
    · refine o_iload_n C 2 dX8_partsThatReach_114 rfl rfl ?_
      exact o_iret C hQ dX8_partsThatReach_115 h hz3 hμ
    · refine o_aload_n C 0 dX8_partsThatReach_36 rfl rfl ?_
      refine o_iload C 3 dX8_partsThatReach_37 rfl ?_
      refine o_cVI C [vI z4] mb_X8_highestBut (by decide) (fun _ hu => c_X8_highestBut hz4 hμ hu) rfl (Nat.le_of_ble_eq_true rfl) h mi_X8_highestBut me_X8_highestBut lkm_RX8_155 kt_23 rfl rfl rfl dX8_partsThatReach_39 (fun x1 μ2 hx1 hμ2 h => ?_)
      refine o_istore (lv2 := [(6, vI x1), (0, gR G 23), (2, vI z2), (3, vI z3), (4, vI z4), (5, vI z5)]) C dX8_partsThatReach_42 (by decide) rfl ?_
      refine o_iload C 0 dX8_partsThatReach_44 rfl ?_
      refine o_ldc (v := (-10000009)) C lkc_RX8_100 rfl dX8_partsThatReach_46 ?_
      refine o_icmp_ne (tgt := 54) C hx1 ⟨by decide, by decide⟩ dX8_partsThatReach_48 (by decide) h (fun _ h => ?_) (fun _ h => ?_)
      · refine o_iload C 4 dX8_partsThatReach_54 rfl ?_
        refine o_iconst C dX8_partsThatReach_56 ?_
        refine o_iload C 0 dX8_partsThatReach_57 rfl ?_
        refine o_ishl C dX8_partsThatReach_59 ?_
        refine o_ior C dX8_partsThatReach_60 ?_
        refine o_lt h (r32_toInt _) (fun x3 hx3 h => ?_)
        refine o_istore (lv2 := [(4, vI x3), (6, vI x1), (0, gR G 23), (2, vI z2), (3, vI z3), (5, vI z5)]) C dX8_partsThatReach_61 (by decide) rfl ?_
        refine o_aload_n C 2 dX8_partsThatReach_63 rfl rfl ?_
        refine o_iload C 1 dX8_partsThatReach_64 rfl ?_
        refine o_cVV C [vI x1] mb_X8_gather (by decide) (fun _ hu => c_X8_gather hx1 hμ2 hu) rfl (Nat.le_of_ble_eq_true rfl) h mi_X8_gather me_X8_gather lkm_RX8_101 kt_23 rfl rfl rfl dX8_partsThatReach_66 (fun _x4 μ5 hμ5 h => ?_)
        refine o_aload_n C 2 dX8_partsThatReach_69 rfl rfl ?_
        refine o_getI (j := 2) C kt_23 rfl rfl (Nat.le_of_ble_eq_true rfl) lkf_RX8_9 dX8_partsThatReach_70 ?_
        refine o_if_le (tgt := 94) C (hμ5.fi kt_23 rfl (by decide)) dX8_partsThatReach_73 (by decide) h (fun _ h => ?_) (fun _ h => ?_)
        · refine o_iload C 1 dX8_partsThatReach_94 rfl ?_
          refine o_iload_n C 3 dX8_partsThatReach_96 rfl rfl ?_
          refine o_icmp_ne (tgt := 108) C hx1 hz2 dX8_partsThatReach_97 (by decide) h (fun _ h => ?_) (fun _ h => ?_)
          · refine o_iinc (lv2 := fun x6 => [(5, vI x6), (4, vI x3), (6, vI x1), (0, gR G 23), (2, vI z2), (3, vI z3)]) C 5 dX8_partsThatReach_108 rfl (by decide) (fun _ => rfl) h (fun x6 hx6 h => ?_)
            refine o_goto (tgt := 24) C dX8_partsThatReach_111 (by decide) ?_
            exact WM.sub [3, 4, 5, 1, 0] rfl (ih z2 hz2 z3 hz3 x3 hx3 x6 hx6 μ5 hμ5 h)
          · refine o_aload_n C 2 dX8_partsThatReach_100 rfl rfl ?_
            refine o_getR (j := 5) C kt_23 rfl rfl (Nat.le_of_ble_eq_true rfl) lkf_RX8_23 dX8_partsThatReach_101 ?_
            refine o_iload C 1 dX8_partsThatReach_104 rfl ?_
            refine o_iald C kt_26 rfl hx1 dX8_partsThatReach_106 h (fun h => ?_)
            refine o_lt h (hμ5.i kt_26 (by decide) _) (fun x7 hx7 h => ?_)
            refine o_istore_n (lv2 := [(3, vI x7), (4, vI x3), (6, vI x1), (0, gR G 23), (2, vI z2), (5, vI z5)]) C dX8_partsThatReach_107 rfl (by decide) rfl ?_
            refine o_iinc (lv2 := fun x8 => [(5, vI x8), (3, vI x7), (4, vI x3), (6, vI x1), (0, gR G 23), (2, vI z2)]) C 5 dX8_partsThatReach_108 rfl (by decide) (fun _ => rfl) h (fun x8 hx8 h => ?_)
            refine o_goto (tgt := 24) C dX8_partsThatReach_111 (by decide) ?_
            exact WM.sub [4, 5, 1, 2, 0] rfl (ih z2 hz2 x7 hx7 x3 hx3 x8 hx8 μ5 hμ5 h)
        · refine o_iload_n C 4 dX8_partsThatReach_76 rfl rfl ?_
          refine o_aload_n C 2 dX8_partsThatReach_77 rfl rfl ?_
          refine o_aload_n C 2 dX8_partsThatReach_78 rfl rfl ?_
          refine o_getR (j := 5) C kt_23 rfl rfl (Nat.le_of_ble_eq_true rfl) lkf_RX8_23 dX8_partsThatReach_79 ?_
          refine o_iload C 1 dX8_partsThatReach_82 rfl ?_
          refine o_iald C kt_26 rfl hx1 dX8_partsThatReach_84 h (fun h => ?_)
          refine o_iload_n C 3 dX8_partsThatReach_85 rfl rfl ?_
          refine o_cVI C [vI (μ5.1 26 x1), vI z2] mb_X8_handOn (by decide) (fun _ hu => c_X8_handOn (hμ5.i kt_26 (by decide) _) hz2 hμ5 hu) rfl (Nat.le_of_ble_eq_true rfl) h mi_X8_handOn me_X8_handOn lkm_RX8_158 kt_23 rfl rfl rfl dX8_partsThatReach_86 (fun x9 μ10 hx9 hμ10 h => ?_)
          refine o_iadd C dX8_partsThatReach_89 ?_
          refine o_lt h (r32_w _) (fun x11 hx11 h => ?_)
          refine o_istore_n (lv2 := [(3, vI x11), (4, vI x3), (6, vI x1), (0, gR G 23), (2, vI z2), (5, vI z5)]) C dX8_partsThatReach_90 rfl (by decide) rfl ?_
          refine o_goto (tgt := 108) C dX8_partsThatReach_91 (by decide) ?_
          refine o_iinc (lv2 := fun x12 => [(5, vI x12), (3, vI x11), (4, vI x3), (6, vI x1), (0, gR G 23), (2, vI z2)]) C 5 dX8_partsThatReach_108 rfl (by decide) (fun _ => rfl) h (fun x12 hx12 h => ?_)
          refine o_goto (tgt := 24) C dX8_partsThatReach_111 (by decide) ?_
          exact WM.sub [4, 5, 1, 2, 0] rfl (ih z2 hz2 x11 hx11 x3 hx3 x12 hx12 μ10 hμ10 h)
      · refine o_goto (tgt := 114) C dX8_partsThatReach_51 (by decide) ?_
        refine o_iload_n C 3 dX8_partsThatReach_114 rfl rfl ?_
        exact o_iret C hQ dX8_partsThatReach_115 h hz3 hμ2
def f_X8_partsThatReach (z1 : Int) (z2 : Int) (μ : GM) : Option (Int × GM) :=
  bd (f_J7_fill_53178 26 0 μ) fun _x1 μ2 =>
  ck (0 ≤ z1 ∧ z1 < 6) (lm (gA μ2 26 z1 1000000) fun μ3 =>
  k_X8_partsThatReach_24 FU z2 0 0 0 μ3)
set_option maxHeartbeats 4000000 in
set_option maxRecDepth 100000 in
theorem w_X8_partsThatReach_0 {G : GX} {u : Int × GM} (C : CX G 3 cX8_partsThatReach 7 RX8) (hQ : gQI G (some .int) u) {z1 : Int} (hz1 : r32 z1) {z2 : Int} (hz2 : r32 z2) {μ : GM} (hμ : gRg μ) (h : f_X8_partsThatReach z1 z2 μ = some u) : WM G 7 μ 0 [(0, gR G 23), (1, vI z1), (2, vI z2)] [] := by
  unfold f_X8_partsThatReach at h
  refine o_aload_n C 0 dX8_partsThatReach_0 rfl rfl ?_
  refine o_getR (j := 5) C kt_23 rfl rfl (Nat.le_of_ble_eq_true rfl) lkf_RX8_23 dX8_partsThatReach_1 ?_
  refine o_iconst C dX8_partsThatReach_4 ?_
  refine o_cSV C [gR G 26, vI 0] mb_J7_fill_53178 (by decide) (fun _ hu => c_J7_fill_53178 (kt_gen kt_26) ⟨by decide, by decide⟩ hμ hu) rfl (Nat.le_of_ble_eq_true rfl) h ms_J7_fill_53178 lkm_RX8_145 rfl rfl dX8_partsThatReach_5 (fun _x1 μ2 hμ2 h => ?_)
  refine o_aload_n C 0 dX8_partsThatReach_8 rfl rfl ?_
  refine o_getR (j := 5) C kt_23 rfl rfl (Nat.le_of_ble_eq_true rfl) lkf_RX8_23 dX8_partsThatReach_9 ?_
  refine o_iload_n C 1 dX8_partsThatReach_12 rfl rfl ?_
  refine o_ldc (v := 1000000) C lkc_RX8_151 rfl dX8_partsThatReach_13 ?_
  refine o_iast C kt_26 rfl hz1 ⟨by decide, by decide⟩ hμ2 dX8_partsThatReach_15 h (fun μ3 hμ3 h => ?_)
  refine o_iconst C dX8_partsThatReach_16 ?_
  refine o_istore_n (lv2 := [(3, vI 0), (0, gR G 23), (1, vI z1), (2, vI z2)]) C dX8_partsThatReach_17 rfl (by decide) rfl ?_
  refine o_iconst C dX8_partsThatReach_18 ?_
  refine o_istore (lv2 := [(4, vI 0), (3, vI 0), (0, gR G 23), (1, vI z1), (2, vI z2)]) C dX8_partsThatReach_19 (by decide) rfl ?_
  refine o_iconst C dX8_partsThatReach_21 ?_
  refine o_istore (lv2 := [(5, vI 0), (4, vI 0), (3, vI 0), (0, gR G 23), (1, vI z1), (2, vI z2)]) C dX8_partsThatReach_22 (by decide) rfl ?_
  exact WM.sub [3, 5, 2, 1, 0] rfl (w_X8_partsThatReach_24 C hQ FU z2 hz2 0 ⟨by decide, by decide⟩ 0 ⟨by decide, by decide⟩ 0 ⟨by decide, by decide⟩ μ3 hμ3 h)
theorem c_X8_partsThatReach {z1 : Int} (hz1 : r32 z1) {z2 : Int} (hz2 : r32 z2) {μ : GM} (hμ : gRg μ) {u : Int × GM} (h : f_X8_partsThatReach z1 z2 μ = some u) : MtI 3 yX8_partsThatReach cX8_partsThatReach 7 (some .int) (fun ad => [.ref (ad 23), vI z1, vI z2]) μ u := MtI.of pf_X8_partsThatReach (fun _ => Nat.le_of_ble_eq_true rfl) (fun G C hQ => w_X8_partsThatReach_0 C hQ hz1 hz2 hμ h)
def f_X0_beginBooks (μ : GM) : Option (Int × GM) :=
  bd (f_J7_fill_d0a16 29 0 μ) fun _x1 μ2 =>
  some (0, μ2)
set_option maxHeartbeats 4000000 in
set_option maxRecDepth 100000 in
theorem w_X0_beginBooks_0 {G : GX} {u : Int × GM} (C : CX G 1 cX0_beginBooks 1 RX0) (hQ : gQV G none u) {μ : GM} (hμ : gRg μ) (h : f_X0_beginBooks μ = some u) : WM G 1 μ 0 [(0, gR G 27)] [] := by
  unfold f_X0_beginBooks at h
  refine o_aload_n C 0 dX0_beginBooks_0 rfl rfl ?_
  refine o_getR (j := 2) C kt_27 rfl rfl (Nat.le_of_ble_eq_true rfl) lkf_RX0_15 dX0_beginBooks_1 ?_
  refine o_lconst (v := 0) C dX0_beginBooks_4 rfl ?_
  refine o_cSV C [gR G 29, vJ 0] mb_J7_fill_d0a16 (by decide) (fun _ hu => c_J7_fill_d0a16 (kt_gen kt_29) ⟨by decide, by decide⟩ hμ hu) rfl (Nat.le_of_ble_eq_true rfl) h ms_J7_fill_d0a16 lkm_RX0_26 rfl rfl dX0_beginBooks_5 (fun _x1 μ2 hμ2 h => ?_)
  exact o_vret C hQ dX0_beginBooks_8 h hμ2
theorem c_X0_beginBooks {μ : GM} (hμ : gRg μ) {u : Int × GM} (h : f_X0_beginBooks μ = some u) : MtV 1 yX0_beginBooks cX0_beginBooks 1 none (fun ad => [.ref (ad 27)]) μ u := MtV.of pf_X0_beginBooks (fun _ => Nat.le_of_ble_eq_true rfl) (fun G C hQ => w_X0_beginBooks_0 C hQ hμ h)
def f_X0_markOf (z1 : Int) (μ : GM) : Option (Int × GM) :=
  ck (0 ≤ z1 ∧ z1 < 6) (
  lt (μ.1 4 z1) fun x1 =>
  if x1 < 1 then
    ck (0 ≤ z1 ∧ z1 < 6) (
    some ((μ.1 2 z1), μ))
  else
    ck (0 ≤ z1 ∧ z1 < 6) (
    ck (x1 ≠ 0) (
    ck (0 ≤ z1 ∧ z1 < 6) (
    some ((w32 ((w32 (Int.tdiv (μ.1 28 z1) x1)) + (μ.1 2 z1))), μ)))))
set_option maxHeartbeats 4000000 in
set_option maxRecDepth 100000 in
theorem w_X0_markOf_0 {G : GX} {u : Int × GM} (C : CX G 0 cX0_markOf 3 RX0) (hQ : gQI G (some .int) u) {z1 : Int} (hz1 : r32 z1) {μ : GM} (hμ : gRg μ) (h : f_X0_markOf z1 μ = some u) : WM G 3 μ 0 [(0, gR G 27), (1, vI z1)] [] := by
  unfold f_X0_markOf at h
  refine o_aload_n C 0 dX0_markOf_0 rfl rfl ?_
  refine o_getR (j := 0) C kt_27 rfl rfl (Nat.le_of_ble_eq_true rfl) lkf_RX0_22 dX0_markOf_1 ?_
  refine o_getR (j := 3) C kt_1 rfl rfl (Nat.le_of_ble_eq_true rfl) lkf_RX0_32 dX0_markOf_4 ?_
  refine o_iload_n C 1 dX0_markOf_7 rfl rfl ?_
  refine o_iald C kt_4 rfl hz1 dX0_markOf_8 h (fun h => ?_)
  refine o_lt h (hμ.i kt_4 (by decide) _) (fun x1 hx1 h => ?_)
  refine o_istore_n (lv2 := [(2, vI x1), (0, gR G 27), (1, vI z1)]) C dX0_markOf_9 rfl (by decide) rfl ?_
  refine o_iload_n C 0 dX0_markOf_10 rfl rfl ?_
  refine o_iconst C dX0_markOf_11 ?_
  refine o_icmp_ge (tgt := 27) C hx1 ⟨by decide, by decide⟩ dX0_markOf_12 (by decide) h (fun _ h => ?_) (fun _ h => ?_)
  · refine o_aload_n C 1 dX0_markOf_27 rfl rfl ?_
    refine o_getR (j := 1) C kt_27 rfl rfl (Nat.le_of_ble_eq_true rfl) lkf_RX0_9 dX0_markOf_28 ?_
    refine o_iload_n C 2 dX0_markOf_31 rfl rfl ?_
    refine o_iald C kt_28 rfl hz1 dX0_markOf_32 h (fun h => ?_)
    refine o_iload_n C 0 dX0_markOf_33 rfl rfl ?_
    refine o_idiv C (hμ.i kt_28 (by decide) _) hx1 dX0_markOf_34 h (fun h => ?_)
    refine o_aload_n C 1 dX0_markOf_35 rfl rfl ?_
    refine o_getR (j := 0) C kt_27 rfl rfl (Nat.le_of_ble_eq_true rfl) lkf_RX0_22 dX0_markOf_36 ?_
    refine o_getR (j := 1) C kt_1 rfl rfl (Nat.le_of_ble_eq_true rfl) lkf_RX0_37 dX0_markOf_39 ?_
    refine o_iload_n C 2 dX0_markOf_42 rfl rfl ?_
    refine o_iald C kt_2 rfl hz1 dX0_markOf_43 h (fun h => ?_)
    refine o_iadd C dX0_markOf_44 ?_
    exact o_iret C hQ dX0_markOf_45 h (r32_w _) hμ
  · refine o_aload_n C 1 dX0_markOf_15 rfl rfl ?_
    refine o_getR (j := 0) C kt_27 rfl rfl (Nat.le_of_ble_eq_true rfl) lkf_RX0_22 dX0_markOf_16 ?_
    refine o_getR (j := 1) C kt_1 rfl rfl (Nat.le_of_ble_eq_true rfl) lkf_RX0_37 dX0_markOf_19 ?_
    refine o_iload_n C 2 dX0_markOf_22 rfl rfl ?_
    refine o_iald C kt_2 rfl hz1 dX0_markOf_23 h (fun h => ?_)
    refine o_goto (tgt := 45) C dX0_markOf_24 (by decide) ?_
    exact o_iret C hQ dX0_markOf_45 h (hμ.i kt_2 (by decide) _) hμ
theorem c_X0_markOf {z1 : Int} (hz1 : r32 z1) {μ : GM} (hμ : gRg μ) {u : Int × GM} (h : f_X0_markOf z1 μ = some u) : MtI 0 yX0_markOf cX0_markOf 3 (some .int) (fun ad => [.ref (ad 27), vI z1]) μ u := MtI.of pf_X0_markOf (fun _ => Nat.le_of_ble_eq_true rfl) (fun G C hQ => w_X0_markOf_0 C hQ hz1 hμ h)
def k_X0_allHeld_4 : Nat → Int → Int → GM → Option (Int × GM)
  | 0, _, _, _ => none
  | n + 1, z1, z2, μ =>
    if z2 < (μ.2 1 0) then
      ck (0 ≤ z2 ∧ z2 < 6) (
      lt (w32 (z1 + (μ.1 28 z2))) fun x1 =>
      lt (w32 (z2 + 1)) fun x2 =>
      k_X0_allHeld_4 n x1 x2 μ)
    else
      some (z1, μ)
set_option maxHeartbeats 4000000 in
set_option maxRecDepth 100000 in
theorem w_X0_allHeld_4 {G : GX} {u : Int × GM} (C : CX G 0 cX0_allHeld 3 RX0) (hQ : gQI G (some .int) u) : ∀ (n : Nat) (z1 : Int) (hz1 : r32 z1) (z2 : Int) (hz2 : r32 z2) (μ : GM) (hμ : gRg μ), k_X0_allHeld_4 n z1 z2 μ = some u → WM G 3 μ 4 [(0, gR G 27), (1, vI z1), (2, vI z2)] [] := by
  intro n
  induction n with
  | zero =>
    intro z1 hz1 z2 hz2 μ hμ h
    cases h
  | succ n ih =>
    intro z1 hz1 z2 hz2 μ hμ h
    rw [k_X0_allHeld_4] at h
    refine o_iload_n C 2 dX0_allHeld_4 rfl rfl ?_
    refine o_aload_n C 0 dX0_allHeld_5 rfl rfl ?_
    refine o_getR (j := 0) C kt_27 rfl rfl (Nat.le_of_ble_eq_true rfl) lkf_RX0_22 dX0_allHeld_6 ?_
    refine o_getI (j := 0) C kt_1 rfl rfl (Nat.le_of_ble_eq_true rfl) lkf_RX0_40 dX0_allHeld_9 ?_
    refine o_icmp_ge (tgt := 30) C hz2 (hμ.fi kt_1 rfl (by decide)) dX0_allHeld_12 (by decide) h (fun _ h => ?_) (fun _ h => ?_)
    · refine o_iload_n C 1 dX0_allHeld_30 rfl rfl ?_
      exact o_iret C hQ dX0_allHeld_31 h hz1 hμ
    · refine o_iload_n C 1 dX0_allHeld_15 rfl rfl ?_
      refine o_aload_n C 0 dX0_allHeld_16 rfl rfl ?_
      refine o_getR (j := 1) C kt_27 rfl rfl (Nat.le_of_ble_eq_true rfl) lkf_RX0_9 dX0_allHeld_17 ?_
      refine o_iload_n C 2 dX0_allHeld_20 rfl rfl ?_
      refine o_iald C kt_28 rfl hz2 dX0_allHeld_21 h (fun h => ?_)
      refine o_iadd C dX0_allHeld_22 ?_
      refine o_lt h (r32_w _) (fun x1 hx1 h => ?_)
      refine o_istore_n (lv2 := [(1, vI x1), (0, gR G 27), (2, vI z2)]) C dX0_allHeld_23 rfl (by decide) rfl ?_
      refine o_iinc (lv2 := fun x2 => [(2, vI x2), (1, vI x1), (0, gR G 27)]) C 2 dX0_allHeld_24 rfl (by decide) (fun _ => rfl) h (fun x2 hx2 h => ?_)
      refine o_goto (tgt := 4) C dX0_allHeld_27 (by decide) ?_
      exact WM.sub [2, 1, 0] rfl (ih x1 hx1 x2 hx2 μ hμ h)
def f_X0_allHeld (μ : GM) : Option (Int × GM) :=
  k_X0_allHeld_4 FU 0 0 μ
set_option maxHeartbeats 4000000 in
set_option maxRecDepth 100000 in
theorem w_X0_allHeld_0 {G : GX} {u : Int × GM} (C : CX G 0 cX0_allHeld 3 RX0) (hQ : gQI G (some .int) u) {μ : GM} (hμ : gRg μ) (h : f_X0_allHeld μ = some u) : WM G 3 μ 0 [(0, gR G 27)] [] := by
  unfold f_X0_allHeld at h
  refine o_iconst C dX0_allHeld_0 ?_
  refine o_istore_n (lv2 := [(1, vI 0), (0, gR G 27)]) C dX0_allHeld_1 rfl (by decide) rfl ?_
  refine o_iconst C dX0_allHeld_2 ?_
  refine o_istore_n (lv2 := [(2, vI 0), (1, vI 0), (0, gR G 27)]) C dX0_allHeld_3 rfl (by decide) rfl ?_
  exact WM.sub [2, 1, 0] rfl (w_X0_allHeld_4 C hQ FU 0 ⟨by decide, by decide⟩ 0 ⟨by decide, by decide⟩ μ hμ h)
theorem c_X0_allHeld {μ : GM} (hμ : gRg μ) {u : Int × GM} (h : f_X0_allHeld μ = some u) : MtI 0 yX0_allHeld cX0_allHeld 3 (some .int) (fun ad => [.ref (ad 27)]) μ u := MtI.of pf_X0_allHeld (fun _ => Nat.le_of_ble_eq_true rfl) (fun G C hQ => w_X0_allHeld_0 C hQ hμ h)
def f_X0_arrive (z1 : Int) (z2 : Int) (μ : GM) : Option (Int × GM) :=
  ck (0 ≤ z1 ∧ z1 < 6) (
  bd (f_J9_max_7cf53 0 (w32 ((w32 ((μ.1 28 z1) + z2)) - 1000000)) μ) fun x1 μ2 =>
  ck (0 ≤ z1 ∧ z1 < 6) (
  ck (0 ≤ z1 ∧ z1 < 6) (lm (gA μ2 28 z1 (w32 ((μ2.1 28 z1) + (w32 (z2 - x1))))) fun μ3 =>
  ck (0 ≤ 5 ∧ 5 < 6) (
  ck (0 ≤ 5 ∧ 5 < 6) (lm (gA μ3 29 5 (w64 ((μ3.1 29 5) + x1))) fun μ4 =>
  some (0, μ4))))))
set_option maxHeartbeats 4000000 in
set_option maxRecDepth 100000 in
theorem w_X0_arrive_0 {G : GX} {u : Int × GM} (C : CX G 1 cX0_arrive 4 RX0) (hQ : gQV G none u) {z1 : Int} (hz1 : r32 z1) {z2 : Int} (hz2 : r32 z2) {μ : GM} (hμ : gRg μ) (h : f_X0_arrive z1 z2 μ = some u) : WM G 4 μ 0 [(0, gR G 27), (1, vI z1), (2, vI z2)] [] := by
  unfold f_X0_arrive at h
  refine o_iconst C dX0_arrive_0 ?_
  refine o_aload_n C 0 dX0_arrive_1 rfl rfl ?_
  refine o_getR (j := 1) C kt_27 rfl rfl (Nat.le_of_ble_eq_true rfl) lkf_RX0_9 dX0_arrive_2 ?_
  refine o_iload_n C 1 dX0_arrive_5 rfl rfl ?_
  refine o_iald C kt_28 rfl hz1 dX0_arrive_6 h (fun h => ?_)
  refine o_iload_n C 2 dX0_arrive_7 rfl rfl ?_
  refine o_iadd C dX0_arrive_8 ?_
  refine o_ldc (v := 1000000) C lkc_RX0_129 rfl dX0_arrive_9 ?_
  refine o_isub C dX0_arrive_11 ?_
  refine o_cSI C [vI 0, vI (w32 ((w32 ((μ.1 28 z1) + z2)) - 1000000))] mb_J9_max_7cf53 (by decide) (fun _ hu => c_J9_max_7cf53 ⟨by decide, by decide⟩ (r32_w _) hμ hu) rfl (Nat.le_of_ble_eq_true rfl) h ms_J9_max_7cf53 lkm_RX0_91 rfl rfl dX0_arrive_12 (fun x1 μ2 hx1 hμ2 h => ?_)
  refine o_istore_n (lv2 := [(3, vI x1), (0, gR G 27), (1, vI z1), (2, vI z2)]) C dX0_arrive_15 rfl (by decide) rfl ?_
  refine o_aload_n C 1 dX0_arrive_16 rfl rfl ?_
  refine o_getR (j := 1) C kt_27 rfl rfl (Nat.le_of_ble_eq_true rfl) lkf_RX0_9 dX0_arrive_17 ?_
  refine o_iload_n C 2 dX0_arrive_20 rfl rfl ?_
  refine o_dup2ri C dX0_arrive_21 ?_
  refine o_iald C kt_28 rfl hz1 dX0_arrive_22 h (fun h => ?_)
  refine o_iload_n C 3 dX0_arrive_23 rfl rfl ?_
  refine o_iload_n C 0 dX0_arrive_24 rfl rfl ?_
  refine o_isub C dX0_arrive_25 ?_
  refine o_iadd C dX0_arrive_26 ?_
  refine o_iast C kt_28 rfl hz1 (r32_w _) hμ2 dX0_arrive_27 h (fun μ3 hμ3 h => ?_)
  refine o_aload_n C 1 dX0_arrive_28 rfl rfl ?_
  refine o_getR (j := 2) C kt_27 rfl rfl (Nat.le_of_ble_eq_true rfl) lkf_RX0_15 dX0_arrive_29 ?_
  refine o_iconst C dX0_arrive_32 ?_
  refine o_dup2ri C dX0_arrive_33 ?_
  refine o_lald C kt_29 rfl ⟨by decide, by decide⟩ dX0_arrive_34 h (fun h => ?_)
  refine o_iload_n C 0 dX0_arrive_35 rfl rfl ?_
  refine o_i2l C hx1 dX0_arrive_36 ?_
  refine o_ladd C dX0_arrive_37 ?_
  refine o_last C kt_29 rfl ⟨by decide, by decide⟩ (r64_w _) hμ3 dX0_arrive_38 h (fun μ4 hμ4 h => ?_)
  exact o_vret C hQ dX0_arrive_39 h hμ4
theorem c_X0_arrive {z1 : Int} (hz1 : r32 z1) {z2 : Int} (hz2 : r32 z2) {μ : GM} (hμ : gRg μ) {u : Int × GM} (h : f_X0_arrive z1 z2 μ = some u) : MtV 1 yX0_arrive cX0_arrive 4 none (fun ad => [.ref (ad 27), vI z1, vI z2]) μ u := MtV.of pf_X0_arrive (fun _ => Nat.le_of_ble_eq_true rfl) (fun G C hQ => w_X0_arrive_0 C hQ hz1 hz2 hμ h)
def f_X0_leave (z1 : Int) (z2 : Int) (μ : GM) : Option (Int × GM) :=
  ck (0 ≤ z1 ∧ z1 < 6) (
  bd (f_J9_min_7cf53 z2 (μ.1 28 z1) μ) fun x1 μ2 =>
  ck (0 ≤ z1 ∧ z1 < 6) (
  ck (0 ≤ z1 ∧ z1 < 6) (lm (gA μ2 28 z1 (w32 ((μ2.1 28 z1) - x1))) fun μ3 =>
  some (x1, μ3))))
set_option maxHeartbeats 4000000 in
set_option maxRecDepth 100000 in
theorem w_X0_leave_0 {G : GX} {u : Int × GM} (C : CX G 1 cX0_leave 4 RX0) (hQ : gQI G (some .int) u) {z1 : Int} (hz1 : r32 z1) {z2 : Int} (hz2 : r32 z2) {μ : GM} (hμ : gRg μ) (h : f_X0_leave z1 z2 μ = some u) : WM G 4 μ 0 [(0, gR G 27), (1, vI z1), (2, vI z2)] [] := by
  unfold f_X0_leave at h
  refine o_iload_n C 2 dX0_leave_0 rfl rfl ?_
  refine o_aload_n C 0 dX0_leave_1 rfl rfl ?_
  refine o_getR (j := 1) C kt_27 rfl rfl (Nat.le_of_ble_eq_true rfl) lkf_RX0_9 dX0_leave_2 ?_
  refine o_iload_n C 1 dX0_leave_5 rfl rfl ?_
  refine o_iald C kt_28 rfl hz1 dX0_leave_6 h (fun h => ?_)
  refine o_cSI C [vI z2, vI (μ.1 28 z1)] mb_J9_min_7cf53 (by decide) (fun _ hu => c_J9_min_7cf53 hz2 (hμ.i kt_28 (by decide) _) hμ hu) rfl (Nat.le_of_ble_eq_true rfl) h ms_J9_min_7cf53 lkm_RX0_130 rfl rfl dX0_leave_7 (fun x1 μ2 hx1 hμ2 h => ?_)
  refine o_istore_n (lv2 := [(3, vI x1), (0, gR G 27), (1, vI z1), (2, vI z2)]) C dX0_leave_10 rfl (by decide) rfl ?_
  refine o_aload_n C 1 dX0_leave_11 rfl rfl ?_
  refine o_getR (j := 1) C kt_27 rfl rfl (Nat.le_of_ble_eq_true rfl) lkf_RX0_9 dX0_leave_12 ?_
  refine o_iload_n C 2 dX0_leave_15 rfl rfl ?_
  refine o_dup2ri C dX0_leave_16 ?_
  refine o_iald C kt_28 rfl hz1 dX0_leave_17 h (fun h => ?_)
  refine o_iload_n C 0 dX0_leave_18 rfl rfl ?_
  refine o_isub C dX0_leave_19 ?_
  refine o_iast C kt_28 rfl hz1 (r32_w _) hμ2 dX0_leave_20 h (fun μ3 hμ3 h => ?_)
  refine o_iload_n C 0 dX0_leave_21 rfl rfl ?_
  exact o_iret C hQ dX0_leave_22 h hx1 hμ3
theorem c_X0_leave {z1 : Int} (hz1 : r32 z1) {z2 : Int} (hz2 : r32 z2) {μ : GM} (hμ : gRg μ) {u : Int × GM} (h : f_X0_leave z1 z2 μ = some u) : MtI 1 yX0_leave cX0_leave 4 (some .int) (fun ad => [.ref (ad 27), vI z1, vI z2]) μ u := MtI.of pf_X0_leave (fun _ => Nat.le_of_ble_eq_true rfl) (fun G C hQ => w_X0_leave_0 C hQ hz1 hz2 hμ h)
def f_X0_runRiver (z1 : Int) (μ : GM) : Option (Int × GM) :=
  ck (0 ≤ z1 ∧ z1 < 3) (
  lt (μ.1 10 z1) fun x1 =>
  ck (0 ≤ z1 ∧ z1 < 3) (
  ck (0 ≤ z1 ∧ z1 < 3) (
  ck (0 ≤ x1 ∧ x1 < 6) (
  ck (0 ≤ z1 ∧ z1 < 3) (
  bd (f_J9_max_7cf53 (μ.1 30 x1) (μ.1 12 z1) μ) fun x2 μ3 =>
  ck (100 ≠ 0) (
  lt (w32 (Int.tdiv (w32 ((μ.1 13 z1) * (w32 ((μ.1 11 z1) - x2)))) 100)) fun x4 =>
  if x4 < 0 then
    ck (0 ≤ 2 ∧ 2 < 6) (
    bd (f_X0_leave x1 (w32 (-x4)) μ3) fun x8 μ9 =>
    ck (0 ≤ 2 ∧ 2 < 6) (lm (gA μ9 29 2 (w64 ((μ3.1 29 2) + x8))) fun μ10 =>
    some (0, μ10)))
  else
    ck (0 ≤ 1 ∧ 1 < 6) (
    ck (0 ≤ 1 ∧ 1 < 6) (lm (gA μ3 29 1 (w64 ((μ3.1 29 1) + x4))) fun μ5 =>
    bd (f_X0_arrive x1 x4 μ5) fun _x6 μ7 =>
    some (0, μ7)))))))))
set_option maxHeartbeats 4000000 in
set_option maxRecDepth 100000 in
theorem w_X0_runRiver_0 {G : GX} {u : Int × GM} (C : CX G 2 cX0_runRiver 5 RX0) (hQ : gQV G none u) {z1 : Int} (hz1 : r32 z1) {μ : GM} (hμ : gRg μ) (h : f_X0_runRiver z1 μ = some u) : WM G 5 μ 0 [(0, gR G 27), (1, vI z1)] [] := by
  unfold f_X0_runRiver at h
  refine o_aload_n C 0 dX0_runRiver_0 rfl rfl ?_
  refine o_getR (j := 0) C kt_27 rfl rfl (Nat.le_of_ble_eq_true rfl) lkf_RX0_22 dX0_runRiver_1 ?_
  refine o_getR (j := 5) C kt_1 rfl rfl (Nat.le_of_ble_eq_true rfl) lkf_RX0_55 dX0_runRiver_4 ?_
  refine o_astore_n (lv2 := [(2, gR G 9), (0, gR G 27), (1, vI z1)]) C dX0_runRiver_7 rfl (by decide) rfl ?_
  refine o_aload_n C 0 dX0_runRiver_8 rfl rfl ?_
  refine o_getR (j := 1) C kt_9 rfl rfl (Nat.le_of_ble_eq_true rfl) lkf_RX0_114 dX0_runRiver_9 ?_
  refine o_iload_n C 2 dX0_runRiver_12 rfl rfl ?_
  refine o_iald C kt_10 rfl hz1 dX0_runRiver_13 h (fun h => ?_)
  refine o_lt h (hμ.i kt_10 (by decide) _) (fun x1 hx1 h => ?_)
  refine o_istore_n (lv2 := [(3, vI x1), (2, gR G 9), (0, gR G 27), (1, vI z1)]) C dX0_runRiver_14 rfl (by decide) rfl ?_
  refine o_aload_n C 1 dX0_runRiver_15 rfl rfl ?_
  refine o_getR (j := 4) C kt_9 rfl rfl (Nat.le_of_ble_eq_true rfl) lkf_RX0_115 dX0_runRiver_16 ?_
  refine o_iload_n C 3 dX0_runRiver_19 rfl rfl ?_
  refine o_iald C kt_13 rfl hz1 dX0_runRiver_20 h (fun h => ?_)
  refine o_aload_n C 1 dX0_runRiver_21 rfl rfl ?_
  refine o_getR (j := 2) C kt_9 rfl rfl (Nat.le_of_ble_eq_true rfl) lkf_RX0_116 dX0_runRiver_22 ?_
  refine o_iload_n C 3 dX0_runRiver_25 rfl rfl ?_
  refine o_iald C kt_11 rfl hz1 dX0_runRiver_26 h (fun h => ?_)
  refine o_aload_n C 2 dX0_runRiver_27 rfl rfl ?_
  refine o_getR (j := 3) C kt_27 rfl rfl (Nat.le_of_ble_eq_true rfl) lkf_RX0_19 dX0_runRiver_28 ?_
  refine o_iload_n C 0 dX0_runRiver_31 rfl rfl ?_
  refine o_iald C kt_30 rfl hx1 dX0_runRiver_32 h (fun h => ?_)
  refine o_aload_n C 1 dX0_runRiver_33 rfl rfl ?_
  refine o_getR (j := 3) C kt_9 rfl rfl (Nat.le_of_ble_eq_true rfl) lkf_RX0_119 dX0_runRiver_34 ?_
  refine o_iload_n C 3 dX0_runRiver_37 rfl rfl ?_
  refine o_iald C kt_12 rfl hz1 dX0_runRiver_38 h (fun h => ?_)
  refine o_cSI C [vI (μ.1 30 x1), vI (μ.1 12 z1)] mb_J9_max_7cf53 (by decide) (fun _ hu => c_J9_max_7cf53 (hμ.i kt_30 (by decide) _) (hμ.i kt_12 (by decide) _) hμ hu) rfl (Nat.le_of_ble_eq_true rfl) h ms_J9_max_7cf53 lkm_RX0_91 rfl rfl dX0_runRiver_39 (fun x2 μ3 hx2 hμ3 h => ?_)
  refine o_isub C dX0_runRiver_42 ?_
  refine o_imul C dX0_runRiver_43 ?_
  refine o_bipush (v := 100) C dX0_runRiver_44 (by decide) ?_
  refine o_idiv C (r32_w _) ⟨by decide, by decide⟩ dX0_runRiver_46 h (fun h => ?_)
  refine o_lt h (r32_w _) (fun x4 hx4 h => ?_)
  refine o_istore (lv2 := [(4, vI x4), (3, vI x1), (2, gR G 9), (0, gR G 27), (1, vI z1)]) C dX0_runRiver_47 (by decide) rfl ?_
  refine o_iload C 0 dX0_runRiver_49 rfl ?_
  refine o_if_ge (tgt := 75) C hx4 dX0_runRiver_51 (by decide) h (fun _ h => ?_) (fun _ h => ?_)
  · refine o_aload_n C 3 dX0_runRiver_75 rfl rfl ?_
    refine o_getR (j := 2) C kt_27 rfl rfl (Nat.le_of_ble_eq_true rfl) lkf_RX0_15 dX0_runRiver_76 ?_
    refine o_iconst C dX0_runRiver_79 ?_
    refine o_dup2ri C dX0_runRiver_80 ?_
    refine o_lald C kt_29 rfl ⟨by decide, by decide⟩ dX0_runRiver_81 h (fun h => ?_)
    refine o_iload C 0 dX0_runRiver_82 rfl ?_
    refine o_i2l C hx4 dX0_runRiver_84 ?_
    refine o_ladd C dX0_runRiver_85 ?_
    refine o_last C kt_29 rfl ⟨by decide, by decide⟩ (r64_w _) hμ3 dX0_runRiver_86 h (fun μ5 hμ5 h => ?_)
    refine o_aload_n C 3 dX0_runRiver_87 rfl rfl ?_
    refine o_iload_n C 1 dX0_runRiver_88 rfl rfl ?_
    refine o_iload C 0 dX0_runRiver_89 rfl ?_
    refine o_cVV C [vI x1, vI x4] mb_X0_arrive (by decide) (fun _ hu => c_X0_arrive hx1 hx4 hμ5 hu) rfl (Nat.le_of_ble_eq_true rfl) h mi_X0_arrive me_X0_arrive lkm_RX0_51 kt_27 rfl rfl rfl dX0_runRiver_91 (fun _x6 μ7 hμ7 h => ?_)
    exact o_vret C hQ dX0_runRiver_94 h hμ7
  · refine o_aload_n C 3 dX0_runRiver_54 rfl rfl ?_
    refine o_getR (j := 2) C kt_27 rfl rfl (Nat.le_of_ble_eq_true rfl) lkf_RX0_15 dX0_runRiver_55 ?_
    refine o_iconst C dX0_runRiver_58 ?_
    refine o_dup2ri C dX0_runRiver_59 ?_
    refine o_lald C kt_29 rfl ⟨by decide, by decide⟩ dX0_runRiver_60 h (fun h => ?_)
    refine o_aload_n C 3 dX0_runRiver_61 rfl rfl ?_
    refine o_iload_n C 1 dX0_runRiver_62 rfl rfl ?_
    refine o_iload C 0 dX0_runRiver_63 rfl ?_
    refine o_ineg C dX0_runRiver_65 ?_
    refine o_cVI C [vI x1, vI (w32 (-x4))] mb_X0_leave (by decide) (fun _ hu => c_X0_leave hx1 (r32_w _) hμ3 hu) rfl (Nat.le_of_ble_eq_true rfl) h mi_X0_leave me_X0_leave lkm_RX0_100 kt_27 rfl rfl rfl dX0_runRiver_66 (fun x8 μ9 hx8 hμ9 h => ?_)
    refine o_i2l C hx8 dX0_runRiver_69 ?_
    refine o_ladd C dX0_runRiver_70 ?_
    refine o_last C kt_29 rfl ⟨by decide, by decide⟩ (r64_w _) hμ9 dX0_runRiver_71 h (fun μ10 hμ10 h => ?_)
    refine o_goto (tgt := 94) C dX0_runRiver_72 (by decide) ?_
    exact o_vret C hQ dX0_runRiver_94 h hμ10
theorem c_X0_runRiver {z1 : Int} (hz1 : r32 z1) {μ : GM} (hμ : gRg μ) {u : Int × GM} (h : f_X0_runRiver z1 μ = some u) : MtV 2 yX0_runRiver cX0_runRiver 5 none (fun ad => [.ref (ad 27), vI z1]) μ u := MtV.of pf_X0_runRiver (fun _ => Nat.le_of_ble_eq_true rfl) (fun G C hQ => w_X0_runRiver_0 C hQ hz1 hμ h)
def f_X0_runLink (z1 : Int) (μ : GM) : Option (Int × GM) :=
  ck (0 ≤ z1 ∧ z1 < 12) (
  lt (μ.1 6 z1) fun x1 =>
  ck (0 ≤ z1 ∧ z1 < 12) (
  lt (μ.1 7 z1) fun x2 =>
  ck (0 ≤ z1 ∧ z1 < 12) (
  ck (0 ≤ x1 ∧ x1 < 6) (
  ck (0 ≤ x2 ∧ x2 < 6) (
  ck (100 ≠ 0) (
  lt (w32 (Int.tdiv (w32 ((μ.1 8 z1) * (w32 ((μ.1 30 x1) - (μ.1 30 x2))))) 100)) fun x3 =>
  if x3 < 0 then
    bd (f_X0_leave x2 (w32 (-x3)) μ) fun x8 μ9 =>
    bd (f_X0_arrive x1 x8 μ9) fun _x10 μ11 =>
    some (0, μ11)
  else
    bd (f_X0_leave x1 x3 μ) fun x4 μ5 =>
    bd (f_X0_arrive x2 x4 μ5) fun _x6 μ7 =>
    some (0, μ7)))))))
set_option maxHeartbeats 4000000 in
set_option maxRecDepth 100000 in
theorem w_X0_runLink_0 {G : GX} {u : Int × GM} (C : CX G 2 cX0_runLink 5 RX0) (hQ : gQV G none u) {z1 : Int} (hz1 : r32 z1) {μ : GM} (hμ : gRg μ) (h : f_X0_runLink z1 μ = some u) : WM G 5 μ 0 [(0, gR G 27), (1, vI z1)] [] := by
  unfold f_X0_runLink at h
  refine o_aload_n C 0 dX0_runLink_0 rfl rfl ?_
  refine o_getR (j := 0) C kt_27 rfl rfl (Nat.le_of_ble_eq_true rfl) lkf_RX0_22 dX0_runLink_1 ?_
  refine o_getR (j := 4) C kt_1 rfl rfl (Nat.le_of_ble_eq_true rfl) lkf_RX0_68 dX0_runLink_4 ?_
  refine o_getR (j := 1) C kt_5 rfl rfl (Nat.le_of_ble_eq_true rfl) lkf_RX0_122 dX0_runLink_7 ?_
  refine o_iload_n C 1 dX0_runLink_10 rfl rfl ?_
  refine o_iald C kt_6 rfl hz1 dX0_runLink_11 h (fun h => ?_)
  refine o_lt h (hμ.i kt_6 (by decide) _) (fun x1 hx1 h => ?_)
  refine o_istore_n (lv2 := [(2, vI x1), (0, gR G 27), (1, vI z1)]) C dX0_runLink_12 rfl (by decide) rfl ?_
  refine o_aload_n C 1 dX0_runLink_13 rfl rfl ?_
  refine o_getR (j := 0) C kt_27 rfl rfl (Nat.le_of_ble_eq_true rfl) lkf_RX0_22 dX0_runLink_14 ?_
  refine o_getR (j := 4) C kt_1 rfl rfl (Nat.le_of_ble_eq_true rfl) lkf_RX0_68 dX0_runLink_17 ?_
  refine o_getR (j := 2) C kt_5 rfl rfl (Nat.le_of_ble_eq_true rfl) lkf_RX0_125 dX0_runLink_20 ?_
  refine o_iload_n C 2 dX0_runLink_23 rfl rfl ?_
  refine o_iald C kt_7 rfl hz1 dX0_runLink_24 h (fun h => ?_)
  refine o_lt h (hμ.i kt_7 (by decide) _) (fun x2 hx2 h => ?_)
  refine o_istore_n (lv2 := [(3, vI x2), (2, vI x1), (0, gR G 27), (1, vI z1)]) C dX0_runLink_25 rfl (by decide) rfl ?_
  refine o_aload_n C 2 dX0_runLink_26 rfl rfl ?_
  refine o_getR (j := 0) C kt_27 rfl rfl (Nat.le_of_ble_eq_true rfl) lkf_RX0_22 dX0_runLink_27 ?_
  refine o_getR (j := 4) C kt_1 rfl rfl (Nat.le_of_ble_eq_true rfl) lkf_RX0_68 dX0_runLink_30 ?_
  refine o_getR (j := 3) C kt_5 rfl rfl (Nat.le_of_ble_eq_true rfl) lkf_RX0_128 dX0_runLink_33 ?_
  refine o_iload_n C 3 dX0_runLink_36 rfl rfl ?_
  refine o_iald C kt_8 rfl hz1 dX0_runLink_37 h (fun h => ?_)
  refine o_aload_n C 2 dX0_runLink_38 rfl rfl ?_
  refine o_getR (j := 3) C kt_27 rfl rfl (Nat.le_of_ble_eq_true rfl) lkf_RX0_19 dX0_runLink_39 ?_
  refine o_iload_n C 1 dX0_runLink_42 rfl rfl ?_
  refine o_iald C kt_30 rfl hx1 dX0_runLink_43 h (fun h => ?_)
  refine o_aload_n C 2 dX0_runLink_44 rfl rfl ?_
  refine o_getR (j := 3) C kt_27 rfl rfl (Nat.le_of_ble_eq_true rfl) lkf_RX0_19 dX0_runLink_45 ?_
  refine o_iload_n C 0 dX0_runLink_48 rfl rfl ?_
  refine o_iald C kt_30 rfl hx2 dX0_runLink_49 h (fun h => ?_)
  refine o_isub C dX0_runLink_50 ?_
  refine o_imul C dX0_runLink_51 ?_
  refine o_bipush (v := 100) C dX0_runLink_52 (by decide) ?_
  refine o_idiv C (r32_w _) ⟨by decide, by decide⟩ dX0_runLink_54 h (fun h => ?_)
  refine o_lt h (r32_w _) (fun x3 hx3 h => ?_)
  refine o_istore (lv2 := [(4, vI x3), (3, vI x2), (2, vI x1), (0, gR G 27), (1, vI z1)]) C dX0_runLink_55 (by decide) rfl ?_
  refine o_iload C 0 dX0_runLink_57 rfl ?_
  refine o_if_ge (tgt := 78) C hx3 dX0_runLink_59 (by decide) h (fun _ h => ?_) (fun _ h => ?_)
  · refine o_aload_n C 3 dX0_runLink_78 rfl rfl ?_
    refine o_iload_n C 1 dX0_runLink_79 rfl rfl ?_
    refine o_aload_n C 3 dX0_runLink_80 rfl rfl ?_
    refine o_iload_n C 2 dX0_runLink_81 rfl rfl ?_
    refine o_iload C 0 dX0_runLink_82 rfl ?_
    refine o_cVI C [vI x1, vI x3] mb_X0_leave (by decide) (fun _ hu => c_X0_leave hx1 hx3 hμ hu) rfl (Nat.le_of_ble_eq_true rfl) h mi_X0_leave me_X0_leave lkm_RX0_100 kt_27 rfl rfl rfl dX0_runLink_84 (fun x4 μ5 hx4 hμ5 h => ?_)
    refine o_cVV C [vI x2, vI x4] mb_X0_arrive (by decide) (fun _ hu => c_X0_arrive hx2 hx4 hμ5 hu) rfl (Nat.le_of_ble_eq_true rfl) h mi_X0_arrive me_X0_arrive lkm_RX0_51 kt_27 rfl rfl rfl dX0_runLink_87 (fun _x6 μ7 hμ7 h => ?_)
    exact o_vret C hQ dX0_runLink_90 h hμ7
  · refine o_aload_n C 3 dX0_runLink_62 rfl rfl ?_
    refine o_iload_n C 2 dX0_runLink_63 rfl rfl ?_
    refine o_aload_n C 3 dX0_runLink_64 rfl rfl ?_
    refine o_iload_n C 1 dX0_runLink_65 rfl rfl ?_
    refine o_iload C 0 dX0_runLink_66 rfl ?_
    refine o_ineg C dX0_runLink_68 ?_
    refine o_cVI C [vI x2, vI (w32 (-x3))] mb_X0_leave (by decide) (fun _ hu => c_X0_leave hx2 (r32_w _) hμ hu) rfl (Nat.le_of_ble_eq_true rfl) h mi_X0_leave me_X0_leave lkm_RX0_100 kt_27 rfl rfl rfl dX0_runLink_69 (fun x8 μ9 hx8 hμ9 h => ?_)
    refine o_cVV C [vI x1, vI x8] mb_X0_arrive (by decide) (fun _ hu => c_X0_arrive hx1 hx8 hμ9 hu) rfl (Nat.le_of_ble_eq_true rfl) h mi_X0_arrive me_X0_arrive lkm_RX0_51 kt_27 rfl rfl rfl dX0_runLink_72 (fun _x10 μ11 hμ11 h => ?_)
    refine o_goto (tgt := 90) C dX0_runLink_75 (by decide) ?_
    exact o_vret C hQ dX0_runLink_90 h hμ11
theorem c_X0_runLink {z1 : Int} (hz1 : r32 z1) {μ : GM} (hμ : gRg μ) {u : Int × GM} (h : f_X0_runLink z1 μ = some u) : MtV 2 yX0_runLink cX0_runLink 5 none (fun ad => [.ref (ad 27), vI z1]) μ u := MtV.of pf_X0_runLink (fun _ => Nat.le_of_ble_eq_true rfl) (fun G C hQ => w_X0_runLink_0 C hQ hz1 hμ h)
